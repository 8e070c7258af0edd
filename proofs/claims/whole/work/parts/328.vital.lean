/-! ===== loops over pairs; vital ===== -/
theorem pairL {α β : Type} {n N : Nat} {Lo : Nat → Nat → α → Option β} {Li : Nat → Nat → Nat → Nat → α → Option β} (I : Nat → Nat → α → Prop) {o : Option β → Prop} (hN : n + 1 < N)
    (outer : ∀ m a s, a < n → I a (a + 1) s → Lo (m + 1) a s = Li m a N (a + 1) s)
    (inner : ∀ m a f b s, a < n → b < n → a < b → I a b s → ∃ s', I a (b + 1) s' ∧ Li m a (f + 1) b s = Li m a f (b + 1) s')
    (endrow : ∀ m a f s, a < n → I a n s → Li m a (f + 1) n s = Lo m (a + 1) s)
    (next : ∀ a s, a < n → I a n s → I (a + 1) (a + 2) s)
    (fin : ∀ m s, I n (n + 1) s → o (Lo (m + 1) n s)) {s0 : α} (h0 : I 0 1 s0) : o (Lo N 0 s0) := by
  refine forL0 (L := fun m a s => Lo m a s) (m := n) (fun a s => I a (a + 1) s) (by omega) h0 ?_ fin
  intro m a s ha hI
  left
  have key : ∀ d f b s, b + d = n → a < b → d < f → I a b s → ∃ s', I a n s' ∧ Li m a f b s = Lo m (a + 1) s' := by
    intro d
    induction d with
    | zero =>
      intro f b s hb1 hab hf hs
      obtain ⟨f, rfl⟩ : ∃ k, f = k + 1 := ⟨f - 1, by omega⟩
      have : b = n := by omega
      subst this
      exact ⟨s, hs, endrow m a f s ha hs⟩
    | succ d ih =>
      intro f b s hb1 hab hf hs
      obtain ⟨f, rfl⟩ : ∃ k, f = k + 1 := ⟨f - 1, by omega⟩
      obtain ⟨s', h1, h2⟩ := inner m a f b s ha (by omega) hab hs
      rw [h2]
      exact ih f (b + 1) s' (by omega) (by omega) (by omega) h1
  obtain ⟨s', h1, h2⟩ := key (n - (a + 1)) N (a + 1) s (by omega) (by omega) (by omega) hI
  exact ⟨s', next a s' ha h1, by rw [outer m a s ha hI, h2]⟩
def rowS {α : Type} (f : Nat → Nat → α → α) (a : Nat) : Nat → α → α
  | 0, s => s
  | d + 1, s => f a (a + 1 + d) (rowS f a d s)
def prA {α : Type} (f : Nat → Nat → α → α) (n : Nat) (s0 : α) : Nat → α
  | 0 => s0
  | a + 1 => rowS f a (n - (a + 1)) (prA f n s0 a)
def prS {α : Type} (f : Nat → Nat → α → α) (n : Nat) (s0 : α) (a b : Nat) : α := rowS f a (b - (a + 1)) (prA f n s0 a)
theorem prS_s {α : Type} (f : Nat → Nat → α → α) (n : Nat) (s0 : α) {a b : Nat} (h : a < b) : prS f n s0 a (b + 1) = f a b (prS f n s0 a b) := by
  unfold prS
  rw [show b + 1 - (a + 1) = (b - (a + 1)) + 1 by omega]
  show f a (a + 1 + (b - (a + 1))) _ = _
  rw [show a + 1 + (b - (a + 1)) = b by omega]
theorem prS_n {α : Type} (f : Nat → Nat → α → α) (n : Nat) (s0 : α) (a : Nat) : prS f n s0 (a + 1) (a + 2) = prS f n s0 a n := by
  unfold prS
  rw [show a + 2 - (a + 1 + 1) = 0 by omega]
  rfl
theorem prS_0 {α : Type} (f : Nat → Nat → α → α) (n : Nat) (s0 : α) : prS f n s0 0 1 = s0 := rfl
theorem tog_tog (r : Nat → Int32) {a b : Nat} (ha : a < 8) (hb1 : b < 8) (hab : a ≠ b) : togS (togS r a b) a b = r := by
  apply row_ext
  · intro k hk; rw [togS_o _ ha hb1 (by omega), togS_o _ ha hb1 (by omega)]
  · intro k hk; rw [togS_o _ ha hb1 (by omega), togS_o _ ha hb1 (by omega)]
  · intro k hk; rw [togS_o _ ha hb1 (by omega), togS_o _ ha hb1 (by omega)]
  · intro k hk
    apply hb_ext
    intro i _
    rw [hb_togS _ ha hb1 hab hk, hb_togS _ ha hb1 hab hk]
    cases hb (r (24 + k)) i <;> cases ((decide (k = a) && decide (i = b)) || (decide (k = b) && decide (i = a))) <;> rfl
  · intro j hj; rw [togS_o _ ha hb1 (by omega), togS_o _ ha hb1 (by omega)]
/-- a string tied or cut, what floats then, and back -/
theorem try_c {N : Nat} (hN : 40 < N) {σ : Sg} {L : Ld} {H : Nat} (hR : RuC σ L) {r : Nat → Int32} (hr : rC σ 24 = r) (hW : WF L.1 9 H r) (hH : H < 1000000) {a b : Nat} (ha : a < L.1) (hb1 : b < L.1) (hab : a ≠ b) (ga : hb (r 32) a = false) (gb : hb (r 32) b = false) :
    ∃ σ1 k2 σ2 σ3, X5_toggle N 24 (nI a) (nI b) σ = some σ1 ∧ (gi σ1 5 2).toNatClampNeg = k2 ∧ isRule k2 = true ∧ X0_floating N 24 k2 σ1 = some (floatS L (togS r a b), σ2) ∧ X5_toggle N 24 (nI a) (nI b) σ2 = some σ3 ∧ rC σ3 24 = r ∧ Fr (HK 24) σ σ3 := by
  have h8 := hW.1.2.2.2.2
  obtain ⟨σ1, t1, t2, t3⟩ := toggle_b N (Or.inr rfl : (24 : Nat) = 19 ∨ (24 : Nat) = 24) (show a < 8 by omega) (show b < 8 by omega) σ
  rw [hr] at t2
  have hW1 := tog_wf hW ha hb1 hab ga gb
  obtain ⟨k2, m1, m2, m3, m4⟩ := (hR.fr t3 (by decide)).rule
  obtain ⟨h, hh, e36⟩ := hW1.h36
  obtain ⟨σ2, e1, e2, e3, e4⟩ := floating_c (N := N) hN (Or.inr rfl : (24 : Nat) = 19 ∨ (24 : Nat) = 24) m4 (show h < 2147483648 by omega) (by rw [t2]; exact e36) (by rw [t2]; exact hW1.1)
  rw [t2] at e1
  have r2 : rC σ2 24 = togS r a b := (e4.row24 (by decide)).trans t2
  obtain ⟨σ3, u1, u2, u3⟩ := toggle_b N (Or.inr rfl : (24 : Nat) = 19 ∨ (24 : Nat) = 24) (show a < 8 by omega) (show b < 8 by omega) σ2
  rw [r2, tog_tog r (by omega) (by omega) hab] at u2
  exact ⟨σ1, k2, σ2, σ3, t1, m2, m3, e1, u1, u2, ((t3.mono (by decide)).trans (e4.mono (by decide))).trans (u3.mono (by decide))⟩
theorem try_r {N : Nat} (hN : 40 < N) {σ : Sg} {L : Ld} {H : Nat} (hL : LR σ L) {r : Nat → Int32} (hr : rR σ 153 = r) (hW : WF L.1 9 H r) (hH : H < 1000000) {a b : Nat} (ha : a < L.1) (hb1 : b < L.1) (hab : a ≠ b) (ga : hb (r 32) a = false) (gb : hb (r 32) b = false) :
    ∃ σ1 σ2 σ3, X9_copies N σ = some σ1 ∧ X9_toggles N 154 (nI a) (nI b) σ1 = some σ2 ∧ X9_floating N 154 σ2 = some (floatS L (togS r a b), σ3) ∧ Fr [154, 159, 160] σ σ3 := by
  have h8 := hW.1.2.2.2.2
  obtain ⟨σ1, b1, b2, b3⟩ := copies_r (N := N) (by omega) σ
  obtain ⟨σ2, t1, t2, t3⟩ := toggles_b N (Or.inr rfl : (154 : Nat) = 153 ∨ (154 : Nat) = 154) (show a < 8 by omega) (show b < 8 by omega) σ1
  rw [b2, hr] at t2
  have hW1 := tog_wf hW ha hb1 hab ga gb
  obtain ⟨h, hh, e36⟩ := hW1.h36
  obtain ⟨σ3, e1, e2⟩ := floating_r (N := N) hN (Or.inr rfl : (154 : Nat) = 153 ∨ (154 : Nat) = 154) ((hL.fr b3 (by decide)).fr t3 (by decide)) (show h < 2147483648 by omega) (by rw [t2]; exact e36) (by rw [t2]; exact hW1.1)
  rw [t2] at e1
  exact ⟨σ1, σ2, σ3, b1, t1, e1, ((b3.mono (by decide)).trans (t3.mono (by decide))).trans (e2.mono (by decide))⟩
/-! vital -/
abbrev Vs : Type := Nat × Option (Nat × Nat)
def vtP (L : Ld) (r : Nat → Int32) (a b : Nat) : Bool := hb (r (24 + a)) b && !decide (floatS L (togS r a b) &&& (floatS L r ^^^ (-1)) = 0)
def fst1 (a b : Nat) : Option (Nat × Nat) → Option (Nat × Nat)
  | none => some (a, b)
  | some x => some x
def vtF (L : Ld) (r : Nat → Int32) (a b : Nat) (s : Vs) : Vs := if vtP L r a b then (s.1 + 1, fst1 a b s.2) else s
def vtL (x : Int64) (s : Vs) : List Int64 := x :: (match s.2 with
  | none => []
  | some p => [(nI p.1).toInt64, (nI p.2).toInt64])
theorem vtL_len (x : Int64) (s : Vs) : (vtL x s).length ≤ 3 := by
  unfold vtL
  cases s.2 <;> simp
theorem down_eq {L : Ld} {r : Nat → Int32} (h8 : L.1 ≤ 8) {a b : Nat} (ha : a < 8) (hb1 : b < 8) : floatS L (togS r a b) &&& (hereS L r &&& (floatS L r ^^^ (-1))) = floatS L (togS r a b) &&& (floatS L r ^^^ (-1)) := by
  apply hb_ext
  intro j _
  rw [hb_and, hb_and, hb_and]
  cases hx : hb (floatS L (togS r a b)) j
  · rfl
  · have z := (hb_floatS h8 j).mp hx
    rw [togS_o _ ha hb1 (by omega)] at z
    rw [(hb_here h8 j).mpr ⟨z.1, z.2.1⟩]
    simp
theorem tied_here {n S H : Nat} {r : Nat → Int32} (hW : WF n S H r) {a b : Nat} (ha : a < 8) (hb1 : b < 8) (h : hb (r (24 + a)) b = true) : hb (r 32) a = false ∧ hb (r 32) b = false := by
  constructor
  · cases hx : hb (r 32) a
    · rfl
    · rw [hW.1.2.2.1 a ha hx, hb_0] at h; cases h
  · cases hx : hb (r 32) b
    · rfl
    · rw [hW.1.2.1 a b ha hb1, hW.1.2.2.1 b hb1 hx, hb_0] at h; cases h
def vtO (a b : Nat) (s : Vs) : Prop := (s.1 = 0 ↔ s.2 = none) ∧ s.1 + a + 1 ≤ 8 * a + b
theorem vital_op {N : Nat} (hN : 555 < N) {H : Nat} {A : Ab} (hA : OkA H A) (hH : H < 1000000) : OpB (X8_vital N) (X9_vital N) H A := by
  have h8 := hA.1.1.2.2.2.2
  have hW := hA.1.1
  have hO : ∀ a b, a < A.1.1 → b < A.1.1 → a < b → vtO a b (prS (vtF A.1 A.2.1) A.1.1 (0, none) a b) → vtO a (b + 1) (prS (vtF A.1 A.2.1) A.1.1 (0, none) a (b + 1)) := by
    intro a b ha hb1 hab ho
    rw [prS_s _ _ _ hab]
    generalize prS (vtF A.1 A.2.1) A.1.1 (0, none) a b = s at *
    obtain ⟨c, f⟩ := s
    obtain ⟨o1, o2⟩ := ho
    dsimp only at o1 o2
    unfold vtF vtO
    by_cases q : vtP A.1 A.2.1 a b = true
    · rw [if_pos q]
      refine ⟨?_, by dsimp only; omega⟩
      dsimp only
      cases f <;> simp [fst1]
    · rw [if_neg q]; exact ⟨o1, by dsimp only; omega⟩
  have hO2 : ∀ a, a < A.1.1 → vtO a A.1.1 (prS (vtF A.1 A.2.1) A.1.1 (0, none) a A.1.1) → vtO (a + 1) (a + 2) (prS (vtF A.1 A.2.1) A.1.1 (0, none) (a + 1) (a + 2)) := by
    intro a ha ho
    rw [prS_n]
    exact ⟨ho.1, by have := ho.2; omega⟩
  have hO0 : vtO 0 1 (prS (vtF A.1 A.2.1) A.1.1 (0, none) 0 1) := ⟨by rw [prS_0]; simp, by rw [prS_0]; simp⟩
  refine OpB.told hA (nI (prS (vtF A.1 A.2.1) A.1.1 (0, none) A.1.1 (A.1.1 + 1)).1) (vtL (cntL A.2.1).toInt64 (prS (vtF A.1 A.2.1) A.1.1 (0, none) A.1.1 (A.1.1 + 1))) (by have := vtL_len (cntL A.2.1).toInt64 (prS (vtF A.1 A.2.1) A.1.1 (0, none) A.1.1 (A.1.1 + 1)); omega) (fun σ hσ => ?_) (fun σ hσ => ?_)
  · obtain ⟨k2, σ1, m2, m3, e1, e2, e3, e4⟩ := float19 (N := N) (by omega) hσ hA hH
    have r1 : rC σ1 19 = A.2.1 := (e4.row19 (by decide)).trans hσ.2.1
    obtain ⟨σ2, b1, b2, b3⟩ := become_c (N := N) (by omega) (k0 := 24) (k1 := 19) (by omega) (by omega) σ1
    rw [r1] at b2
    have f2 : Fr scrC σ σ2 := (e4.mono (by decide)).trans (b3.mono (by decide))
    have r2 : rC σ2 19 = A.2.1 := (f2.row19 (by decide)).trans hσ.2.1
    obtain ⟨σ3, g1, g2, g3⟩ := tell1_c N (cntL A.2.1).toInt64 σ2
    unfold X8_vital
    rw [m2, m3, if_pos rfl, e1, Option.bind_some, b1, Option.bind_some, stringCount_s (by omega), Option.bind_some, r2, g1, Option.bind_some]
    refine pairL (n := A.1.1) (N := N) (Lo := fun m a (s : Vs × Sg) => X8_vital_l49 N m (floatS A.1 A.2.1) (nI s.1.1) (nI a) s.2)
      (Li := fun m a f b s => X8_vital_l65 N (fun v1 v2 v3 σ => X8_vital_j133 N (fun v1 v2 v3 σ => X8_vital_l49 N m v1 v2 v3 σ) v1 v2 v3 σ) f (floatS A.1 A.2.1) (nI s.1.1) (nI a) (nI b) s.2)
      (fun a b s => s.1 = prS (vtF A.1 A.2.1) A.1.1 (0, none) a b ∧ vtO a b s.1 ∧ ToC s.2 (vtL (cntL A.2.1).toInt64 s.1) ∧ rC s.2 24 = A.2.1 ∧ Fr scrC σ s.2) (o := fun x => ∃ σ', x = some (nI (prS (vtF A.1 A.2.1) A.1.1 (0, none) A.1.1 (A.1.1 + 1)).1, σ') ∧ ToC σ' (vtL (cntL A.2.1).toInt64 (prS (vtF A.1 A.2.1) A.1.1 (0, none) A.1.1 (A.1.1 + 1))) ∧ Fr scrC σ σ') (by omega) ?_ ?_ ?_ ?_ ?_ (s0 := ((0, none), σ3)) ⟨rfl, hO0, g2, (g3.row24 (by decide)).trans b2, f2.trans (g3.mono (by decide))⟩
    · rintro m a ⟨s, τ⟩ ha ⟨_, _, _, _, fI⟩
      dsimp only at fI ⊢
      rw [X8_vital_l49, (fI.g (k := 5) (j := 1) (by decide)).trans hσ.1.n.1, if_neg (n_le ha (by omega)), nI1]
    · rintro m a f b ⟨s, τ⟩ ha hb1 hab ⟨i1, i2, i3, i4, i5⟩
      dsimp only at i1 i2 i3 i4 i5 ⊢
      have nt := (i5.g (k := 5) (j := 1) (by decide)).trans hσ.1.n.1
      have rt : rC τ 19 = A.2.1 := (i5.row19 (by decide)).trans hσ.2.1
      have hl : gi τ (19 + 4) a = A.2.1 (24 + a) := by rw [← rC_l (show a < 8 by omega), rt]
      have hnx : prS (vtF A.1 A.2.1) A.1.1 (0, none) a (b + 1) = vtF A.1 A.2.1 a b s := by rw [prS_s _ _ _ hab, i1]
      have ho := hO a b ha hb1 hab (i1 ▸ i2)
      rw [hnx] at ho
      by_cases q : hb (A.2.1 (24 + a)) b = true
      · obtain ⟨ga, gb⟩ := tied_here hA.1 (by omega) (by omega) q
        obtain ⟨τ1, kk, τ2, τ3, t1, t2, t3, t4, t5, t6, t7⟩ := try_c (N := N) (by omega) (hσ.1.fr i5 (by decide)) i4 hA.1 hH ha hb1 (by omega) ga gb
        have hrw : X8_risesWithout N (nI a) (nI b) (floatS A.1 A.2.1) τ = (if floatS A.1 (togS A.2.1 a b) &&& (floatS A.1 A.2.1 ^^^ (-1)) = 0 then some (0, τ3) else some (1, τ3)) := by
          unfold X8_risesWithout
          rw [t1, Option.bind_some, t2, t3, if_pos rfl, t4, Option.bind_some, t5, Option.bind_some]
        have f3 : Fr scrC σ τ3 := i5.trans (t7.mono (by decide))
        have to3 := i3.fr t7 (by decide)
        by_cases q2 : floatS A.1 (togS A.2.1 a b) &&& (floatS A.1 A.2.1 ^^^ (-1)) = 0
        · have hp : vtP A.1 A.2.1 a b = false := by unfold vtP; rw [decide_eq_true q2]; simp
          have hs : vtF A.1 A.2.1 a b s = s := by unfold vtF; rw [hp]; rfl
          rw [hs] at hnx ho
          refine ⟨(s, τ3), ⟨hnx.symm, ho, to3, t6, f3⟩, ?_⟩
          dsimp only
          rw [X8_vital_l65, nt, if_neg (n_le hb1 (by omega)), isTied_b N 19 (by omega) (by omega), Option.bind_some, hl, if_pos q, if_neg oneF, hrw, if_pos q2, Option.bind_some, if_pos rfl, nI1]
        · have hp : vtP A.1 A.2.1 a b = true := by unfold vtP; rw [decide_eq_false q2, q]; rfl
          obtain ⟨c, fo⟩ := s
          have hs : vtF A.1 A.2.1 a b (c, fo) = (c + 1, fst1 a b fo) := by unfold vtF; rw [hp]; rfl
          cases fo with
          | none =>
            have hc0 : c = 0 := i2.1.mpr rfl
            subst hc0
            obtain ⟨τ4, a1, a2, a3⟩ := tadd_c N to3 (by have := vtL_len (cntL A.2.1).toInt64 (0, none); omega) (nI a).toInt64
            obtain ⟨τ5, b1, b2, b3⟩ := tadd_c N a2 (by have := vtL_len (cntL A.2.1).toInt64 (0, none); simp; omega) (nI b).toInt64
            have hs : vtF A.1 A.2.1 a b (0, none) = (0 + 1, some (a, b)) := hs
            rw [hs] at hnx ho
            refine ⟨((0 + 1, some (a, b)), τ5), ⟨hnx.symm, ho, b2, (b3.row24 (by decide)).trans ((a3.row24 (by decide)).trans t6), (f3.trans (a3.mono (by decide))).trans (b3.mono (by decide))⟩, ?_⟩
            dsimp only
            rw [X8_vital_l65, nt, if_neg (n_le hb1 (by omega)), isTied_b N 19 (by omega) (by omega), Option.bind_some, hl, if_pos q, if_neg oneF, hrw, if_neg q2, Option.bind_some, if_neg oneF, if_pos nI_0, a1, Option.bind_some, b1, Option.bind_some, nI1, nI1]
          | some x =>
            have hc0 : c ≠ 0 := fun z => by have := i2.1.mp z; cases this
            have hcb : c ≤ 100 := by have := i2.2; omega
            have hs : vtF A.1 A.2.1 a b (c, some x) = (c + 1, some x) := hs
            rw [hs] at hnx ho
            refine ⟨((c + 1, some x), τ3), ⟨hnx.symm, ho, to3, t6, f3⟩, ?_⟩
            dsimp only
            rw [X8_vital_l65, nt, if_neg (n_le hb1 (by omega)), isTied_b N 19 (by omega) (by omega), Option.bind_some, hl, if_pos q, if_neg oneF, hrw, if_neg q2, Option.bind_some, if_neg oneF, if_neg (nI_ne0 (by omega) (by omega)), nI1, nI1]
      · have q' : hb (A.2.1 (24 + a)) b = false := by simpa using q
        have hp : vtP A.1 A.2.1 a b = false := by unfold vtP; rw [q']; rfl
        have hs : vtF A.1 A.2.1 a b s = s := by unfold vtF; rw [hp]; rfl
        rw [hs] at hnx ho
        refine ⟨(s, τ), ⟨hnx.symm, ho, i3, i4, i5⟩, ?_⟩
        dsimp only
        rw [X8_vital_l65, nt, if_neg (n_le hb1 (by omega)), isTied_b N 19 (by omega) (by omega), Option.bind_some, hl, if_neg q, if_pos rfl, nI1]
    · rintro m a f ⟨s, τ⟩ ha ⟨_, _, _, _, fI⟩
      dsimp only at fI ⊢
      rw [X8_vital_l65, (fI.g (k := 5) (j := 1) (by decide)).trans hσ.1.n.1, if_pos (nI_le (Nat.le_refl _) (by omega)), X8_vital_j133, nI1]
    · rintro a ⟨s, τ⟩ ha ⟨i1, i2, i3, i4, i5⟩
      dsimp only at i1 i2 i3 i4 i5 ⊢
      refine ⟨by rw [prS_n]; exact i1, ?_, i3, i4, i5⟩
      have := hO2 a ha (i1 ▸ i2)
      rw [prS_n, ← i1] at this
      exact this
    · rintro m ⟨s, τ⟩ ⟨i1, i2, i3, i4, i5⟩
      dsimp only at i1 i2 i3 i4 i5 ⊢
      subst i1
      refine ⟨τ, ?_, i3, i5⟩
      rw [X8_vital_l49, (i5.g (k := 5) (j := 1) (by decide)).trans hσ.1.n.1, if_pos (nI_le (Nat.le_refl _) (by omega))]
  · have f0 := thrown_f σ 0
    have c1 := hσ.1.fr f0 (by decide)
    have r0' : rR (wi σ 149 0 0) 153 = A.2.1 := (rR_congr (f0.r (by simp [pl]))).trans hσ.2.1
    obtain ⟨σ1, e1, e2⟩ := float153 (N := N) (by omega) c1 r0' hA hH
    unfold X9_vital
    simp only [bnS]
    rw [here_r N c1.1, Option.bind_some, r0', e1, Option.bind_some]
    refine pairL (n := A.1.1) (N := N) (Lo := fun m a (s : Vs × Sg) => X9_vital_l35 N (fun v2 v3 v4 σ => X9_vital_j166 N v2 v3 v4 σ) m (hereS A.1 A.2.1 &&& (floatS A.1 A.2.1 ^^^ (-1))) (nI s.1.1) (match s.1.2 with | none => -1 | some x => nI x.1) (match s.1.2 with | none => -1 | some x => nI x.2) (nI a) s.2)
      (Li := fun m a f b s => X9_vital_l50 N (fun v1 v2 v3 v4 v5 σ => X9_vital_j160 N (fun v1 v2 v3 v4 v5 σ => X9_vital_l35 N (fun v2 v3 v4 σ => X9_vital_j166 N v2 v3 v4 σ) m v1 v2 v3 v4 v5 σ) v1 v2 v3 v4 v5 σ) f (hereS A.1 A.2.1 &&& (floatS A.1 A.2.1 ^^^ (-1))) (nI s.1.1) (match s.1.2 with | none => -1 | some x => nI x.1) (match s.1.2 with | none => -1 | some x => nI x.2) (nI a) (nI b) s.2)
      (fun a b s => s.1 = prS (vtF A.1 A.2.1) A.1.1 (0, none) a b ∧ vtO a b s.1 ∧ Fr [154, 159, 160] (wi σ 149 0 0) s.2) (o := fun x => ∃ σ', x = some (nI (prS (vtF A.1 A.2.1) A.1.1 (0, none) A.1.1 (A.1.1 + 1)).1, σ') ∧ ToR σ' (vtL (cntL A.2.1).toInt64 (prS (vtF A.1 A.2.1) A.1.1 (0, none) A.1.1 (A.1.1 + 1))) ∧ Fr scrR σ σ') (by omega) ?_ ?_ ?_ ?_ ?_ (s0 := ((0, none), σ1)) ⟨rfl, hO0, e2.mono (by decide)⟩
    · rintro m a ⟨s, τ⟩ ha ⟨_, _, fI⟩
      dsimp only at fI ⊢
      rw [X9_vital_l35, (fI.g (k := 149) (j := 3) (by decide)).trans c1.1, if_neg (n_le ha (by omega)), nI1]
    · rintro m a f b ⟨s, τ⟩ ha hb1 hab ⟨i1, i2, i3⟩
      dsimp only at i1 i2 i3 ⊢
      have Lt := c1.fr i3 (by decide)
      have rt : rR τ 153 = A.2.1 := (rR_congr (i3.r (by simp [pl]))).trans r0'
      have hl : gi τ 153 (24 + a) = A.2.1 (24 + a) := by rw [← rt, rR_j (by omega)]
      have hnx : prS (vtF A.1 A.2.1) A.1.1 (0, none) a (b + 1) = vtF A.1 A.2.1 a b s := by rw [prS_s _ _ _ hab, i1]
      have ho := hO a b ha hb1 hab (i1 ▸ i2)
      rw [hnx] at ho
      have e24 : (24 : Int32) + nI a = nI (24 + a) := nI_add 24 a
      have fl0 : ∀ τ', X9_flag N 0 τ' = some 0 := fun _ => rfl
      have fl1 : ∀ τ', X9_flag N 1 τ' = some 1 := fun _ => rfl
      by_cases q : hb (A.2.1 (24 + a)) b = true
      · obtain ⟨ga, gb⟩ := tied_here hA.1 (by omega) (by omega) q
        obtain ⟨τ1, τ2, τ3, t1, t2, t3, t4⟩ := try_r (N := N) (by omega) Lt rt hA.1 hH ha hb1 (by omega) ga gb
        by_cases q2 : floatS A.1 (togS A.2.1 a b) &&& (floatS A.1 A.2.1 ^^^ (-1)) = 0
        · have hp : vtP A.1 A.2.1 a b = false := by unfold vtP; rw [decide_eq_true q2]; simp
          have hs : vtF A.1 A.2.1 a b s = s := by unfold vtF; rw [hp]; rfl
          rw [hs] at hnx ho
          refine ⟨(s, τ3), ⟨hnx.symm, ho, i3.trans t4⟩, ?_⟩
          dsimp only
          rw [X9_vital_l50, Lt.1, if_neg (n_le hb1 (by omega)), e24, inbI (show 24 + a < 37 by omega) (by omega), clI (by omega), hl, if_pos rfl, has_t N (by omega) q, Option.bind_some, if_neg oneF, t1, Option.bind_some, t2, Option.bind_some, t3, Option.bind_some, down_eq h8 (by omega) (by omega), if_pos q2, X9_vital_j110, if_pos rfl, X9_vital_j127, if_pos rfl, X9_vital_j144, fl0, Option.bind_some, nI1]
          simp
        · have hp : vtP A.1 A.2.1 a b = true := by unfold vtP; rw [decide_eq_false q2, q]; rfl
          obtain ⟨c, fo⟩ := s
          have hs : vtF A.1 A.2.1 a b (c, fo) = (c + 1, fst1 a b fo) := by unfold vtF; rw [hp]; rfl
          cases fo with
          | none =>
            have hc0 : c = 0 := i2.1.mpr rfl
            subst hc0
            have hs : vtF A.1 A.2.1 a b (0, none) = (0 + 1, some (a, b)) := hs
            rw [hs] at hnx ho
            refine ⟨((0 + 1, some (a, b)), τ3), ⟨hnx.symm, ho, i3.trans t4⟩, ?_⟩
            dsimp only
            rw [X9_vital_l50, Lt.1, if_neg (n_le hb1 (by omega)), e24, inbI (show 24 + a < 37 by omega) (by omega), clI (by omega), hl, if_pos rfl, has_t N (by omega) q, Option.bind_some, if_neg oneF, t1, Option.bind_some, t2, Option.bind_some, t3, Option.bind_some, down_eq h8 (by omega) (by omega), if_neg q2, X9_vital_j110, if_neg oneF, if_pos nI_0, X9_vital_j127, if_neg oneF, if_pos nI_0, X9_vital_j144, fl1, Option.bind_some, nI1, nI1]
          | some x =>
            have hc0 : c ≠ 0 := fun z => by have := i2.1.mp z; cases this
            have hcb : c ≤ 100 := by have := i2.2; omega
            have hcn : ¬ nI c = 0 := nI_ne0 (by omega) (by omega)
            have hs : vtF A.1 A.2.1 a b (c, some x) = (c + 1, some x) := hs
            rw [hs] at hnx ho
            refine ⟨((c + 1, some x), τ3), ⟨hnx.symm, ho, i3.trans t4⟩, ?_⟩
            dsimp only
            rw [X9_vital_l50, Lt.1, if_neg (n_le hb1 (by omega)), e24, inbI (show 24 + a < 37 by omega) (by omega), clI (by omega), hl, if_pos rfl, has_t N (by omega) q, Option.bind_some, if_neg oneF, t1, Option.bind_some, t2, Option.bind_some, t3, Option.bind_some, down_eq h8 (by omega) (by omega), if_neg q2, X9_vital_j110, if_neg oneF, if_neg hcn, X9_vital_j127, if_neg oneF, if_neg hcn, X9_vital_j144, fl1, Option.bind_some, nI1, nI1]
      · have q' : hb (A.2.1 (24 + a)) b = false := by simpa using q
        have hp : vtP A.1 A.2.1 a b = false := by unfold vtP; rw [q']; rfl
        have hs : vtF A.1 A.2.1 a b s = s := by unfold vtF; rw [hp]; rfl
        rw [hs] at hnx ho
        refine ⟨(s, τ), ⟨hnx.symm, ho, i3⟩, ?_⟩
        dsimp only
        rw [X9_vital_l50, Lt.1, if_neg (n_le hb1 (by omega)), e24, inbI (show 24 + a < 37 by omega) (by omega), clI (by omega), hl, if_pos rfl, has_f N (by omega) q', Option.bind_some, if_pos rfl, nI1]
    · rintro m a f ⟨s, τ⟩ ha ⟨_, _, fI⟩
      dsimp only at fI ⊢
      rw [X9_vital_l50, (fI.g (k := 149) (j := 3) (by decide)).trans c1.1, if_pos (nI_le (Nat.le_refl _) (by omega)), X9_vital_j160, nI1]
    · rintro a ⟨s, τ⟩ ha ⟨i1, i2, i3⟩
      dsimp only at i1 i2 i3 ⊢
      refine ⟨by rw [prS_n]; exact i1, ?_, i3⟩
      have := hO2 a ha (i1 ▸ i2)
      rw [prS_n, ← i1] at this
      exact this
    · rintro m ⟨s, τ⟩ ⟨i1, i2, i3⟩
      dsimp only at i1 i2 i3 ⊢
      rw [← i1]
      have Lt := c1.fr i3 (by decide)
      have rt : rR τ 153 = A.2.1 := (rR_congr (i3.r (by simp [pl]))).trans r0'
      have tf := told0_f τ
      have nt : gi (wi τ 149 1 0) 149 3 = nI A.1.1 := (tf.g (k := 149) (j := 3) (by decide)).trans Lt.1
      have rtt : rR (wi τ 149 1 0) 153 = A.2.1 := (rR_congr (tf.r (by simp [pl]))).trans rt
      obtain ⟨σ4, g1, g2, g3⟩ := enters_r N (told0_r τ) (by decide) (cntL A.2.1).toInt64
      rw [X9_vital_l35, Lt.1, if_pos (nI_le (Nat.le_refl _) (by omega)), X9_vital_j166]
      simp only [bnS]
      rw [stringMany_s (by omega) nt (by rw [rtt]; exact hW), Option.bind_some, rtt, g1, Option.bind_some]
      have f4 : Fr scrR σ σ4 := ((f0.mono (by decide)).trans (i3.mono (by decide))).trans ((tf.trans g3).mono (by decide))
      obtain ⟨c, fo⟩ := s
      cases fo with
      | none =>
        have hc0 : c = 0 := i2.1.mpr rfl
        subst hc0
        refine ⟨σ4, ?_, g2, f4⟩
        rw [if_pos (by decide)]
      | some x =>
        have hc0 : c ≠ 0 := fun z => by have := i2.1.mp z; cases this
        have hcb : c ≤ 200 := by have := i2.2; omega
        obtain ⟨σ5, j1, j2, j3⟩ := enters_r N g2 (by simp) (nI x.1).toInt64
        obtain ⟨σ6, l1, l2, l3⟩ := enters_r N j2 (by simp) (nI x.2).toInt64
        refine ⟨σ6, ?_, l2, (f4.trans (j3.mono (by decide))).trans (l3.mono (by decide))⟩
        rw [if_neg (nI_nle (by omega) (by omega)), j1, Option.bind_some, l1]
        rfl
