/-! ===== loops over a rectangle; rests ===== -/
theorem rectL {α β : Type} {p q N : Nat} {Lo : Nat → Nat → α → Option β} {Li : Nat → Nat → Nat → Nat → α → Option β} (I : Nat → Nat → α → Prop) {o : Option β → Prop} (hp : p < N) (hq : q < N)
    (outer : ∀ m a s, a < p → I a 0 s → Lo (m + 1) a s = Li m a N 0 s)
    (inner : ∀ m a f b s, a < p → b < q → I a b s → ∃ s', I a (b + 1) s' ∧ Li m a (f + 1) b s = Li m a f (b + 1) s')
    (endrow : ∀ m a f s, a < p → I a q s → Li m a (f + 1) q s = Lo m (a + 1) s)
    (next : ∀ a s, a < p → I a q s → I (a + 1) 0 s)
    (fin : ∀ m s, I p 0 s → o (Lo (m + 1) p s)) {s0 : α} (h0 : I 0 0 s0) : o (Lo N 0 s0) := by
  refine forL0 (L := fun m a s => Lo m a s) (m := p) (fun a s => I a 0 s) hp h0 ?_ fin
  intro m a s ha hI
  left
  have key : ∀ d f b s, b + d = q → d < f → I a b s → ∃ s', I a q s' ∧ Li m a f b s = Lo m (a + 1) s' := by
    intro d
    induction d with
    | zero =>
      intro f b s hb1 hf hs
      obtain ⟨f, rfl⟩ : ∃ k, f = k + 1 := ⟨f - 1, by omega⟩
      have : b = q := by omega
      subst this
      exact ⟨s, hs, endrow m a f s ha hs⟩
    | succ d ih =>
      intro f b s hb1 hf hs
      obtain ⟨f, rfl⟩ : ∃ k, f = k + 1 := ⟨f - 1, by omega⟩
      obtain ⟨s', h1, h2⟩ := inner m a f b s ha (by omega) hs
      rw [h2]
      exact ih f (b + 1) s' (by omega) (by omega) h1
  obtain ⟨s', h1, h2⟩ := key q N 0 s (by omega) hq hI
  exact ⟨s', next a s' ha h1, by rw [outer m a s ha hI, h2]⟩
def recR {α : Type} (f : Nat → Nat → α → α) (a : Nat) : Nat → α → α
  | 0, s => s
  | d + 1, s => f a d (recR f a d s)
def recA {α : Type} (f : Nat → Nat → α → α) (q : Nat) (s0 : α) : Nat → α
  | 0 => s0
  | a + 1 => recR f a q (recA f q s0 a)
def reS {α : Type} (f : Nat → Nat → α → α) (q : Nat) (s0 : α) (a b : Nat) : α := recR f a b (recA f q s0 a)
theorem reS_s {α : Type} (f : Nat → Nat → α → α) (q : Nat) (s0 : α) (a b : Nat) : reS f q s0 a (b + 1) = f a b (reS f q s0 a b) := rfl
theorem reS_n {α : Type} (f : Nat → Nat → α → α) (q : Nat) (s0 : α) (a : Nat) : reS f q s0 (a + 1) 0 = reS f q s0 a q := rfl
def gaS (w x y : Int32) : Int32 := if x = y then w / 3 else if x ≤ y then 0 else w - (x + y) / 2
theorem gain_c (N : Nat) (w x y : Int32) (σ : Sg) : X8_gainOf N w x y σ = some (gaS w x y) := by
  unfold X8_gainOf gaS
  split
  · rfl
  · split <;> rfl
theorem gets_r (N : Nat) (w x y : Int32) (σ : Sg) : X9_gets N x y w σ = some (gaS w x y) := by
  unfold X9_gets gaS
  by_cases h : x = y
  · rw [if_pos h, if_pos (by rw [h]; exact Int32.le_refl _), if_pos h]
  · rw [if_neg h]
    by_cases h2 : x ≤ y
    · rw [if_pos h2, if_neg h, if_pos h2]
    · rw [if_neg h2, if_neg h, if_neg h2]
def bsI (w x y : Int32) : Nat → Bool
  | 0 => true
  | i + 1 => bsI w x y i && decide (gaS w (nI i) y ≤ gaS w x y)
theorem bsI_f {w x y : Int32} {i : Nat} (h : bsI w x y i = false) (d : Nat) : bsI w x y (i + d) = false := by
  induction d with
  | zero => exact h
  | succ d ih => show (bsI w x y (i + d) && _) = false; rw [ih]; rfl
theorem lt9 {i : Nat} (h : i < 10) : ¬ (9 : Int32) < nI i := nI_nlt (a := 9) (by omega) (by decide)
theorem lt9' : (9 : Int32) < nI 10 := by decide
theorem best_c {N : Nat} (hN : 10 < N) (w x y : Int32) (σ : Sg) : X8_isBest N w x y σ = some (if bsI w x y 10 = true then 1 else 0) := by
  unfold X8_isBest
  rw [gain_c, Option.bind_some]
  refine forL0 (L := fun m i (_ : Unit) => X8_isBest_l10 N σ m w y (gaS w x y) (nI i)) (m := 10) (a := ()) (fun i _ => bsI w x y i = true) (o := fun z => z = some (if bsI w x y 10 = true then 1 else 0)) hN rfl ?_ ?_
  · intro m i _ hi hI
    have hst : bsI w x y (i + 1) = decide (gaS w (nI i) y ≤ gaS w x y) := by show (bsI w x y i && _) = _; rw [hI]; rfl
    by_cases q : gaS w (nI i) y ≤ gaS w x y
    · left
      refine ⟨(), by rw [hst]; exact decide_eq_true q, ?_⟩
      rw [X8_isBest_l10, if_neg (lt9 hi), gain_c, Option.bind_some, if_pos q, nI1]
    · right
      have := bsI_f (show bsI w x y (i + 1) = false by rw [hst]; exact decide_eq_false q) (10 - (i + 1))
      rw [show i + 1 + (10 - (i + 1)) = 10 by omega] at this
      rw [this, X8_isBest_l10, if_neg (lt9 hi), gain_c, Option.bind_some, if_neg q]
      rfl
  · intro m _ hI
    rw [X8_isBest_l10, if_pos lt9', hI]
    rfl
theorem rest_r {N : Nat} (hN : 10 < N) (w x y : Int32) (σ : Sg) : X9_isRest N x y w σ = some (if bsI w x y 10 = true then 1 else 0) := by
  unfold X9_isRest
  refine forL0 (L := fun m i (b : Int32) => X9_isRest_l5 N σ m x y w b (nI i)) (m := 10) (a := 1) (fun i b => b = if bsI w x y i = true then 1 else 0) (o := fun z => z = some (if bsI w x y 10 = true then 1 else 0)) hN rfl ?_ ?_
  · intro m i b hi hI
    left
    refine ⟨_, rfl, ?_⟩
    show _ = X9_isRest_l5 N σ m x y w (if (bsI w x y i && decide (gaS w (nI i) y ≤ gaS w x y)) = true then 1 else 0) _
    rw [X9_isRest_l5, if_neg (lt9 hi), hI]
    cases hb1 : bsI w x y i
    · rw [if_pos (show (if false = true then (1 : Int32) else 0) = 0 from rfl), nI1]; rfl
    · rw [if_neg (show ¬ (if true = true then (1 : Int32) else 0) = 0 from oneF), gets_r, Option.bind_some, gets_r, Option.bind_some, nI1]
      by_cases q : gaS w (nI i) y ≤ gaS w x y
      · rw [if_neg (Int32.not_lt.mpr q), decide_eq_true q]; rfl
      · rw [if_pos (Int32.not_le.mp q), decide_eq_false q]; rfl
  · intro m b hI
    rw [X9_isRest_l5, if_pos lt9', hI]
    cases bsI w x y 10 <;> rfl
def rsP (w : Int32) (a b : Nat) : Bool := bsI w (nI a) (nI b) 10 && bsI w (nI b) (nI a) 10
def rsF (w : Int32) (a b : Nat) (s : Vs) : Vs := if rsP w a b then (s.1 + 1, fst1 a b s.2) else s
def rsL (s : Vs) : List Int64 := match s.2 with
  | none => []
  | some p => [(nI p.1).toInt64, (nI p.2).toInt64]
theorem rsL_len (s : Vs) : (rsL s).length ≤ 2 := by
  unfold rsL
  cases s.2 <;> simp
def rsO (a b : Nat) (s : Vs) : Prop := (s.1 = 0 ↔ s.2 = none) ∧ s.1 ≤ 10 * a + b
theorem rests_op {N : Nat} (hN : 555 < N) {H : Nat} {A : Ab} (hA : OkA H A) (v : Int32) : OpB (X8_rests N v) (X9_rests N v) H A := by
  rcases upto 20 (by omega) v with ⟨u, hu, rfl⟩ | h
  · have hO : ∀ a b, rsO a b (reS (rsF (nI u)) 10 (0, none) a b) → rsO a (b + 1) (reS (rsF (nI u)) 10 (0, none) a (b + 1)) := by
      intro a b ho
      rw [reS_s]
      generalize reS (rsF (nI u)) 10 (0, none) a b = s at *
      obtain ⟨c, f⟩ := s
      obtain ⟨o1, o2⟩ := ho
      dsimp only at o1 o2
      unfold rsF rsO
      by_cases q : rsP (nI u) a b = true
      · rw [if_pos q]
        refine ⟨?_, by dsimp only; omega⟩
        dsimp only
        cases f <;> simp [fst1]
      · rw [if_neg q]; exact ⟨o1, by dsimp only; omega⟩
    have hO2 : ∀ a, rsO a 10 (reS (rsF (nI u)) 10 (0, none) a 10) → rsO (a + 1) 0 (reS (rsF (nI u)) 10 (0, none) (a + 1) 0) := by
      intro a ho
      rw [reS_n]
      exact ⟨ho.1, by have := ho.2; omega⟩
    have hO0 : rsO 0 0 (reS (rsF (nI u)) 10 (0, none) 0 0) := ⟨by simp [reS, recR, recA], by simp [reS, recR, recA]⟩
    refine OpB.told hA (nI (reS (rsF (nI u)) 10 (0, none) 10 0).1) (rsL (reS (rsF (nI u)) 10 (0, none) 10 0)) (by have := rsL_len (reS (rsF (nI u)) 10 (0, none) 10 0); omega) (fun σ hσ => ?_) (fun σ hσ => ?_)
    · obtain ⟨σ1, g1, g2, g3⟩ := tclear_c N σ
      unfold X8_rests
      rw [if_neg (nI_pos (by omega)), if_pos (show nI u ≤ 20 from nI_le (b := 20) hu (by decide)), g1, Option.bind_some]
      refine rectL (p := 10) (q := 10) (N := N) (Lo := fun m a (s : Vs × Sg) => X8_rests_l23 N m (nI u) (nI s.1.1) (nI a) s.2)
        (Li := fun m a f b s => X8_rests_l32 N (fun v1 v2 v3 σ => X8_rests_j84 N (fun v1 v2 v3 σ => X8_rests_l23 N m v1 v2 v3 σ) v1 v2 v3 σ) f (nI u) (nI s.1.1) (nI a) (nI b) s.2)
        (fun a b s => s.1 = reS (rsF (nI u)) 10 (0, none) a b ∧ rsO a b s.1 ∧ ToC s.2 (rsL s.1) ∧ Fr [3, 4] σ s.2) (o := fun x => ∃ σ', x = some (nI (reS (rsF (nI u)) 10 (0, none) 10 0).1, σ') ∧ ToC σ' (rsL (reS (rsF (nI u)) 10 (0, none) 10 0)) ∧ Fr scrC σ σ') (by omega) (by omega) ?_ ?_ ?_ ?_ ?_ (s0 := ((0, none), σ1)) ⟨rfl, hO0, g2, g3⟩
      · rintro m a ⟨s, τ⟩ ha _
        dsimp only
        rw [X8_rests_l23, if_neg (lt9 ha)]
        rfl
      · rintro m a f b ⟨s, τ⟩ ha hb1 ⟨i1, i2, i3, i4⟩
        dsimp only at i1 i2 i3 i4 ⊢
        have hnx : reS (rsF (nI u)) 10 (0, none) a (b + 1) = rsF (nI u) a b s := by rw [reS_s, i1]
        have ho := hO a b (i1 ▸ i2)
        rw [hnx] at ho
        by_cases q : rsP (nI u) a b = true
        · have q0 := q
          unfold rsP at q0
          rw [Bool.and_eq_true] at q0
          obtain ⟨c, fo⟩ := s
          have hs : rsF (nI u) a b (c, fo) = (c + 1, fst1 a b fo) := by unfold rsF; rw [q]; rfl
          cases fo with
          | none =>
            have hc0 : c = 0 := i2.1.mpr rfl
            subst hc0
            obtain ⟨τ4, a1, a2, a3⟩ := tell2_c N (nI a).toInt64 (nI b).toInt64 τ
            have hs : rsF (nI u) a b (0, none) = (0 + 1, some (a, b)) := hs
            rw [hs] at hnx ho
            refine ⟨((0 + 1, some (a, b)), τ4), ⟨hnx.symm, ho, a2, i4.trans a3⟩, ?_⟩
            dsimp only
            rw [X8_rests_l32, if_neg (lt9 hb1), best_c (by omega), if_pos q0.1, Option.bind_some, if_neg oneF, best_c (by omega), if_pos q0.2, Option.bind_some, if_neg oneF, if_pos nI_0, a1, Option.bind_some, nI1, nI1]
          | some x =>
            have hc0 : c ≠ 0 := fun z => by have := i2.1.mp z; cases this
            have hcb : c ≤ 200 := by have := i2.2; omega
            have hs : rsF (nI u) a b (c, some x) = (c + 1, some x) := hs
            rw [hs] at hnx ho
            refine ⟨((c + 1, some x), τ), ⟨hnx.symm, ho, i3, i4⟩, ?_⟩
            dsimp only
            rw [X8_rests_l32, if_neg (lt9 hb1), best_c (by omega), if_pos q0.1, Option.bind_some, if_neg oneF, best_c (by omega), if_pos q0.2, Option.bind_some, if_neg oneF, if_neg (nI_ne0 (by omega) (by omega)), nI1, nI1]
        · have hs : rsF (nI u) a b s = s := by unfold rsF; rw [if_neg q]
          rw [hs] at hnx ho
          refine ⟨(s, τ), ⟨hnx.symm, ho, i3, i4⟩, ?_⟩
          dsimp only
          rw [X8_rests_l32, if_neg (lt9 hb1), best_c (by omega), Option.bind_some]
          by_cases z : bsI (nI u) (nI a) (nI b) 10 = true
          · rw [if_pos z, if_neg oneF, best_c (by omega), Option.bind_some, if_neg (show ¬ bsI (nI u) (nI b) (nI a) 10 = true from fun y => q (by unfold rsP; rw [z, y]; rfl)), if_pos rfl, nI1]
          · rw [if_neg z, if_pos rfl, nI1]
      · rintro m a f ⟨s, τ⟩ ha _
        dsimp only
        rw [X8_rests_l32, if_pos lt9', X8_rests_j84, nI1]
      · rintro a ⟨s, τ⟩ ha ⟨i1, i2, i3, i4⟩
        dsimp only at i1 i2 i3 i4 ⊢
        refine ⟨by rw [reS_n]; exact i1, ?_, i3, i4⟩
        have := hO2 a (i1 ▸ i2)
        rw [reS_n, ← i1] at this
        exact this
      · rintro m ⟨s, τ⟩ ⟨i1, i2, i3, i4⟩
        dsimp only at i1 i2 i3 i4 ⊢
        subst i1
        refine ⟨τ, ?_, i3, i4.mono (by decide)⟩
        rw [X8_rests_l23, if_pos lt9']
    · have f0 := thrown_f σ 0
      have tf := told0_f (wi σ 149 0 0)
      unfold X9_rests
      simp only [bnS]
      rw [in11 N (hi := 20) (h64 := 20) rfl (nI_pos (by omega)) (nI_le (b := 20) hu (by decide)), Option.bind_some, if_neg oneF]
      refine rectL (p := 10) (q := 10) (N := N) (Lo := fun m a (s : Vs × Sg) => X9_rests_l28 N m (nI u) (nI s.1.1) (nI a) s.2)
        (Li := fun m a f b s => X9_rests_l37 N (fun v1 v2 v3 σ => X9_rests_j90 N (fun v1 v2 v3 σ => X9_rests_l28 N m v1 v2 v3 σ) v1 v2 v3 σ) f (nI u) (nI s.1.1) (nI a) (nI b) s.2)
        (fun a b s => s.1 = reS (rsF (nI u)) 10 (0, none) a b ∧ rsO a b s.1 ∧ ToR s.2 (rsL s.1) ∧ Fr [3001, 150] (wi σ 149 0 0) s.2) (o := fun x => ∃ σ', x = some (nI (reS (rsF (nI u)) 10 (0, none) 10 0).1, σ') ∧ ToR σ' (rsL (reS (rsF (nI u)) 10 (0, none) 10 0)) ∧ Fr scrR σ σ') (by omega) (by omega) ?_ ?_ ?_ ?_ ?_ (s0 := ((0, none), wi (wi σ 149 0 0) 149 1 0)) ⟨rfl, hO0, told0_r _, tf⟩
      · rintro m a ⟨s, τ⟩ ha _
        dsimp only
        rw [X9_rests_l28, if_neg (lt9 ha)]
        rfl
      · rintro m a f b ⟨s, τ⟩ ha hb1 ⟨i1, i2, i3, i4⟩
        dsimp only at i1 i2 i3 i4 ⊢
        have hnx : reS (rsF (nI u)) 10 (0, none) a (b + 1) = rsF (nI u) a b s := by rw [reS_s, i1]
        have ho := hO a b (i1 ▸ i2)
        rw [hnx] at ho
        by_cases q : rsP (nI u) a b = true
        · have q0 := q
          unfold rsP at q0
          rw [Bool.and_eq_true] at q0
          obtain ⟨c, fo⟩ := s
          have hs : rsF (nI u) a b (c, fo) = (c + 1, fst1 a b fo) := by unfold rsF; rw [q]; rfl
          cases fo with
          | none =>
            have hc0 : c = 0 := i2.1.mpr rfl
            subst hc0
            obtain ⟨τ4, a1, a2, a3⟩ := enters_r N i3 (by have := rsL_len (0, none); omega) (nI a).toInt64
            obtain ⟨τ5, b1, b2, b3⟩ := enters_r N a2 (by have := rsL_len (0, none); simp; omega) (nI b).toInt64
            have hs : rsF (nI u) a b (0, none) = (0 + 1, some (a, b)) := hs
            rw [hs] at hnx ho
            refine ⟨((0 + 1, some (a, b)), τ5), ⟨hnx.symm, ho, b2, (i4.trans a3).trans b3⟩, ?_⟩
            dsimp only
            rw [X9_rests_l37, if_neg (lt9 hb1), rest_r (by omega), if_pos q0.1, Option.bind_some, if_neg oneF, rest_r (by omega), if_pos q0.2, Option.bind_some, if_neg oneF, if_pos nI_0, a1, Option.bind_some, b1, Option.bind_some, nI1, nI1]
          | some x =>
            have hc0 : c ≠ 0 := fun z => by have := i2.1.mp z; cases this
            have hcb : c ≤ 200 := by have := i2.2; omega
            have hs : rsF (nI u) a b (c, some x) = (c + 1, some x) := hs
            rw [hs] at hnx ho
            refine ⟨((c + 1, some x), τ), ⟨hnx.symm, ho, i3, i4⟩, ?_⟩
            dsimp only
            rw [X9_rests_l37, if_neg (lt9 hb1), rest_r (by omega), if_pos q0.1, Option.bind_some, if_neg oneF, rest_r (by omega), if_pos q0.2, Option.bind_some, if_neg oneF, if_neg (nI_ne0 (by omega) (by omega)), nI1, nI1]
        · have hs : rsF (nI u) a b s = s := by unfold rsF; rw [if_neg q]
          rw [hs] at hnx ho
          refine ⟨(s, τ), ⟨hnx.symm, ho, i3, i4⟩, ?_⟩
          dsimp only
          rw [X9_rests_l37, if_neg (lt9 hb1), rest_r (by omega), Option.bind_some]
          by_cases z : bsI (nI u) (nI a) (nI b) 10 = true
          · rw [if_pos z, if_neg oneF, rest_r (by omega), Option.bind_some, if_neg (show ¬ bsI (nI u) (nI b) (nI a) 10 = true from fun y => q (by unfold rsP; rw [z, y]; rfl)), if_pos rfl, nI1]
          · rw [if_neg z, if_pos rfl, nI1]
      · rintro m a f ⟨s, τ⟩ ha _
        dsimp only
        rw [X9_rests_l37, if_pos lt9', X9_rests_j90, nI1]
      · rintro a ⟨s, τ⟩ ha ⟨i1, i2, i3, i4⟩
        dsimp only at i1 i2 i3 i4 ⊢
        refine ⟨by rw [reS_n]; exact i1, ?_, i3, i4⟩
        have := hO2 a (i1 ▸ i2)
        rw [reS_n, ← i1] at this
        exact this
      · rintro m ⟨s, τ⟩ ⟨i1, i2, i3, i4⟩
        dsimp only at i1 i2 i3 i4 ⊢
        subst i1
        refine ⟨τ, ?_, i3, (f0.mono (by decide)).trans (i4.mono (by decide))⟩
        rw [X9_rests_l28, if_pos lt9']
  · refine OpB.no hA (-1) (fun σ _ => ?_) (fun σ _ => ?_)
    · unfold X8_rests
      by_cases z : v < 0
      · rw [if_pos z]
      · rw [if_neg z, if_neg (show ¬ v ≤ 20 from fun y => h.elim z (fun u => absurd u (Int32.not_lt.mpr y)))]
    · unfold X9_rests
      simp only [bnS]
      rw [in01 N (hi := 20) (h64 := 20) rfl h, Option.bind_some, if_pos rfl]
