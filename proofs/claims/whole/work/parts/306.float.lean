/-! ===== bundles of a row; what floats ===== -/
def synS (f : Nat → Int32) : Sg := (fun a j => if a = 4 then f j else 0, fun _ _ => 0)
def bunS (f : Nat → Int32) (k : Nat) : Int32 := (X5_bundleOf 9 0 (nI k) (synS f)).getD 0
theorem IsBu.congr {f f' : Nat → Int32} {k : Nat} {b : Int32} (h : ∀ i, i < 8 → f i = f' i) (hb1 : IsBu f k b) : IsBu f' k b := by
  obtain ⟨h1, h2, h3⟩ := hb1
  refine ⟨h1, fun i hi hib => ?_, fun c hc hcc => h3 c hc (fun i hi hic => ?_)⟩
  · rw [← h i hi]; exact h2 i hi hib
  · rw [h i hi]; exact hcc i hi hic
theorem bunS_is {f : Nat → Int32} {k : Nat} (hk : k < 8) (hf : ∀ i, i < 8 → ∀ j, 8 ≤ j → hb (f i) j = false) : IsBu f k (bunS f k) := by
  obtain ⟨b, e, h⟩ := bundleOf_b (N := 9) (by omega) 0 (σ := synS f) hk (fun i hi j hj => hf i hi j hj)
  unfold bunS
  rw [e]
  exact h
/-- strings of a row: within n, between two, none at a gone thing -/
def WL (n : Nat) (r : Nat → Int32) : Prop := (∀ i, i < 8 → ∀ j, n ≤ j → hb (r (24 + i)) j = false) ∧ (∀ i j, i < 8 → j < 8 → hb (r (24 + i)) j = hb (r (24 + j)) i) ∧ (∀ i, i < 8 → hb (r 32) i = true → r (24 + i) = 0) ∧ (∀ i, n ≤ i → hb (r 32) i = false) ∧ n ≤ 8
def lnk (r : Nat → Int32) : Nat → Int32 := fun i => r (24 + i)
def bun (r : Nat → Int32) (k : Nat) : Int32 := bunS (lnk r) k
theorem bun_is {n : Nat} {r : Nat → Int32} (h : WL n r) {k : Nat} (hk : k < 8) : IsBu (lnk r) k (bun r k) := bunS_is hk (fun i hi j hj => h.1 i hi j (by have := h.2.2.2.2; omega))
theorem bundleOf_s {N : Nat} (hN : 8 < N) {k0 : Nat} {σ : Sg} {n : Nat} (h : WL n (rC σ k0)) {k : Nat} (hk : k < 8) : X5_bundleOf N k0 (nI k) σ = some (bun (rC σ k0) k) := by
  have hl : ∀ i, i < 8 → gi σ (k0 + 4) i = lnk (rC σ k0) i := fun i hi => (rC_l hi).symm
  obtain ⟨b, e, hb1⟩ := bundleOf_b hN k0 (σ := σ) hk (fun i hi j hj => by rw [hl i hi]; exact h.1 i hi j (by have := h.2.2.2.2; omega))
  rw [e, (hb1.congr hl).uniq (bun_is h hk)]
theorem bun_in {n : Nat} {r : Nat → Int32} (h : WL n r) {k : Nat} (hk : k < n) {j : Nat} (hj : hb (bun r k) j = true) : j < n := by
  have h8 := h.2.2.2.2
  have hB := bun_is h (show k < 8 by omega)
  have hcl : Cls (lnk r) (allI n) := by
    intro i hi _ j hj
    rcases Nat.lt_or_ge j n with q | q
    · rw [hb_allI n (by omega) j (by omega)]; exact decide_eq_true q
    · rw [show hb (lnk r i) j = _ from h.1 i hi j q] at hj; cases hj
  have := hB.2.2 (allI n) (by rw [hb_allI n (by omega) k (by omega)]; exact decide_eq_true hk) hcl j hj
  rcases Nat.lt_or_ge j 32 with q | q
  · rw [hb_allI n (by omega) j q] at this
    exact of_decide_eq_true this
  · rw [hb_big q] at hj; cases hj
theorem bun_here {n : Nat} {r : Nat → Int32} (h : WL n r) {k : Nat} (hk : k < n) (hg : hb (r 32) k = false) {j : Nat} (hj : hb (bun r k) j = true) : hb (r 32) j = false := by
  have h8 := h.2.2.2.2
  have hB := bun_is h (show k < 8 by omega)
  have hb' : ∀ i, hb (allI n &&& (r 32 ^^^ (-1))) i = true ↔ i < n ∧ hb (r 32) i = false := by
    intro i
    rcases Nat.lt_or_ge i 32 with q | q
    · rw [hb_and, hb_allI n (by omega) i q, hb_not _ q]; simp
    · rw [hb_big q]; constructor
      · intro z; cases z
      · intro z; omega
  have hcl : Cls (lnk r) (allI n &&& (r 32 ^^^ (-1))) := by
    intro i hi hi2 j hj
    rw [hb'] at hi2 ⊢
    have hjn : j < n := by
      rcases Nat.lt_or_ge j n with q | q
      · exact q
      · rw [show hb (lnk r i) j = _ from h.1 i hi j q] at hj; cases hj
    refine ⟨hjn, ?_⟩
    cases hx : hb (r 32) j
    · rfl
    · have q := h.2.1 i j hi (by omega)
      rw [h.2.2.1 j (by omega) hx, hb_0] at q
      rw [show hb (lnk r i) j = _ from q] at hj; cases hj
  exact ((hb' j).mp (hB.2.2 _ ((hb' k).mpr ⟨hk, hg⟩) hcl j hj)).2
theorem bun_sym {n : Nat} {r : Nat → Int32} (h : WL n r) {k j : Nat} (hk : k < n) (hj : hb (bun r k) j = true) : hb (bun r j) k = true := by
  have h8 := h.2.2.2.2
  have hB := bun_is h (show k < 8 by omega)
  have hjn := bun_in h hk hj
  have hcb : ∀ i, hb (mkB (fun i => hb (bun r i) k) 8) i = true ↔ i < 8 ∧ hb (bun r i) k = true := by
    intro i
    rcases Nat.lt_or_ge i 32 with q | q
    · rw [hb_mkB _ 8 (by omega) i q]; simp
    · rw [hb_big q]; constructor
      · intro z; cases z
      · intro z; omega
  have hcl : Cls (lnk r) (mkB (fun i => hb (bun r i) k) 8) := by
    intro i hi hi2 l hl
    rw [hcb] at hi2 ⊢
    have hln : l < n := by
      rcases Nat.lt_or_ge l n with q | q
      · exact q
      · rw [show hb (lnk r i) l = _ from h.1 i hi l q] at hl; cases hl
    refine ⟨by omega, ?_⟩
    have hBl := bun_is h (show l < 8 by omega)
    have hBi := bun_is h hi
    have e := h.2.1 i l hi (by omega)
    have hil : hb (bun r l) i = true := hBl.2.1 l (by omega) hBl.1 i (by rw [show hb (lnk r l) i = _ from e.symm]; exact hl)
    exact hBi.2.2 (bun r l) hil hBl.2.1 k hi2.2
  exact ((hcb j).mp (hB.2.2 _ ((hcb k).mpr ⟨by omega, hB.1⟩) hcl j hj)).2
theorem bun_eq {n : Nat} {r : Nat → Int32} (h : WL n r) {k j : Nat} (hk : k < n) (hj : hb (bun r k) j = true) : bun r j = bun r k := by
  have h8 := h.2.2.2.2
  have hjn := bun_in h hk hj
  have hB := bun_is h (show k < 8 by omega)
  have hBj := bun_is h (show j < 8 by omega)
  have hs := bun_sym h hk hj
  apply hb_ext
  intro i _
  have a := hBj.2.2 (bun r k) hj hB.2.1 i
  have c := hB.2.2 (bun r j) hs hBj.2.1 i
  cases hx : hb (bun r j) i <;> cases hy : hb (bun r k) i <;> simp_all
/-- a thing that is the first of its bundle -/
def isF (r : Nat → Int32) (k : Nat) : Bool := !hb (r 32) k && decide (∀ j, j < k → hb (bun r k) j = false)
theorem isF_iff {r : Nat → Int32} {k : Nat} : isF r k = true ↔ hb (r 32) k = false ∧ ∀ j, j < k → hb (bun r k) j = false := by unfold isF; simp
theorem least_of {p : Nat → Bool} : ∀ j, p j = true → ∃ k, k ≤ j ∧ p k = true ∧ ∀ l, l < k → p l = false := by
  intro j
  induction j using Nat.strongRecOn with
  | ind j ih =>
    intro hj
    by_cases hx : ∃ l, l < j ∧ p l = true
    · obtain ⟨l, h1, h2⟩ := hx
      obtain ⟨k, q1, q2, q3⟩ := ih l h1 h2
      exact ⟨k, by omega, q2, q3⟩
    · refine ⟨j, Nat.le_refl _, hj, fun l hl => ?_⟩
      cases hp : p l
      · rfl
      · exact absurd ⟨l, hl, hp⟩ hx
theorem first_of {n : Nat} {r : Nat → Int32} (h : WL n r) {j : Nat} (hj : j < n) (hg : hb (r 32) j = false) : ∃ k, k ≤ j ∧ isF r k = true ∧ hb (bun r j) k = true ∧ bun r k = bun r j := by
  have h8 := h.2.2.2.2
  have hB := bun_is h (show j < 8 by omega)
  obtain ⟨k, q1, q2, q3⟩ := least_of (p := hb (bun r j)) j hB.1
  have e := bun_eq h hj q2
  exact ⟨k, q1, isF_iff.mpr ⟨bun_here h hj hg q2, by rw [e]; exact q3⟩, q2, e⟩
/-! ===== folds over those that hold ===== -/
def foldF {α : Type} (p : Nat → Bool) (g : Nat → α → α) : Nat → α → α
  | 0, a => a
  | k + 1, a => if p k then g k (foldF p g k a) else foldF p g k a
theorem cntB_next {p : Nat → Bool} {n : Nat} : ∀ (d k : Nat), k + d = n → cntB p k < cntB p n → ∃ k', k ≤ k' ∧ k' < n ∧ p k' = true ∧ cntB p k' = cntB p k ∧ ∀ (α : Type) (g : Nat → α → α) (a : α), foldF p g k' a = foldF p g k a := by
  intro d
  induction d with
  | zero => intro k hk hlt; have : k = n := by omega
            subst this; omega
  | succ d ih =>
    intro k hk hlt
    cases hp : p k
    · have e : cntB p (k + 1) = cntB p k := by show cntB p k + _ = _; rw [hp]; simp
      obtain ⟨k', q1, q2, q3, q4, q5⟩ := ih (k + 1) (by omega) (by omega)
      refine ⟨k', by omega, q2, q3, by omega, fun α g a => ?_⟩
      rw [q5 α g a]
      show (if p k then _ else _) = _
      rw [hp]
      rfl
    · exact ⟨k, Nat.le_refl _, by omega, hp, rfl, fun _ _ _ => rfl⟩
theorem forB {α β : Type} {L : Nat → Nat → α → Option β} (p : Nat → Bool) (g : Nat → α → α) {n : Nat} {a0 : α} {o : Option β → Prop} {N : Nat} (hN : cntB p n < N)
    (step : ∀ m k, k < n → p k = true → L (m + 1) (cntB p k) (foldF p g k a0) = L m (cntB p k + 1) (g k (foldF p g k a0)))
    (fin : ∀ m, o (L (m + 1) (cntB p n) (foldF p g n a0))) : o (L N 0 a0) := by
  refine forL0 (m := cntB p n) (fun b a => ∃ k, k ≤ n ∧ cntB p k = b ∧ a = foldF p g k a0) hN ⟨0, Nat.zero_le _, rfl, rfl⟩ ?_ ?_
  · rintro m b a hb1 ⟨k, h1, rfl, rfl⟩
    left
    obtain ⟨k', q1, q2, q3, q4, q5⟩ := cntB_next (n - k) k (by omega) hb1
    have e : foldF p g (k' + 1) a0 = g k' (foldF p g k' a0) := by show (if p k' then _ else _) = _; rw [q3]; rfl
    have e2 : cntB p (k' + 1) = cntB p k' + 1 := by show cntB p k' + _ = _; rw [q3]; rfl
    refine ⟨g k' (foldF p g k' a0), ⟨k' + 1, by omega, by omega, e.symm⟩, ?_⟩
    rw [← q4, ← q5 α g a0]
    exact step m k' q2 q3
  · rintro m a ⟨k, h1, h2, rfl⟩
    have : foldF p g k a0 = foldF p g n a0 := by
      have : ∀ d k, k + d = n → cntB p k = cntB p n → foldF p g k a0 = foldF p g n a0 := by
        intro d
        induction d with
        | zero => intro k hk _; have : k = n := by omega
                  rw [this]
        | succ d ih =>
          intro k hk hc
          have hm : cntB p (k + 1) ≤ cntB p n := by
            have : ∀ e, cntB p (k + 1) ≤ cntB p (k + 1 + e) := by
              intro e
              induction e with
              | zero => exact Nat.le_refl _
              | succ e ih => show _ ≤ cntB p (k + 1 + e) + _; omega
            have := this (n - (k + 1))
            rwa [show k + 1 + (n - (k + 1)) = n by omega] at this
          have hk1 : cntB p (k + 1) = cntB p k + (if p k then 1 else 0) := rfl
          cases hp : p k
          · rw [hp] at hk1
            simp at hk1
            rw [← ih (k + 1) (by omega) (by omega)]
            show _ = (if p k then _ else _)
            rw [hp]
            rfl
          · rw [hp] at hk1
            simp at hk1
            omega
      exact this (n - k) k (by omega) h2
    rw [this]
    exact fin m
theorem cntB_lt_of {p : Nat → Bool} {k n : Nat} (hk : k < n) (hp : p k = true) : cntB p k < cntB p n := by
  induction n with
  | zero => omega
  | succ n ih =>
    show _ < cntB p n + _
    by_cases q : k = n
    · subst q; rw [hp]; simp
    · have := ih (by omega); omega
/-! ===== the class: its bundles ===== -/
theorem part_b {N : Nat} (hN : 8 < N) {k1 : Nat} (hk : k1 = 19 ∨ k1 = 24) {σ : Sg} {n : Nat} (hn : gi σ 5 1 = nI n) (h : WL n (rC σ k1)) : ∃ σ', X0_part N k1 σ = some σ' ∧ gi σ' 5 6 = nI (cntB (isF (rC σ k1)) n) ∧ (∀ k, k < n → isF (rC σ k1) k = true → gi σ' 16 (cntB (isF (rC σ k1)) k) = bun (rC σ k1) k) ∧ Fr [16, 2006] σ σ' := by
  have h8 := h.2.2.2.2
  have hrow : ∀ a, Fr [16, 2006] σ a → rC a k1 = rC σ k1 := by
    intro a q
    rcases hk with rfl | rfl
    · exact rC_congr (q.r (by simp [pl])) (q.r (by simp [pl])) (q.r (by simp [pl])) (q.r (by simp [pl])) (q.r (by simp [pl]))
    · exact rC_congr (q.r (by simp [pl])) (q.r (by simp [pl])) (q.r (by simp [pl])) (q.r (by simp [pl])) (q.r (by simp [pl]))
  have hF0 : Fr [16, 2006] σ (wi σ 5 6 0) := (Fr.refl _ _).wi (by simp [pl])
  unfold X0_part
  simp only [bnS]
  have epre : X0_present N k1 (wi σ 5 6 0) = some (allI n &&& (rC σ k1 32 ^^^ (-1))) := by
    unfold X0_present X0_everything
    rw [show gi (wi σ 5 6 0) 5 1 = nI n by rw [giw, if_neg (by omega)]; exact hn, Option.bind_some, show gi (wi σ 5 6 0) k1 4 = rC σ k1 32 by rw [← hrow _ hF0]; rfl]
    rfl
  rw [epre, Option.bind_some]
  refine forL0 (L := fun m i (a : Int32 × Sg) => X0_part_l13 N k1 m a.1 (nI i) a.2) (m := n) (a := (allI n &&& (rC σ k1 32 ^^^ (-1)), wi σ 5 6 0))
    (fun i a => Fr [16, 2006] σ a.2 ∧ gi a.2 5 6 = nI (cntB (isF (rC σ k1)) i) ∧ (∀ k, k < i → isF (rC σ k1) k = true → gi a.2 16 (cntB (isF (rC σ k1)) k) = bun (rC σ k1) k) ∧ (∀ j, hb a.1 j = true ↔ j < n ∧ hb (rC σ k1 32) j = false ∧ ∀ l, l < i → hb (bun (rC σ k1) j) l = false))
    (o := fun x => ∃ σ', x = some σ' ∧ gi σ' 5 6 = nI (cntB (isF (rC σ k1)) n) ∧ (∀ k, k < n → isF (rC σ k1) k = true → gi σ' 16 (cntB (isF (rC σ k1)) k) = bun (rC σ k1) k) ∧ Fr [16, 2006] σ σ') (by omega) ?_ ?_ ?_
  · refine ⟨hF0, ?_, fun k hk => by omega, fun j => ?_⟩
    · show gi (wi σ 5 6 0) 5 6 = _
      rw [giw, if_pos ⟨rfl, rfl⟩]; rfl
    · show hb (allI n &&& (rC σ k1 32 ^^^ (-1))) j = true ↔ _
      rcases Nat.lt_or_ge j 32 with q | q
      · rw [hb_and, hb_allI n (by omega) j q, hb_not _ q]; simp
      · rw [hb_big q]; constructor
        · intro z; cases z
        · intro z; omega
  · intro m i a hi hI
    obtain ⟨v, τ⟩ := a
    obtain ⟨i1, i2, i3, i4⟩ := hI
    dsimp only at i1 i2 i3 i4 ⊢
    left
    have en : gi τ 5 1 = nI n := (i1.g (by simp [pl])).trans hn
    have er := hrow τ i1
    have hc := cntB_le (isF (rC σ k1)) i
    have hfi : hb v i = true ↔ isF (rC σ k1) i = true := by
      rw [i4, isF_iff]
      constructor
      · rintro ⟨_, q⟩; exact q
      · intro q; exact ⟨hi, q⟩
    by_cases hF : isF (rC σ k1) i = true
    · refine ⟨(v &&& (bun (rC σ k1) i ^^^ (-1)), wi (wi τ 16 (cntB (isF (rC σ k1)) i) (bun (rC σ k1) i)) 5 6 (nI (cntB (isF (rC σ k1)) i) + 1)), ⟨(i1.wi (by simp [pl])).wi (by simp [pl]), ?_, ?_, ?_⟩, ?_⟩
      · dsimp only
        rw [giw, if_pos ⟨rfl, rfl⟩, nI1]
        show _ = nI (cntB (isF (rC σ k1)) i + (if isF (rC σ k1) i then 1 else 0))
        rw [if_pos hF]
      · intro k hk2 hkF
        dsimp only
        rw [giw, if_neg (by omega), giw]
        by_cases hki : k = i
        · subst hki; rw [if_pos ⟨rfl, rfl⟩]
        · have := cntB_lt_of (p := isF (rC σ k1)) (show k < i by omega) hkF
          rw [if_neg (by omega)]
          exact i3 k (by omega) hkF
      · intro j
        dsimp only
        have hgi := (isF_iff.mp hF).1
        rcases Nat.lt_or_ge j 32 with q | q
        · rw [hb_and, hb_not _ q, Bool.and_eq_true, i4]
          constructor
          · rintro ⟨⟨z1, z2, z3⟩, z4⟩
            refine ⟨z1, z2, fun l hl => ?_⟩
            by_cases hli : l = i
            · subst hli
              cases hx : hb (bun (rC σ k1) j) l
              · rfl
              · rw [bun_sym h z1 hx] at z4; cases z4
            · exact z3 l (by omega)
          · rintro ⟨z1, z2, z3⟩
            refine ⟨⟨z1, z2, fun l hl => z3 l (by omega)⟩, ?_⟩
            cases hx : hb (bun (rC σ k1) i) j
            · rfl
            · have z4 := bun_sym h hi hx
              rw [z3 i (by omega)] at z4; cases z4
        · rw [hb_big q]; constructor
          · intro z; cases z
          · intro z; omega
      · rw [X0_part_l13, en, if_neg (n_le hi (by omega)), if_pos ((hasT v (by omega)).mpr (hfi.mpr hF)), i2, if_neg (fun q => absurd ((le8 (by omega)).mp q) (by omega)), bundleOf_s hN (by rw [er]; exact h) (by omega), Option.bind_some, er, inbI (show cntB (isF (rC σ k1)) i < 8 by omega) (by omega), clI (by omega), nI1]
        simp only [if_true, bnS]
        rw [giw, if_neg (by omega), i2]
    · refine ⟨(v, τ), ⟨i1, ?_, ?_, ?_⟩, ?_⟩
      · dsimp only
        rw [i2]
        show _ = nI (cntB (isF (rC σ k1)) i + (if isF (rC σ k1) i then 1 else 0))
        rw [if_neg hF]; rfl
      · intro k hk2 hkF
        by_cases hki : k = i
        · subst hki; exact absurd hkF hF
        · exact i3 k (by omega) hkF
      · intro j
        dsimp only
        rw [i4]
        constructor
        · rintro ⟨z1, z2, z3⟩
          refine ⟨z1, z2, fun l hl => ?_⟩
          by_cases hli : l = i
          · subst hli
            cases hx : hb (bun (rC σ k1) j) l
            · rfl
            · exfalso
              apply hF
              have e := bun_eq h z1 hx
              exact isF_iff.mpr ⟨bun_here h z1 z2 hx, by rw [e]; exact z3⟩
          · exact z3 l (by omega)
        · rintro ⟨z1, z2, z3⟩
          exact ⟨z1, z2, fun l hl => z3 l (by omega)⟩
      · rw [X0_part_l13, en, if_neg (n_le hi (by omega)), if_neg (fun q => hF (hfi.mp ((hasT v (by omega)).mp q))), nI1]
  · intro m a hI
    obtain ⟨v, τ⟩ := a
    obtain ⟨i1, i2, i3, i4⟩ := hI
    dsimp only at i1 i2 i3 i4 ⊢
    refine ⟨τ, ?_, i2, i3, i1⟩
    rw [X0_part_l13, (i1.g (by simp [pl]) : gi τ 5 1 = gi σ 5 1), hn, if_pos (nI_le (Nat.le_refl _) (by omega))]
/-! ===== what floats ===== -/
def exS (L : Ld) (r : Nat → Int32) (b : Int32) : Int32 := sumB (hb b) r L.1 - sumB (hb b) (needS L r) L.1
def floatS (L : Ld) (r : Nat → Int32) : Int32 := mkB (fun j => !hb (r 32) j && decide (exS L r (bun r j) < 0)) L.1
theorem hb_floatS {L : Ld} {r : Nat → Int32} (h8 : L.1 ≤ 8) (j : Nat) : hb (floatS L r) j = true ↔ j < L.1 ∧ hb (r 32) j = false ∧ exS L r (bun r j) < 0 := by
  unfold floatS
  rcases Nat.lt_or_ge j 32 with q | q
  · rw [hb_mkB _ _ (by omega) j q]; simp
  · rw [hb_big q]; constructor
    · intro z; cases z
    · intro z; omega
theorem excess_s {N : Nat} (hN : 8 < N) {k1 : Nat} {σ : Sg} {L : Ld} (h8 : L.1 ≤ 8) {r : Nat → Int32} (hr : rC σ k1 = r) (hn : ∀ i, i < L.1 → gi σ 15 i = needS L r i) {b : Int32} (hb1 : ∀ i, L.1 ≤ i → hb b i = false) : X0_excess N k1 b σ = some (exS L r b) := by
  rw [excess_b hN]
  unfold exS
  rw [sumB_8 h8 (fun i hi _ hx => by rw [hb1 i hi] at hx; cases hx), sumB_8 h8 (fun i hi _ hx => by rw [hb1 i hi] at hx; cases hx)]
  rw [sumB_congr (g' := r) L.1 (fun _ _ => rfl) (fun i hi _ => by rw [← hr, rC_s (by omega)]), sumB_congr (g := gi σ 15) (g' := needS L r) L.1 (fun _ _ => rfl) (fun i hi _ => hn i hi)]
