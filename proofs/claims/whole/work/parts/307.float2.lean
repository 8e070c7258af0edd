/-! ===== what floats: both sides ===== -/
def PtC (σ : Sg) (n : Nat) (r : Nat → Int32) : Prop := gi σ 5 6 = nI (cntB (isF r) n) ∧ ∀ k, k < n → isF r k = true → gi σ 16 (cntB (isF r) k) = bun r k
theorem hb_foldF (p q : Nat → Bool) (g : Nat → Int32) (n j : Nat) : hb (foldF p (fun k a => if q k = true then a ||| g k else a) n 0) j = true ↔ ∃ k, k < n ∧ p k = true ∧ q k = true ∧ hb (g k) j = true := by
  induction n with
  | zero => unfold foldF; rw [hb_0]; constructor
            · intro z; cases z
            · rintro ⟨k, h, _⟩; omega
  | succ n ih =>
    unfold foldF
    constructor
    · intro z
      cases hp : p n
      · rw [hp] at z
        obtain ⟨k, h1, h2⟩ := ih.mp (by simpa using z)
        exact ⟨k, by omega, h2⟩
      · rw [hp] at z
        simp only [if_true] at z
        cases hq : q n
        · rw [hq] at z
          obtain ⟨k, h1, h2⟩ := ih.mp (by simpa using z)
          exact ⟨k, by omega, h2⟩
        · rw [hq] at z
          simp only [if_true] at z
          rw [hb_or, Bool.or_eq_true] at z
          rcases z with z | z
          · obtain ⟨k, h1, h2⟩ := ih.mp z
            exact ⟨k, by omega, h2⟩
          · exact ⟨n, by omega, hp, hq, z⟩
    · rintro ⟨k, h1, h2, h3, h4⟩
      by_cases hk : k = n
      · subst hk
        rw [h2, h3]
        simp [hb_or, h4]
      · have z := ih.mpr ⟨k, by omega, h2, h3, h4⟩
        cases hp : p n
        · simpa using z
        · cases hq : q n
          · simpa using z
          · simp only [if_true]
            rw [hb_or, z]; rfl
theorem float_fold {L : Ld} {r : Nat → Int32} (h : WL L.1 r) : foldF (isF r) (fun k a => if decide (exS L r (bun r k) < 0) = true then a ||| bun r k else a) L.1 0 = floatS L r := by
  have h8 := h.2.2.2.2
  apply hb_ext
  intro j _
  have e1 := hb_foldF (isF r) (fun k => decide (exS L r (bun r k) < 0)) (bun r) L.1 j
  have e2 := hb_floatS (L := L) (r := r) h8 j
  have : hb (foldF (isF r) (fun k a => if decide (exS L r (bun r k) < 0) = true then a ||| bun r k else a) L.1 0) j = true ↔ hb (floatS L r) j = true := by
    rw [e1, e2]
    constructor
    · rintro ⟨k, h1, h2, h3, h4⟩
      exact ⟨bun_in h h1 h4, bun_here h h1 (isF_iff.mp h2).1 h4, by rw [bun_eq h h1 h4]; exact of_decide_eq_true h3⟩
    · rintro ⟨h1, h2, h3⟩
      obtain ⟨k, q1, q2, q3, q4⟩ := first_of h h1 h2
      exact ⟨k, by omega, q2, by rw [q4]; exact decide_eq_true h3, by rw [q4]; exact (bun_is h (by omega)).1⟩
  cases hx : hb (foldF (isF r) (fun k a => if decide (exS L r (bun r k) < 0) = true then a ||| bun r k else a) L.1 0) j
  · cases hy : hb (floatS L r) j
    · rfl
    · rw [this.mpr hy] at hx; cases hx
  · rw [this.mp hx]
theorem bun_out {n : Nat} {r : Nat → Int32} (h : WL n r) {k : Nat} (hk : k < n) : ∀ i, n ≤ i → hb (bun r k) i = false := by
  intro i hi
  cases hx : hb (bun r k) i
  · rfl
  · exact absurd (bun_in h hk hx) (by omega)
theorem floating_c {N : Nat} (hN : 40 < N) {k1 k2 : Nat} (hk : k1 = 19 ∨ k1 = 24) {σ : Sg} {L : Ld} (hL : LC σ k2 L) {h : Nat} (hh : h < 2147483648) (e36 : rC σ k1 36 = nI h) (hW : WL L.1 (rC σ k1)) : ∃ σ', X0_floating N k1 k2 σ = some (floatS L (rC σ k1), σ') ∧ (∀ i, i < L.1 → gi σ' 15 i = needS L (rC σ k1) i) ∧ PtC σ' L.1 (rC σ k1) ∧ Fr [15, 18, 9, 13, 16, 2006] σ σ' := by
  have h8 := hL.2.1
  obtain ⟨σ1, e1, n1, f1⟩ := weigh_b hN hk hL hh e36
  have hrow : ∀ a, Fr [15, 18, 9, 13, 16, 2006] σ a → rC a k1 = rC σ k1 := by
    intro a q
    rcases hk with rfl | rfl
    · exact rC_congr (q.r (by simp [pl])) (q.r (by simp [pl])) (q.r (by simp [pl])) (q.r (by simp [pl])) (q.r (by simp [pl]))
    · exact rC_congr (q.r (by simp [pl])) (q.r (by simp [pl])) (q.r (by simp [pl])) (q.r (by simp [pl])) (q.r (by simp [pl]))
  have f1' : Fr [15, 18, 9, 13, 16, 2006] σ σ1 := f1.mono (by decide)
  have r1 := hrow σ1 f1'
  obtain ⟨σ2, e2, c2, b2, f2⟩ := part_b (N := N) (by omega) hk (σ := σ1) (n := L.1) ((f1.g (by simp [pl])).trans hL.1) (by rw [r1]; exact hW)
  rw [r1] at c2 b2
  have f2' : Fr [15, 18, 9, 13, 16, 2006] σ σ2 := f1'.trans (f2.mono (by decide))
  have r2 := hrow σ2 f2'
  have n2 : ∀ i, i < L.1 → gi σ2 15 i = needS L (rC σ k1) i := fun i hi => (f2.g (k := 15) (by simp [pl])).trans (n1 i hi)
  refine ⟨σ2, ?_, n2, ⟨c2, b2⟩, f2'⟩
  unfold X0_floating
  rw [e1, Option.bind_some, e2, Option.bind_some]
  have hc := cntB_le (isF (rC σ k1)) L.1
  refine forB (L := fun m b a => X0_floating_l16 N k1 k2 m a (nI b) σ2) (isF (rC σ k1)) (fun k a => if decide (exS L (rC σ k1) (bun (rC σ k1) k) < 0) = true then a ||| bun (rC σ k1) k else a) (n := L.1) (a0 := 0) (o := fun x => x = some (floatS L (rC σ k1), σ2)) (by omega) ?_ ?_
  · intro m k hk2 hkF
    have hlt := cntB_lt_of hk2 hkF
    rw [X0_floating_l16, c2, if_neg (n_le hlt (by omega)), inbI (show cntB (isF (rC σ k1)) k < 8 by omega) (by omega), clI (by omega), b2 k hk2 hkF, excess_s (by omega) h8 r2 n2 (bun_out hW hk2), Option.bind_some, nI1]
    simp only [if_true]
    by_cases q : exS L (rC σ k1) (bun (rC σ k1) k) < 0
    · rw [if_neg (Int32.not_le.mpr q), if_pos (decide_eq_true q)]
    · rw [if_pos (Int32.not_lt.mp q), if_neg (fun z => q (of_decide_eq_true z))]
  · intro m
    rw [X0_floating_l16, c2, if_pos (nI_le (Nat.le_refl _) (by omega)), float_fold hW]
theorem bundle_r {N : Nat} (hN : 8 < N) {k1 : Nat} {σ : Sg} {n : Nat} (hn : gi σ 149 3 = nI n) (hW : WL n (rR σ k1)) {k : Nat} (hk : k < n) : X9_bundle N k1 (nI k) σ = some (if hb (rR σ k1 32) k = true then 0 else bun (rR σ k1) k) := by
  have h8 := hW.2.2.2.2
  have hl : ∀ i, i < 8 → gi σ k1 (24 + i) = lnk (rR σ k1) i := fun i hi => (rR_j (by omega)).symm
  unfold X9_bundle
  rw [if_pos i37_32, cl32, has_b N _ (by omega), Option.bind_some]
  by_cases hg : hb (rR σ k1 32) k = true
  · rw [if_pos (show hb (gi σ k1 32) k = true from hg), if_neg oneF, if_pos hg]
    refine forL0 (L := fun m i a => X9_bundle_l22 N k1 σ m a (nI i)) (m := n) (fun _ a => a = 0) (o := fun x => x = some 0) (by omega) rfl ?_ ?_
    · intro m i a hi ha
      subst ha
      left
      obtain ⟨B', e, j1, j2, j3⟩ := bundle_l34 (N := N) hN k1 (fun v3 v4 => X9_bundle_j72 N k1 (fun v3 v4 => X9_bundle_l22 N k1 σ m v3 v4) v3 v4 σ) hn h8 0 (nI i)
      have hB : B' = 0 := by
        apply hb_ext
        intro j _
        rw [hb_0]
        cases hx : hb B' j
        · rfl
        · have := j3 0 (fun i _ hi => by rw [hb_0] at hi; cases hi) (fun j hj => hj) j hx
          rw [hb_0] at this; cases this
      refine ⟨0, rfl, ?_⟩
      rw [X9_bundle_l22, hn, if_neg (n_le hi (by omega)), e, X9_bundle_j72, nI1, hB]
    · intro m a ha
      rw [X9_bundle_l22, hn, if_pos (nI_le (Nat.le_refl _) (by omega)), ha]
  · rw [if_neg (show ¬ hb (gi σ k1 32) k = true from hg), if_pos rfl, if_neg hg]
    obtain ⟨b, e, hb1⟩ := bundle_l22 hN k1 hn h8 hk (fun i hi j hj => by rw [hl i hi]; exact hW.1 i hi j hj)
    rw [e, (hb1.congr hl).uniq (bun_is hW (by omega))]
theorem exS_0 (L : Ld) (r : Nat → Int32) : exS L r 0 = 0 := by
  have : ∀ (g : Nat → Int32) n, sumB (hb 0) g n = 0 := by
    intro g n
    induction n with
    | zero => rfl
    | succ n ih => unfold sumB; rw [ih, hb_0]; rfl
  unfold exS
  rw [this, this]
  rfl
theorem above_r {N : Nat} (hN : 40 < N) {k1 : Nat} (hk : k1 = 153 ∨ k1 = 154) {σ : Sg} {L : Ld} (hL : LR σ L) {h : Nat} (hh : h < 2147483648) (e36 : rR σ k1 36 = nI h) (b : Int32) : ∃ σ', X9_above N k1 b σ = some (exS L (rR σ k1) b, σ') ∧ Fr [159, 160] σ σ' := by
  have h8 := hL.2.1
  obtain ⟨σ', e, f⟩ := needOf_r hN hk hL hh e36 b
  refine ⟨σ', ?_, f⟩
  unfold X9_above
  rw [show (0 : Int32) = nI 0 from rfl, sumOf_b (by omega) k1 0 b hL.1 h8 (by omega), Option.bind_some, e, Option.bind_some]
  unfold exS
  rw [sumB_congr (g := fun i => gi σ k1 (0 + i)) (g' := rR σ k1) L.1 (fun _ _ => rfl) (fun i hi _ => by rw [Nat.zero_add, rR_j (by omega)])]
theorem floating_r {N : Nat} (hN : 40 < N) {k1 : Nat} (hk : k1 = 153 ∨ k1 = 154) {σ : Sg} {L : Ld} (hL : LR σ L) {h : Nat} (hh : h < 2147483648) (e36 : rR σ k1 36 = nI h) (hW : WL L.1 (rR σ k1)) : ∃ σ', X9_floating N k1 σ = some (floatS L (rR σ k1), σ') ∧ Fr [159, 160] σ σ' := by
  have h8 := hL.2.1
  unfold X9_floating
  refine forL0 (L := fun m i (a : Int32 × Sg) => X9_floating_l4 N k1 m a.1 (nI i) a.2) (m := L.1) (a := (0, σ))
    (fun i a => Fr [159, 160] σ a.2 ∧ ∀ j, hb a.1 j = true ↔ ∃ l, l < i ∧ hb (rR σ k1 32) l = false ∧ exS L (rR σ k1) (bun (rR σ k1) l) < 0 ∧ hb (bun (rR σ k1) l) j = true)
    (o := fun x => ∃ σ', x = some (floatS L (rR σ k1), σ') ∧ Fr [159, 160] σ σ') (by omega) ?_ ?_ ?_
  · refine ⟨Fr.refl _ _, fun j => ?_⟩
    show hb 0 j = true ↔ _
    rw [hb_0]; constructor
    · intro z; cases z
    · rintro ⟨l, h1, _⟩; omega
  · intro m i a hi hI
    obtain ⟨v, τ⟩ := a
    obtain ⟨hF, hv⟩ := hI
    dsimp only at hF hv ⊢
    left
    have hLa := hL.fr hF (by decide)
    have hr : rR τ k1 = rR σ k1 := rR_congr (hF.r (by intro j; rcases hk with rfl | rfl <;> simp [pl]))
    have hstep : ∀ v' : Int32, (∀ j, hb v' j = true ↔ hb v j = true ∨ (hb (rR σ k1 32) i = false ∧ exS L (rR σ k1) (bun (rR σ k1) i) < 0 ∧ hb (bun (rR σ k1) i) j = true)) → ∀ j, hb v' j = true ↔ ∃ l, l < i + 1 ∧ hb (rR σ k1 32) l = false ∧ exS L (rR σ k1) (bun (rR σ k1) l) < 0 ∧ hb (bun (rR σ k1) l) j = true := by
      intro v' hv' j
      rw [hv', hv]
      constructor
      · rintro (⟨l, z1, z2⟩ | z)
        · exact ⟨l, by omega, z2⟩
        · exact ⟨i, by omega, z⟩
      · rintro ⟨l, z1, z2⟩
        by_cases hli : l = i
        · subst hli; exact Or.inr z2
        · exact Or.inl ⟨l, by omega, z2⟩
    have hbig : ∀ j, 32 ≤ j → hb (bun (rR σ k1) i) j = false := fun j hj => hb_big hj
    by_cases hvi : hb v i = true
    · obtain ⟨σ', e, f⟩ := above_r hN hk hLa hh (by rw [hr]; exact e36) 0
      rw [exS_0] at e
      refine ⟨(v, σ'), ⟨hF.trans f, hstep v (fun j => ⟨Or.inl, fun z => ?_⟩)⟩, ?_⟩
      · rcases z with z | ⟨z1, z2, z3⟩
        · exact z
        · obtain ⟨l, w1, w2, w3, w4⟩ := (hv i).mp hvi
          rw [bun_eq hW (show l < L.1 by omega) w4] at z3
          exact (hv j).mpr ⟨l, w1, w2, w3, z3⟩
      · rw [X9_floating_l4, hLa.1, if_neg (n_le hi (by omega)), has_b N v (by omega), Option.bind_some, if_pos hvi, if_neg oneF, X9_floating_j30, e, Option.bind_some, if_pos (show (0 : Int32) ≤ 0 by decide), nI1]
        simp
    · by_cases hg : hb (rR σ k1 32) i = true
      · obtain ⟨σ', e, f⟩ := above_r hN hk hLa hh (by rw [hr]; exact e36) 0
        rw [exS_0] at e
        refine ⟨(v, σ'), ⟨hF.trans f, hstep v (fun j => ⟨Or.inl, fun z => ?_⟩)⟩, ?_⟩
        · rcases z with z | ⟨z1, z2, z3⟩
          · exact z
          · rw [hg] at z1; cases z1
        · rw [X9_floating_l4, hLa.1, if_neg (n_le hi (by omega)), has_b N v (by omega), Option.bind_some, if_neg hvi, if_pos rfl, bundle_r (by omega) hLa.1 (by rw [hr]; exact hW) hi, Option.bind_some, hr, if_pos hg, X9_floating_j30, e, Option.bind_some, if_pos (show (0 : Int32) ≤ 0 by decide), nI1]
          simp
      · obtain ⟨σ', e, f⟩ := above_r hN hk hLa hh (by rw [hr]; exact e36) (bun (rR σ k1) i)
        rw [hr] at e
        by_cases q : exS L (rR σ k1) (bun (rR σ k1) i) < 0
        · refine ⟨(v ||| bun (rR σ k1) i, σ'), ⟨hF.trans f, hstep _ (fun j => ?_)⟩, ?_⟩
          · rw [hb_or, Bool.or_eq_true]
            constructor
            · rintro (z | z)
              · exact Or.inl z
              · exact Or.inr ⟨by simpa using hg, q, z⟩
            · rintro (z | z)
              · exact Or.inl z
              · exact Or.inr z.2.2
          · rw [X9_floating_l4, hLa.1, if_neg (n_le hi (by omega)), has_b N v (by omega), Option.bind_some, if_neg hvi, if_pos rfl, bundle_r (by omega) hLa.1 (by rw [hr]; exact hW) hi, Option.bind_some, hr, if_neg hg, X9_floating_j30, e, Option.bind_some, if_neg (Int32.not_le.mpr q), nI1]
        · refine ⟨(v, σ'), ⟨hF.trans f, hstep v (fun j => ⟨Or.inl, fun z => ?_⟩)⟩, ?_⟩
          · rcases z with z | ⟨z1, z2, z3⟩
            · exact z
            · exact absurd z2 q
          · rw [X9_floating_l4, hLa.1, if_neg (n_le hi (by omega)), has_b N v (by omega), Option.bind_some, if_neg hvi, if_pos rfl, bundle_r (by omega) hLa.1 (by rw [hr]; exact hW) hi, Option.bind_some, hr, if_neg hg, X9_floating_j30, e, Option.bind_some, if_pos (Int32.not_lt.mp q), nI1]
            simp
  · intro m a hI
    obtain ⟨v, τ⟩ := a
    obtain ⟨hF, hv⟩ := hI
    dsimp only at hF hv ⊢
    refine ⟨τ, ?_, hF⟩
    rw [X9_floating_l4, (hL.fr hF (by decide)).1, if_pos (nI_le (Nat.le_refl _) (by omega))]
    have : v = floatS L (rR σ k1) := by
      apply hb_ext
      intro j _
      have e : hb v j = true ↔ hb (floatS L (rR σ k1)) j = true := by
        rw [hv, hb_floatS h8]
        constructor
        · rintro ⟨l, z1, z2, z3, z4⟩
          exact ⟨bun_in hW z1 z4, bun_here hW z1 z2 z4, by rw [bun_eq hW z1 z4]; exact z3⟩
        · rintro ⟨z1, z2, z3⟩
          exact ⟨j, z1, z2, z3, (bun_is hW (by omega)).1⟩
      cases hx : hb v j
      · cases hy : hb (floatS L (rR σ k1)) j
        · rfl
        · rw [e.mpr hy] at hx; cases hx
      · rw [e.mp hx]
    rw [this]
