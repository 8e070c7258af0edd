/-! ===== first ones; floats; least ===== -/
theorem ntz_256 : ∀ m, m < 256 → m ≠ 0 → ∃ t, t < 8 ∧ (J6_numberOfTrailingZeros_0f7a4 0 (nI m) σ0 = some (nI t) ∧ hb (nI m) t = true ∧ ∀ j, j < t → hb (nI m) j = false) := by decide +kernel
theorem ntz_b (N : Nat) {x : Int32} (h : ∀ i, 8 ≤ i → hb x i = false) (h0 : ¬ x = 0) (σ : Sg) : ∃ t, t < 8 ∧ J6_numberOfTrailingZeros_0f7a4 N x σ = some (nI t) ∧ hb x t = true ∧ ∀ j, j < t → hb x j = false := by
  obtain ⟨m, hm, rfl⟩ := mask_nI h
  obtain ⟨t, a, b, c, d⟩ := ntz_256 m hm (fun z => h0 (by rw [z]; rfl))
  exact ⟨t, a, b, c, d⟩
theorem firstOnes_r {N : Nat} (hN : 8 < N) {σ : Sg} {n : Nat} (hn : gi σ 149 3 = nI n) {r : Nat → Int32} (hr : rR σ 153 = r) (hW : WL n r) : X9_firstOnes N 153 σ = some (mkB (isF r) n) := by
  have h8 := hW.2.2.2.2
  unfold X9_firstOnes
  refine forL0 (L := fun m i a => X9_firstOnes_l4 N 153 σ m a (nI i)) (m := n) (fun i a => a = mkB (isF r) i) (o := fun x => x = some (mkB (isF r) n)) (by omega) rfl ?_ ?_
  · intro m i a hi ha
    subst ha
    left
    refine ⟨_, rfl, ?_⟩
    rw [X9_firstOnes_l4, hn, if_neg (n_le hi (by omega)), bundle_r hN hn (by rw [hr]; exact hW) hi, Option.bind_some, hr, nI1]
    show _ = X9_firstOnes_l4 N 153 σ m (mkB (isF r) i ||| (if isF r i then _ else _)) _
    by_cases g : hb (r 32) i = true
    · have : isF r i = false := by
        cases hx : isF r i
        · rfl
        · rw [(isF_iff.mp hx).1] at g; cases g
      rw [if_pos g, if_pos rfl, this]; rfl
    · have hB := bun_is hW (show i < 8 by omega)
      obtain ⟨t, t1, t2, t3, t4⟩ := ntz_b N (x := bun r i) (fun j hj => bun_out hW hi j (by omega)) (bun_ne0 hW (by omega)) σ
      rw [if_neg g, if_neg (bun_ne0 hW (by omega)), t2, Option.bind_some]
      by_cases z : t = i
      · have : isF r i = true := isF_iff.mpr ⟨by simpa using g, by rw [← z]; rw [← z] at t4; exact t4⟩
        rw [if_pos (by rw [z]), this, if_pos rfl]
      · have : isF r i = false := by
          cases hx : isF r i
          · rfl
          · have q := (isF_iff.mp hx).2
            rcases Nat.lt_or_ge t i with y | y
            · rw [q t y] at t3; cases t3
            · have := hB.1
              rw [t4 i (by omega)] at this; cases this
        rw [if_neg (fun y => z ((nI_eq (by omega) (by omega)).mp y)), this]; rfl
  · intro m a ha
    rw [X9_firstOnes_l4, hn, if_pos (nI_le (Nat.le_refl _) (by omega)), ha]
theorem pop_mkB {f : Nat → Bool} {n : Nat} (hn : n ≤ 8) : popI (mkB f n) = nI (cntB f n) := by
  rw [popI_eq (fun i hi => by rw [hb_n f hn, decide_eq_false (by omega)]; rfl)]
  congr 1
  have := cntB_cut (f := hb (mkB f n)) (n := n) (8 - n) (fun i hi => by rw [hb_n f hn, decide_eq_false (by omega)]; rfl)
  rw [show n + (8 - n) = 8 by omega] at this
  rw [this]
  exact cntB_congr n (fun i hi => by rw [hb_n f hn, decide_eq_true hi]; rfl)
theorem mkB_and {f : Nat → Bool} {n : Nat} (hn : n ≤ 8) (x : Int32) : mkB f n &&& x = mkB (fun k => f k && hb x k) n := by
  apply hb_ext
  intro i _
  rw [hb_and, hb_n f hn, hb_n _ hn]
  cases decide (i < n) <;> simp
theorem foldF_congr {α : Type} {p p' : Nat → Bool} {g g' : Nat → α → α} (n : Nat) (a : α) (h : ∀ k, k < n → ∀ a, (if p k then g k a else a) = (if p' k then g' k a else a)) : foldF p g n a = foldF p' g' n a := by
  induction n with
  | zero => rfl
  | succ n ih =>
    unfold foldF
    rw [ih (fun k hk => h k (by omega)), h n (by omega)]
theorem foldF_cnt (p : Nat → Bool) (n : Nat) : foldF p (fun _ (c : Int32) => c + 1) n 0 = nI (cntB p n) := by
  induction n with
  | zero => rfl
  | succ n ih =>
    unfold foldF cntB
    rw [ih]
    cases p n
    · rfl
    · simp [nI1]
theorem float_bun {L : Ld} {r : Nat → Int32} (h : WL L.1 r) {k : Nat} (hk : k < L.1) (hF : isF r k = true) : (floatS L r &&& bun r k = 0) ↔ hb (floatS L r) k = false := by
  have h8 := h.2.2.2.2
  have hB := bun_is h (show k < 8 by omega)
  have hg := (isF_iff.mp hF).1
  constructor
  · intro q
    cases hx : hb (floatS L r) k
    · rfl
    · have : hb (floatS L r &&& bun r k) k = true := by rw [hb_and, hx, hB.1]; rfl
      rw [q, hb_0] at this; cases this
  · intro q
    apply hb_ext
    intro j _
    rw [hb_and, hb_0]
    cases hx : hb (bun r k) j
    · simp
    · cases hy : hb (floatS L r) j
      · rfl
      · have z := (hb_floatS h8 j).mp hy
        have : hb (floatS L r) k = true := (hb_floatS h8 k).mpr ⟨hk, hg, by rw [← bun_eq h hk hx]; exact z.2.2⟩
        rw [q] at this; cases this
theorem float19 {N : Nat} (hN : 40 < N) {σ : Sg} {A : Ab} {H : Nat} (hσ : InvC σ A) (hA : OkA H A) (hH : H < 1000000) : ∃ k2 σ1, (gi σ 5 2).toNatClampNeg = k2 ∧ isRule k2 = true ∧ X0_floating N 19 k2 σ = some (floatS A.1 A.2.1, σ1) ∧ (∀ i, i < A.1.1 → gi σ1 15 i = needS A.1 A.2.1 i) ∧ PtC σ1 A.1.1 A.2.1 ∧ Fr PH σ σ1 := by
  obtain ⟨k2, m1, m2, m3, m4⟩ := hσ.1.rule
  obtain ⟨h, hh, e36⟩ := hA.1.h36
  obtain ⟨σ1, e1, e2, e3, e4⟩ := floating_c (N := N) hN (Or.inl rfl : (19 : Nat) = 19 ∨ (19 : Nat) = 24) m4 (show h < 2147483648 by omega) (by rw [hσ.2.1]; exact e36) (by rw [hσ.2.1]; exact hA.1.1)
  rw [hσ.2.1] at e1 e2 e3
  exact ⟨k2, σ1, m2, m3, e1, e2, e3, e4⟩
theorem float153 {N : Nat} (hN : 40 < N) {σ : Sg} {A : Ab} {H : Nat} (h1 : LR σ A.1) (h2 : rR σ 153 = A.2.1) (hA : OkA H A) (hH : H < 1000000) : ∃ σ1, X9_floating N 153 σ = some (floatS A.1 A.2.1, σ1) ∧ Fr [159, 160] σ σ1 := by
  obtain ⟨h, hh, e36⟩ := hA.1.h36
  obtain ⟨σ1, e1, e2⟩ := floating_r (N := N) hN (Or.inl rfl : (153 : Nat) = 153 ∨ (153 : Nat) = 154) h1 (show h < 2147483648 by omega) (by rw [h2]; exact e36) (by rw [h2]; exact hA.1.1)
  rw [h2] at e1
  exact ⟨σ1, e1, e2⟩
theorem floats_op {N : Nat} (hN : 555 < N) {H : Nat} {A : Ab} (hA : OkA H A) (hH : H < 1000000) : OpB (X8_floats N) (X9_floats N) H A := by
  have h8 := hA.1.1.2.2.2.2
  have hW := hA.1.1
  refine OpB.told hA (floatS A.1 A.2.1) [(nI (cntB (isF A.2.1) A.1.1)).toInt64, (nI (cntB (fun k => isF A.2.1 k && hb (floatS A.1 A.2.1) k) A.1.1)).toInt64] (by simp) (fun σ hσ => ?_) (fun σ hσ => ?_)
  · obtain ⟨k2, σ1, m2, m3, e1, e2, e3, e4⟩ := float19 (N := N) (by omega) hσ hA hH
    have hc := cntB_le (isF A.2.1) A.1.1
    obtain ⟨σ2, g1, g2, g3⟩ := tell2_c N (nI (cntB (isF A.2.1) A.1.1)).toInt64 (nI (cntB (fun k => isF A.2.1 k && hb (floatS A.1 A.2.1) k) A.1.1)).toInt64 σ1
    refine ⟨σ2, ?_, g2, (e4.mono (by decide)).trans (g3.mono (by decide))⟩
    unfold X8_floats
    rw [m2, m3, if_pos rfl, e1, Option.bind_some]
    refine forB (L := fun m b a => X8_floats_l23 N (fun v1 v2 σ => X8_floats_j57 N v1 v2 σ) m (floatS A.1 A.2.1) a (nI b) σ1) (isF A.2.1) (fun k c => if floatS A.1 A.2.1 &&& bun A.2.1 k = 0 then c else c + 1) (n := A.1.1) (a0 := 0) (o := fun x => x = some (floatS A.1 A.2.1, σ2)) (by omega) ?_ ?_
    · intro m k hk2 hkF
      have hlt := cntB_lt_of hk2 hkF
      rw [X8_floats_l23, e3.1, if_neg (n_le hlt (by omega)), inbI (show cntB (isF A.2.1) k < 8 by omega) (by omega), clI (by omega), e3.2 k hk2 hkF, nI1]
      simp only [if_true]
      by_cases q : floatS A.1 A.2.1 &&& bun A.2.1 k = 0
      · rw [if_pos q, if_pos q]
      · rw [if_neg q, if_neg q]
    · intro m
      have e : foldF (isF A.2.1) (fun k (c : Int32) => if floatS A.1 A.2.1 &&& bun A.2.1 k = 0 then c else c + 1) A.1.1 0 = nI (cntB (fun k => isF A.2.1 k && hb (floatS A.1 A.2.1) k) A.1.1) := by
        rw [← foldF_cnt]
        apply foldF_congr
        intro k hk a
        cases hF : isF A.2.1 k
        · rfl
        · rw [if_pos rfl]
          by_cases q : floatS A.1 A.2.1 &&& bun A.2.1 k = 0
          · rw [if_pos q, (float_bun hW hk hF).mp q]; rfl
          · rw [if_neg q]
            have : hb (floatS A.1 A.2.1) k = true := by
              cases hx : hb (floatS A.1 A.2.1) k
              · exact absurd ((float_bun hW hk hF).mpr hx) q
              · rfl
            rw [this]; rfl
      rw [X8_floats_l23, e3.1, if_pos (nI_le (Nat.le_refl _) (by omega)), X8_floats_j57, e3.1, e, g1]
      rfl
  · have f0 := thrown_f σ 0
    have c1 := hσ.1.fr f0 (by decide)
    have r0' : rR (wi σ 149 0 0) 153 = A.2.1 := (rR_congr (f0.r (by simp [pl]))).trans hσ.2.1
    obtain ⟨σ1, e1, e2⟩ := float153 (N := N) (by omega) c1 r0' hA hH
    have tf := told0_f σ1
    have f1 : Fr [159, 160, 3001, 150] (wi σ 149 0 0) (wi σ1 149 1 0) := (e2.mono (by decide)).trans (tf.mono (by decide))
    obtain ⟨σ4, g1, g2, g3⟩ := enters_r N (told0_r σ1) (by decide) (nI (cntB (isF A.2.1) A.1.1)).toInt64
    obtain ⟨σ5, i1, i2, i3⟩ := enters_r N g2 (by simp) (nI (cntB (fun k => isF A.2.1 k && hb (floatS A.1 A.2.1) k) A.1.1)).toInt64
    have n1 := (f1.g (k := 149) (j := 3) (by decide)).trans c1.1
    have r1 := (rR_congr (f1.r (k := 153) (by simp [pl]))).trans r0'
    have n4 := (g3.g (k := 149) (j := 3) (by decide)).trans n1
    have r4 := (rR_congr (g3.r (k := 153) (by simp [pl]))).trans r1
    refine ⟨σ5, ?_, i2, ((f0.mono (by decide)).trans (f1.mono (by decide))).trans ((g3.trans i3).mono (by decide))⟩
    unfold X9_floats
    simp only [bnS]
    rw [e1, Option.bind_some, firstOnes_r (by omega) n1 r1 hW, Option.bind_some, bitCount_eq, Option.bind_some, pop_mkB h8, g1, Option.bind_some, firstOnes_r (by omega) n4 r4 hW, Option.bind_some, bitCount_eq, Option.bind_some, mkB_and h8, pop_mkB h8, i1]
    rfl
theorem all_eq : ∀ n, n < 9 → allI n = nI (2 ^ n - 1) := by decide +kernel
theorem within_n {n : Nat} (h8 : n ≤ 8) (v : Int32) : (v &&& (allI n ^^^ (-1)) = 0) ↔ (¬ v < 0 ∧ v ≤ allI n) := by
  have hp := pow8 h8
  constructor
  · intro q
    have hb' : ∀ i, n ≤ i → hb v i = false := by
      intro i hi
      rcases Nat.lt_or_ge i 32 with z | z
      · have : hb (v &&& (allI n ^^^ (-1))) i = false := by rw [q, hb_0]
        rw [hb_and, hb_not _ z, hb_allI n (by omega) i z, decide_eq_false (by omega)] at this
        simpa using this
      · exact hb_big z
    obtain ⟨m, hm, rfl⟩ := mask_nI hb'
    rw [all_eq n (by omega)]
    exact ⟨nI_pos (by omega), nI_le (by omega) (by omega)⟩
  · rintro ⟨h1, h2⟩
    rw [all_eq n (by omega)] at h2
    obtain ⟨m, hm, rfl⟩ := nI_of2 (M := nI (2 ^ n - 1)) (n := 2 ^ n - 1) (nI_toInt (by omega)) h1 h2
    apply hb_ext
    intro i hi
    rw [hb_and, hb_not _ hi, hb_allI n (by omega) i hi, hb_0]
    by_cases z : i < n
    · simp [z]
    · rw [hb_nI hi, Nat.testBit_lt_two_pow (Nat.lt_of_lt_of_le (show m < 2 ^ n by omega) (Nat.pow_le_pow_right (by omega) (by omega)))]; rfl
