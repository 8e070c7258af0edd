/-! ===== what things need: both sides ===== -/
theorem min_b (N : Nat) (x y : Int32) (σ : Sg) : J9_min_7cf53 N x y σ = some (if y < x then y else x) := by unfold J9_min_7cf53; split <;> rfl
theorem max_b (N : Nat) (x y : Int32) (σ : Sg) : J9_max_7cf53 N x y σ = some (if x < y then y else x) := by unfold J9_max_7cf53; split <;> rfl
theorem i8_0 : inb 0 8 = true := by decide
theorem i8_1 : inb 1 8 = true := by decide
theorem i8_2 : inb 2 8 = true := by decide
theorem i8_3 : inb 3 8 = true := by decide
theorem i8_4 : inb 4 8 = true := by decide
theorem i8_5 : inb 5 8 = true := by decide
theorem i8_6 : inb 6 8 = true := by decide
theorem i8_7 : inb 7 8 = true := by decide
theorem i37_32 : inb 32 37 = true := by decide
theorem i37_33 : inb 33 37 = true := by decide
theorem i37_34 : inb 34 37 = true := by decide
theorem i37_35 : inb 35 37 = true := by decide
theorem i37_36 : inb 36 37 = true := by decide
theorem cl1 : (1 : Int32).toNatClampNeg = 1 := by decide
theorem cl2 : (2 : Int32).toNatClampNeg = 2 := by decide
theorem cl3 : (3 : Int32).toNatClampNeg = 3 := by decide
theorem cl4 : (4 : Int32).toNatClampNeg = 4 := by decide
theorem cl5 : (5 : Int32).toNatClampNeg = 5 := by decide
theorem cl6 : (6 : Int32).toNatClampNeg = 6 := by decide
theorem cl7 : (7 : Int32).toNatClampNeg = 7 := by decide
theorem cl32 : (32 : Int32).toNatClampNeg = 32 := by decide
theorem cl33 : (33 : Int32).toNatClampNeg = 33 := by decide
theorem cl34 : (34 : Int32).toNatClampNeg = 34 := by decide
theorem cl35 : (35 : Int32).toNatClampNeg = 35 := by decide
theorem cl36 : (36 : Int32).toNatClampNeg = 36 := by decide
theorem LC.fr {σ σ' : Sg} {k2 : Nat} {L : Ld} {l : List Nat} (h : LC σ k2 L) (hf : Fr l σ σ') (hl : ∀ x ∈ [2001, 2008, 6, 17, 7, 8, 11, 12], x ∉ l) : LC σ' k2 L := by
  obtain ⟨a1, a2, a3, a4, a5, a6, a7, a8, a9, a10⟩ := h
  refine ⟨(hf.g (k := 5) (j := 1) (hl 2001 (by decide))).trans a1, a2, fun i hi => (hf.g (k := 6) (hl 6 (by decide))).trans (a3 i hi), (hf.g (k := 5) (j := 8) (hl 2008 (by decide))).trans a4, a5, a6, fun i hi => (hf.g (k := 17) (hl 17 (by decide))).trans (a7 i hi), ?_, a9, a10⟩
  rcases a10 with rfl | rfl
  · exact ⟨(hf.g (k := 7) (hl 7 (by decide))).trans a8.1, fun i hi => (hf.g (k := 8) (hl 8 (by decide))).trans (a8.2 i hi)⟩
  · exact ⟨(hf.g (k := 11) (hl 11 (by decide))).trans a8.1, fun i hi => (hf.g (k := 12) (hl 12 (by decide))).trans (a8.2 i hi)⟩
theorem LR.fr {σ σ' : Sg} {L : Ld} {l : List Nat} (h : LR σ L) (hf : Fr l σ σ') (hl : ∀ x ∈ [3003, 3005, 3019, 151, 152, 157], x ∉ l) : LR σ' L := by
  obtain ⟨a1, a2, a3, a4, a5, a6, a7, a8, a9⟩ := h
  refine ⟨(hf.g (k := 149) (j := 3) (hl 3003 (by decide))).trans a1, a2, fun i hi => (hf.g (k := 151) (hl 151 (by decide))).trans (a3 i hi), (hf.g (k := 149) (j := 5) (hl 3005 (by decide))).trans a4, a5, a6, fun i hi => (hf.g (k := 152) (hl 152 (by decide))).trans (a7 i hi), ?_, a9⟩
  rcases a8 with ⟨b1, b2, b3⟩ | ⟨b1, b2, b3⟩
  · exact Or.inl ⟨(hf.g (k := 149) (j := 19) (hl 3019 (by decide))).trans b1, b2, fun i hi => (hf.g (k := 157) (hl 157 (by decide))).trans (b3 i hi)⟩
  · exact Or.inr ⟨(hf.g (k := 149) (j := 19) (hl 3019 (by decide))).trans b1, b2, b3⟩
def valsW (a : Sg) (k1 i : Nat) : Sg := wi (wi (wi (wi (wi (wi a 18 0 (gi a 6 i)) 18 2 (popI (gi a (k1 + 4) i))) 18 3 (gi a (k1 + 1) i)) 18 4 (gi a (k1 + 2) i)) 18 5 (gi a (k1 + 3) i)) 18 6 (nI i)
theorem weigh_step {N k1 k2 m i : Nat} {a : Sg} {n : Nat} (hk : k1 = 19 ∨ k1 = 24) (hn : gi a 5 1 = nI n) (h8 : n ≤ 8) (hi : i < n) (hg : hb (gi a k1 4) i = false) : X0_weigh_l32 N k1 k2 (m + 1) (nI i) a = (X3_valueOf N k2 (valsW a k1 i)).bind fun r => X0_weigh_l32 N k1 k2 m (nI (i + 1)) (wi r.2 15 i (clampS r.1)) := by
  rw [X0_weigh_l32, hn, if_neg (n_le hi (by omega)), isGone_b N k1 (by omega), hg, Option.bind_some]
  have hi8 : i < 8 := by omega
  rcases hk with rfl | rfl <;> simp [inbI hi8, clI (show i < 2147483648 by omega), bnS, bitCount_eq, giw, valsW, i8_0, i8_1, i8_2, i8_3, i8_4, i8_5, i8_6, cl0, cl2, cl3, cl4, cl5, cl6, min_b, max_b, clampS, nI1]
theorem weigh_gone {N k1 k2 m i : Nat} {a : Sg} {n : Nat} (hn : gi a 5 1 = nI n) (h8 : n ≤ 8) (hi : i < n) (hg : hb (gi a k1 4) i = true) : X0_weigh_l32 N k1 k2 (m + 1) (nI i) a = X0_weigh_l32 N k1 k2 m (nI (i + 1)) (wi a 15 i 0) := by
  rw [X0_weigh_l32, hn, if_neg (n_le hi (by omega)), isGone_b N k1 (by omega), hg, Option.bind_some]
  have hi8 : i < 8 := by omega
  simp [inbI hi8, clI (show i < 2147483648 by omega), bnS, nI1]
theorem weigh_b {N : Nat} (hN : 40 < N) {k1 k2 : Nat} (hk : k1 = 19 ∨ k1 = 24) {σ : Sg} {L : Ld} (hL : LC σ k2 L) {h : Nat} (hh : h < 2147483648) (e36 : rC σ k1 36 = nI h) : ∃ σ', X0_weigh N k1 k2 σ = some σ' ∧ (∀ i, i < L.1 → gi σ' 15 i = needS L (rC σ k1) i) ∧ Fr [15, 18, 9, 13] σ σ' := by
  have hL0 := hL
  obtain ⟨a1, a2, a3, a4, a5, a6, a7, a8, a9, a10⟩ := hL
  have e8 : gi σ k1 8 = nI h := e36
  have f18 : ∀ (a : Sg) (j : Nat) (x : Int32), Fr [15, 18, 9, 13] σ a → Fr [15, 18, 9, 13] σ (wi a 18 j x) := fun a j x q => q.wi (by simp [pl])
  have f15 : ∀ (a : Sg) (j : Nat) (x : Int32), Fr [15, 18, 9, 13] σ a → Fr [15, 18, 9, 13] σ (wi a 15 j x) := fun a j x q => q.wi (by simp [pl])
  have hrow : ∀ a, Fr [15, 18, 9, 13] σ a → rC a k1 = rC σ k1 := by
    intro a q
    rcases hk with rfl | rfl
    · exact rC_congr (q.r (by simp [pl])) (q.r (by simp [pl])) (q.r (by simp [pl])) (q.r (by simp [pl])) (q.r (by simp [pl]))
    · exact rC_congr (q.r (by simp [pl])) (q.r (by simp [pl])) (q.r (by simp [pl])) (q.r (by simp [pl])) (q.r (by simp [pl]))
  unfold X0_weigh
  rw [e8, windAt_b N hh a4 a5 a6, Option.bind_some, if_pos i8_1]
  simp only [bnS, cl1]
  have e8' : gi (wi σ 18 1 (gi σ 17 (h % L.2.2.2.1))) k1 8 = nI h := by
    rw [giw]; rcases hk with rfl | rfl <;> simpa using e8
  rw [e8', show (7 : Int32) = nI 7 from rfl, floorMod_b N hh (by omega) (by omega), Option.bind_some, if_pos (show inb (nI 7) 8 = true from i8_7)]
  simp only [show (nI 7).toNatClampNeg = 7 from cl7]
  refine forL0 (L := fun n i a => X0_weigh_l32 N k1 k2 n (nI i) a) (m := L.1) (a := wi (wi σ 18 1 (gi σ 17 (h % L.2.2.2.1))) 18 7 (nI (h % 7))) (fun i a => Fr [15, 18, 9, 13] σ a ∧ gi a 18 1 = L.2.2.1 (h % L.2.2.2.1) ∧ gi a 18 7 = nI (h % 7) ∧ ∀ j, j < i → gi a 15 j = needS L (rC σ k1) j) (o := fun x => ∃ σ', x = some σ' ∧ (∀ i, i < L.1 → gi σ' 15 i = needS L (rC σ k1) i) ∧ Fr [15, 18, 9, 13] σ σ') (by omega) ?_ ?_ ?_
  · refine ⟨f18 _ _ _ (f18 _ _ _ (Fr.refl _ _)), ?_, ?_, fun j hj => absurd hj (Nat.not_lt_zero _)⟩
    · rw [giw, if_neg (by omega), giw, if_pos ⟨rfl, rfl⟩, a7 _ (Nat.mod_lt _ (by omega))]
    · rw [giw, if_pos ⟨rfl, rfl⟩]
  · intro n i a hi hI
    obtain ⟨hF, h1, h7, hD⟩ := hI
    left
    have hi8 : i < 8 := by omega
    have hn : gi a 5 1 = nI L.1 := (hF.g (by simp [pl])).trans a1
    have hr := hrow a hF
    have hgone : gi a k1 4 = rC σ k1 32 := by rw [← hr]; rfl
    by_cases hg : hb (rC σ k1 32) i = true
    · refine ⟨wi a 15 i 0, ⟨f15 _ _ _ hF, ?_, ?_, ?_⟩, ?_⟩
      · rw [giw, if_neg (by omega)]; exact h1
      · rw [giw, if_neg (by omega)]; exact h7
      · intro j hj
        rw [giw]
        by_cases hji : j = i
        · rw [if_pos ⟨rfl, hji⟩, hji]; unfold needS; rw [if_pos hg]
        · rw [if_neg (fun q => hji q.2)]; exact hD j (by omega)
      · exact weigh_gone hn a2 hi (by rw [hgone]; exact hg)
    · have hg' : hb (gi a k1 4) i = false := by rw [hgone]; simpa using hg
      have hFv : Fr [15, 18, 9, 13] σ (valsW a k1 i) := by unfold valsW; exact f18 _ _ _ (f18 _ _ _ (f18 _ _ _ (f18 _ _ _ (f18 _ _ _ (f18 _ _ _ hF)))))
      have hLv := hL0.fr hFv (by decide)
      obtain ⟨σ', ev, fv⟩ := valueOf_b (N := N) hN a10 hLv.2.2.2.2.2.2.2.1 a9
      have hask : ∀ j, j < 8 → gi (valsW a k1 i) 18 j = askS L (rC σ k1) i j := by
        intro j hj
        unfold valsW askS
        simp only [giw]
        have hj : j = 0 ∨ j = 1 ∨ j = 2 ∨ j = 3 ∨ j = 4 ∨ j = 5 ∨ j = 6 ∨ j = 7 := by omega
        rw [e36, clI hh, ← hr, rC_s hi8, rC_h hi8, rC_d hi8, rC_l hi8]
        rcases hj with rfl | rfl | rfl | rfl | rfl | rfl | rfl | rfl
        · simp; exact (hF.g (by simp [pl])).trans (a3 i hi)
        · simp; exact h1
        · simp
        · simp
        · simp
        · simp
        · simp
        · simp; exact h7
      have hev : evT L.2.2.2.2.1 L.2.2.2.2.2 (gi (valsW a k1 i) 18) = evT L.2.2.2.2.1 L.2.2.2.2.2 (askS L (rC σ k1) i) := evT_of a9 hask _
      have fv' : Fr [15, 18, 9, 13] σ σ' := hFv.trans (fv.mono (by intro k hk'; rcases a10 with rfl | rfl <;> simp at hk' <;> subst hk' <;> decide))
      have g18 : gi σ' 18 = gi (valsW a k1 i) 18 := fv.r (by intro j; rcases a10 with rfl | rfl <;> simp [pl])
      have g15 : gi σ' 15 = gi (valsW a k1 i) 15 := fv.r (by intro j; rcases a10 with rfl | rfl <;> simp [pl])
      refine ⟨wi σ' 15 i (clampS (evT L.2.2.2.2.1 L.2.2.2.2.2 (askS L (rC σ k1) i))), ⟨f15 _ _ _ fv', ?_, ?_, ?_⟩, ?_⟩
      · rw [giw, if_neg (by omega), g18]
        unfold valsW
        simp only [giw]
        simpa using h1
      · rw [giw, if_neg (by omega), g18]
        unfold valsW
        simp only [giw]
        simpa using h7
      · intro j hj
        rw [giw]
        by_cases hji : j = i
        · rw [if_pos ⟨rfl, hji⟩, hji]; unfold needS; rw [if_neg hg]
        · rw [if_neg (fun q => hji q.2), g15]
          unfold valsW
          simp only [giw]
          simpa using hD j (by omega)
      · show X0_weigh_l32 N k1 k2 (n + 1) (nI i) a = _
        rw [weigh_step hk hn a2 hi hg', ev, hev]
        rfl
  · intro n a hI
    obtain ⟨hF, h1, h7, hD⟩ := hI
    refine ⟨a, ?_, hD, hF⟩
    rw [X0_weigh_l32, (hF.g (by simp [pl]) : gi a 5 1 = gi σ 5 1), a1, if_pos (nI_le (Nat.le_refl _) (by omega))]
def askW (a : Sg) (k1 k h m : Nat) : Sg := wi (wi (wi (wi (wi (wi (wi (wi a 160 0 (gi a 151 k)) 160 1 (gi a 152 (h % m))) 160 2 (popI (gi a k1 (24 + k)))) 160 3 (gi a k1 k)) 160 4 (gi a k1 (8 + k))) 160 5 (gi a k1 (16 + k))) 160 6 (nI k)) 160 7 (nI (h % 7))
theorem need_step {N k1 k : Nat} {a : Sg} (hk : k1 = 153 ∨ k1 = 154) (hi8 : k < 8) {h m : Nat} (hh : h < 2147483648) (hh2 : gi a k1 36 = nI h) (em : gi a 149 5 = nI m) (hm : 1 ≤ m) (hm2 : m ≤ 20) (hg : hb (gi a k1 32) k = false) : X9_need N k1 (nI k) a = (X9_ruled N (askW a k1 k h m)).bind fun r => some (clampS r.1, r.2) := by
  have hmod := Nat.mod_lt h (show m > 0 by omega)
  have e7 : nI h - nI h / 7 * 7 = nI (h % 7) := pk_rem (d := 7) hh (by omega) (by omega)
  unfold X9_need
  rw [if_pos i37_32, cl32, has_b N _ (by omega), hg, Option.bind_some]
  have w1 : ∀ x, X9_windOn N (nI h) (wi a 160 0 x) = some (gi a 152 (h % m)) := by
    intro x
    rw [windOn_b N hh (σ := wi a 160 0 x) (by rw [giw, if_neg (by omega)]; exact em) hm hm2, giw, if_neg (by omega)]
  rcases hk with rfl | rfl <;> simp [inbI hi8, clI (show k < 2147483648 by omega), bnS, bitCount_eq, giw, askW, i8_0, i8_1, i8_2, i8_3, i8_4, i8_5, i8_6, i8_7, i37_36, cl0, cl1, cl2, cl3, cl4, cl5, cl6, cl7, cl36, hh2, w1, min_b, max_b, clampS, e7, show (24 : Int32) + nI k = nI (24 + k) from nI_add 24 k, show (8 : Int32) + nI k = nI (8 + k) from nI_add 8 k, show (16 : Int32) + nI k = nI (16 + k) from nI_add 16 k, inbI (show 24 + k < 37 by omega) (by omega), inbI (show 8 + k < 37 by omega) (by omega), inbI (show 16 + k < 37 by omega) (by omega), inbI (show k < 37 by omega) (by omega), clI (show 24 + k < 2147483648 by omega), clI (show 8 + k < 2147483648 by omega), clI (show 16 + k < 2147483648 by omega)]
theorem need_b {N : Nat} (hN : 40 < N) {k1 : Nat} (hk : k1 = 153 ∨ k1 = 154) {σ : Sg} {L : Ld} (hL : LR σ L) {h : Nat} (hh : h < 2147483648) (e36 : rR σ k1 36 = nI h) {k : Nat} (hkn : k < L.1) : ∃ σ', X9_need N k1 (nI k) σ = some (needS L (rR σ k1) k, σ') ∧ Fr [159, 160] σ σ' := by
  have hL0 := hL
  obtain ⟨a1, a2, a3, a4, a5, a6, a7, a8, a9⟩ := hL
  have hk8 : k < 8 := by omega
  have e8 : gi σ k1 36 = nI h := e36
  by_cases hg : hb (rR σ k1 32) k = true
  · refine ⟨σ, ?_, Fr.refl _ _⟩
    unfold X9_need needS
    rw [if_pos i37_32, cl32, has_b N _ (by omega), Option.bind_some, if_pos (show hb (gi σ k1 32) k = true from hg), if_neg oneF, if_pos hg]
  · have hg' : hb (gi σ k1 32) k = false := by simpa [rR] using hg
    have f160 : ∀ (a : Sg) (j : Nat) (x : Int32), Fr [159, 160] σ a → Fr [159, 160] σ (wi a 160 j x) := fun a j x q => q.wi (by simp [pl])
    have hFv : Fr [159, 160] σ (askW σ k1 k h L.2.2.2.1) := by unfold askW; exact f160 _ _ _ (f160 _ _ _ (f160 _ _ _ (f160 _ _ _ (f160 _ _ _ (f160 _ _ _ (f160 _ _ _ (f160 _ _ _ (Fr.refl _ _))))))))
    have hLv := hL0.fr hFv (by decide)
    obtain ⟨σ', ev, fv⟩ := ruled_b (N := N) hN hLv.2.2.2.2.2.2.2.1 a9
    have hask : ∀ j, j < 8 → gi (askW σ k1 k h L.2.2.2.1) 160 j = askS L (rR σ k1) k j := by
      intro j hj
      unfold askW askS
      simp only [giw]
      have hj : j = 0 ∨ j = 1 ∨ j = 2 ∨ j = 3 ∨ j = 4 ∨ j = 5 ∨ j = 6 ∨ j = 7 := by omega
      rw [e36, clI hh, rR_j (show 24 + k < 37 by omega), rR_j (show 8 + k < 37 by omega), rR_j (show 16 + k < 37 by omega), rR_j (show k < 37 by omega)]
      rcases hj with rfl | rfl | rfl | rfl | rfl | rfl | rfl | rfl
      · simp; exact a3 k hkn
      · simp; exact a7 _ (Nat.mod_lt _ (by omega))
      · simp
      · simp
      · simp
      · simp
      · simp
      · simp
    have hev : evT L.2.2.2.2.1 L.2.2.2.2.2 (gi (askW σ k1 k h L.2.2.2.1) 160) = evT L.2.2.2.2.1 L.2.2.2.2.2 (askS L (rR σ k1) k) := evT_of a9 hask _
    refine ⟨σ', ?_, hFv.trans (fv.mono (by decide))⟩
    rw [need_step hk hk8 hh e8 a4 a5 a6 hg', ev, hev]
    unfold needS
    rw [if_neg hg]
    rfl
theorem needOf_r {N : Nat} (hN : 40 < N) {k1 : Nat} (hk : k1 = 153 ∨ k1 = 154) {σ : Sg} {L : Ld} (hL : LR σ L) {h : Nat} (hh : h < 2147483648) (e36 : rR σ k1 36 = nI h) (s : Int32) : ∃ σ', X9_needOf N k1 s σ = some (sumB (hb s) (needS L (rR σ k1)) L.1, σ') ∧ Fr [159, 160] σ σ' := by
  have h8 := hL.2.1
  unfold X9_needOf
  refine forL0 (L := fun n i (a : Int32 × Sg) => X9_needOf_l5 N k1 n s a.1 (nI i) a.2) (m := L.1) (a := (0, σ)) (fun i a => a.1 = sumB (hb s) (needS L (rR σ k1)) i ∧ Fr [159, 160] σ a.2) (o := fun x => ∃ σ', x = some (sumB (hb s) (needS L (rR σ k1)) L.1, σ') ∧ Fr [159, 160] σ σ') (by omega) ⟨rfl, Fr.refl _ _⟩ ?_ ?_
  · intro n i a hi hI
    obtain ⟨v, τ⟩ := a
    obtain ⟨hv, hF⟩ := hI
    dsimp only at hv hF ⊢
    left
    have hLa := hL.fr hF (by decide)
    have hr : rR τ k1 = rR σ k1 := rR_congr (hF.r (by intro j; rcases hk with rfl | rfl <;> simp [pl]))
    obtain ⟨σ', e, f⟩ := need_b hN hk hLa hh (by rw [hr]; exact e36) hi
    by_cases hs : hb s i = true
    · refine ⟨(v + needS L (rR σ k1) i, σ'), ⟨?_, hF.trans f⟩, ?_⟩
      · show v + _ = sumB _ _ (i + 1)
        unfold sumB
        rw [hv, if_pos hs]
      · rw [X9_needOf_l5, hLa.1, if_neg (n_le hi (by omega)), has_b N s (by omega), Option.bind_some, if_pos hs, if_neg oneF, e, Option.bind_some, nI1, hr]
    · refine ⟨(v, τ), ⟨?_, hF⟩, ?_⟩
      · show v = sumB _ _ (i + 1)
        unfold sumB
        rw [hv, if_neg hs]
        simp
      · rw [X9_needOf_l5, hLa.1, if_neg (n_le hi (by omega)), has_b N s (by omega), Option.bind_some, if_neg hs, if_pos rfl, nI1]
        simp
  · intro n a hI
    obtain ⟨v, τ⟩ := a
    obtain ⟨hv, hF⟩ := hI
    dsimp only at hv hF ⊢
    refine ⟨τ, ?_, hF⟩
    rw [X9_needOf_l5, (hL.fr hF (by decide)).1, if_pos (nI_le (Nat.le_refl _) (by omega)), hv]
