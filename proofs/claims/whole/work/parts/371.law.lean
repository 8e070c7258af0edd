/-! ===== rule, law: the calls ===== -/
theorem LR.lay {σ σ' : Sg} {L : Ld} {l : List Nat} (h : LR σ L) (f : Fr l σ σ') (h1 : ∀ x ∈ [3003, 3005, 151, 152], x ∉ l) {ts : Nat → Nat} {len : Nat} (hc : CdR σ' ts len) (hg : Gd ts len) : LR σ' (L.1, L.2.1, L.2.2.1, L.2.2.2.1, ts, len) := by
  obtain ⟨l1, l2, l3, l4, l5, l6, l7, l8, l9⟩ := h
  exact ⟨(f.g (k := 149) (j := 3) (h1 3003 (by simp))).trans l1, l2, fun i hi => (f.g (k := 151) (j := i) (h1 151 (by simp))).trans (l3 i hi), (f.g (k := 149) (j := 5) (h1 3005 (by simp))).trans l4, l5, l6, fun i hi => (f.g (k := 152) (j := i) (h1 152 (by simp))).trans (l7 i hi), hc, hg⟩
def setL (L : Ld) (ts : Nat → Nat) (len : Nat) : Ld := (L.1, L.2.1, L.2.2.1, L.2.2.2.1, ts, len)
theorem RuC.two {σ : Sg} {L : Ld} (h : RuC σ L) : ∃ k2 kd, ((k2 = 7 ∧ kd = 11) ∨ (k2 = 11 ∧ kd = 7)) ∧ gi σ 5 2 = nI k2 ∧ gi σ 5 3 = nI kd ∧ LC σ k2 L := by
  obtain ⟨k2, e2, e3, l⟩ := h
  have := l.2.2.2.2.2.2.2.2.2
  rcases this with z | z
  · subst z; exact ⟨7, 11, Or.inl ⟨rfl, rfl⟩, e2, e3, l⟩
  · subst z; exact ⟨11, 7, Or.inr ⟨rfl, rfl⟩, e2, e3, l⟩
theorem rule_bad {N : Nat} {H : Nat} {L : Ld} {now : Nat → Int32} {t : List Nat} {to : List Int64} {p : List (Nat → Int32)} {s : Nat → Option (Nat → Int32)} {w : List (Nat × Nat × Nat)} (hA : OkA H (L, now, t, to, p, s, w)) {q : Nat} (hF : ruF N t q) {m8 m9 : Sg → Option (Int32 × Sg)} (v : Int32)
    (e8 : ∀ σ σ', X8_readDraft N σ = some (nI q, σ') → m8 σ = some (v, σ')) (e9 : ∀ σ σ', X9_readsRule N (wi σ 149 0 0) = some (-1 - nI q, σ') → m9 σ = some (v, σ')) : OpB m8 m9 H (L, now, t, to, p, s, w) := by
  obtain ⟨k1, ⟨k2, k2'⟩, k3, ⟨k4, k4'⟩, k5, k6⟩ := hA
  dsimp only at k1 k2 k2' k3 k4 k4' k5 k6
  obtain ⟨q40, qc, qr⟩ := hF
  refine ⟨v, (L, now, [], to, p, s, w), ?_, ?_, k1.mono (by omega), ⟨by simp, by simp⟩, k3, ⟨k4, fun q hq => (k4' q hq).mono (by omega)⟩, fun i r hi hr => (k5 i r hi hr).mono (by omega), k6⟩
  · rintro σ ⟨c1, c2, c3, c4, c5, c6, c7⟩
    dsimp only at c1 c2 c3 c4 c5 c6 c7
    obtain ⟨r2, rd, hrr, e2, e3, l⟩ := c1.two
    obtain ⟨σ1, a1, a2, a3⟩ := qc rd (by rcases hrr with ⟨_, rfl⟩ | ⟨_, rfl⟩ <;> simp) σ c3 e3
    refine ⟨σ1, e8 σ σ1 a1, ⟨⟨r2, ?_, ?_, ?_⟩, ?_, a2, ?_, ?_, ?_, ?_⟩, ?_⟩
    · exact (a3.g (k := 5) (j := 2) (by rcases hrr with ⟨rfl, rfl⟩ | ⟨rfl, rfl⟩ <;> decide)).trans e2
    · rw [a3.g (k := 5) (j := 3) (by rcases hrr with ⟨rfl, rfl⟩ | ⟨rfl, rfl⟩ <;> decide), e3]
      rcases hrr with ⟨rfl, rfl⟩ | ⟨rfl, rfl⟩ <;> rfl
    · refine l.draft a3 ?_ ?_ ?_
      · rcases hrr with ⟨rfl, rfl⟩ | ⟨rfl, rfl⟩ <;> decide
      · intro j; rcases hrr with ⟨rfl, rfl⟩ | ⟨rfl, rfl⟩ <;> simp [pl, frK]
      · intro j; rcases hrr with ⟨rfl, rfl⟩ | ⟨rfl, rfl⟩ <;> simp [pl, frK]
    · exact (a3.row19 (by rcases hrr with ⟨rfl, rfl⟩ | ⟨rfl, rfl⟩ <;> decide)).trans c2
    · exact c4.fr a3 (by rcases hrr with ⟨rfl, rfl⟩ | ⟨rfl, rfl⟩ <;> decide)
    · exact c5.fr a3 (by rcases hrr with ⟨rfl, rfl⟩ | ⟨rfl, rfl⟩ <;> decide +kernel)
    · exact c6.fr a3 (by rcases hrr with ⟨rfl, rfl⟩ | ⟨rfl, rfl⟩ <;> decide +kernel)
    · exact c7.fr a3 (by rcases hrr with ⟨rfl, rfl⟩ | ⟨rfl, rfl⟩ <;> decide)
    · exact fun B hB => hB.fr a3 (by rcases hrr with ⟨rfl, rfl⟩ | ⟨rfl, rfl⟩ <;> decide)
  · rintro σ ⟨c1, c2, c3, c4, c5, c6, c7⟩
    dsimp only at c1 c2 c3 c4 c5 c6 c7
    obtain ⟨σ1, a1, a2, a3⟩ := qr σ c3
    exact ⟨σ1, e9 σ σ1 a1, ⟨c1.fr a3 (by decide), (rR_congr (a3.r (by simp [pl, rdL, rfL]))).trans c2, a2, c4.fr a3 (by decide), c5.fr a3 (by decide), c6.fr a3 (by decide), c7.fr a3 (by decide)⟩, fun B hB => hB.fr a3 (by decide +kernel)⟩
theorem rule_op {N : Nat} (hN : 555 < N) {H : Nat} {A : Ab} (hA : OkA H A) : OpB (X8_rule N) (X9_rule N) H A := by
  obtain ⟨L, now, t, to, p, s, w⟩ := A
  have hA0 := hA
  obtain ⟨k1, ⟨k2, k2'⟩, k3, ⟨k4, k4'⟩, k5, k6⟩ := hA
  dsimp only at k1 k2 k2' k3 k4 k4' k5 k6
  rcases ru_out (N := N) (by omega) k2 k2' with ⟨ts, len, hg, hc, hr⟩ | ⟨q, hF⟩
  · refine ⟨0, (setL L ts len, now, [], to, p, s, w), ?_, ?_, k1.mono (by omega), ⟨by simp, by simp⟩, k3, ⟨k4, fun q hq => (k4' q hq).mono (by omega)⟩, fun i r hi hr => (k5 i r hi hr).mono (by omega), k6⟩
    · rintro σ ⟨c1, c2, c3, c4, c5, c6, c7⟩
      dsimp only at c1 c2 c3 c4 c5 c6 c7
      obtain ⟨r2, rd, hrr, e2, e3, l⟩ := c1.two
      have hkd : rd = 7 ∨ rd = 11 := by rcases hrr with ⟨_, rfl⟩ | ⟨_, rfl⟩ <;> simp
      obtain ⟨σ1, a1, a2, a3, a4⟩ := hc rd hkd σ c3 e3
      have g2 : gi σ1 5 2 = nI r2 := (a4.g (k := 5) (j := 2) (by rcases hrr with ⟨rfl, rfl⟩ | ⟨rfl, rfl⟩ <;> decide)).trans e2
      have g3 : gi σ1 5 3 = nI rd := (a4.g (k := 5) (j := 3) (by rcases hrr with ⟨rfl, rfl⟩ | ⟨rfl, rfl⟩ <;> decide)).trans e3
      have fw : Fr [2002, 2003] σ1 (wi (wi σ1 5 2 (nI rd)) 5 3 (nI r2)) := ((Fr.refl _ _).wi (by decide)).wi (by decide)
      have f : Fr (frK rd ++ [1, 2002, 2003]) σ (wi (wi σ1 5 2 (nI rd)) 5 3 (nI r2)) := (a4.mono (by rcases hrr with ⟨rfl, rfl⟩ | ⟨rfl, rfl⟩ <;> decide)).trans (fw.mono (by rcases hrr with ⟨rfl, rfl⟩ | ⟨rfl, rfl⟩ <;> decide))
      refine ⟨wi (wi σ1 5 2 (nI rd)) 5 3 (nI r2), ?_, ⟨⟨rd, ?_, ?_, ?_⟩, ?_, a3.fr fw (by decide), ?_, ?_, ?_, ?_⟩, ?_⟩
      · unfold X8_rule
        rw [a1, Option.bind_some, if_pos rfl, X0_adoptDraft, g2, g3]
        rfl
      · rw [giw, if_neg (by omega), giw_s]
      · rw [giw_s]
        rcases hrr with ⟨rfl, rfl⟩ | ⟨rfl, rfl⟩ <;> rfl
      · refine LC.other (L := L) (k2 := r2) (l.draft f ?_ ?_ ?_) hkd ⟨?_, fun i hi => ?_⟩ hg
        · rcases hrr with ⟨rfl, rfl⟩ | ⟨rfl, rfl⟩ <;> decide
        · intro j; rcases hrr with ⟨rfl, rfl⟩ | ⟨rfl, rfl⟩ <;> simp [pl, frK]
        · intro j; rcases hrr with ⟨rfl, rfl⟩ | ⟨rfl, rfl⟩ <;> simp [pl, frK]
        · exact (fw.g (by rcases hkd with rfl | rfl <;> simp [pl])).trans a2.1
        · exact (fw.g (by rcases hkd with rfl | rfl <;> simp [pl])).trans (a2.2 i hi)
      · exact (f.row19 (by rcases hrr with ⟨rfl, rfl⟩ | ⟨rfl, rfl⟩ <;> decide)).trans c2
      · exact c4.fr f (by rcases hrr with ⟨rfl, rfl⟩ | ⟨rfl, rfl⟩ <;> decide)
      · exact c5.fr f (by rcases hrr with ⟨rfl, rfl⟩ | ⟨rfl, rfl⟩ <;> decide +kernel)
      · exact c6.fr f (by rcases hrr with ⟨rfl, rfl⟩ | ⟨rfl, rfl⟩ <;> decide +kernel)
      · exact c7.fr f (by rcases hrr with ⟨rfl, rfl⟩ | ⟨rfl, rfl⟩ <;> decide)
      · exact fun B hB => hB.fr f (by rcases hrr with ⟨rfl, rfl⟩ | ⟨rfl, rfl⟩ <;> decide)
    · rintro σ ⟨c1, c2, c3, c4, c5, c6, c7⟩
      dsimp only at c1 c2 c3 c4 c5 c6 c7
      obtain ⟨σ1, c, a1, a2, a3, a4, a5, a6⟩ := hr σ c3
      obtain ⟨σ2, b1, b2, b3, b4⟩ := lays_r (N := N) (by omega) (Or.inl rfl : (158 : Nat) = 158 ∨ (158 : Nat) = 176) a3 σ1
      have f : Fr (rdL ++ rfL ++ [3019, 157]) σ σ2 := (a6.mono (by decide)).trans (b4.mono (by decide))
      refine ⟨σ2, ?_, ⟨?_, (rR_congr (f.r (by simp [pl, rdL, rfL]))).trans c2, a5.fr b4 (by decide), c4.fr f (by decide), c5.fr f (by decide), c6.fr f (by decide), c7.fr f (by decide)⟩, fun B hB => hB.fr f (by decide +kernel)⟩
      · unfold X9_rule
        simp only [bnS]
        rw [a1, Option.bind_some, if_pos rfl, a2, b1]
        rfl
      · refine c1.lay f (by decide) ?_ hg
        rcases a4 with ⟨z1, z2, z3⟩ | ⟨z1, z2, z3⟩
        · subst z1; exact Or.inl ⟨b2, z2, fun i hi => (b3 i hi).trans (z3 i hi)⟩
        · subst z1; exact Or.inr ⟨b2, z2, z3⟩
  · refine rule_bad hA0 hF (-1 - nI q) (fun σ σ' e => ?_) (fun σ σ' e => ?_)
    · unfold X8_rule
      rw [e, Option.bind_some, if_neg (nIm1 (by have := hF.1; omega))]
    · unfold X9_rule
      simp only [bnS]
      have hne : ¬ (-1 : Int32) - nI q = 0 := (by decide : ∀ q, q < 41 → ¬ (-1 : Int32) - nI q = 0) q (by have := hF.1; omega)
      rw [e, Option.bind_some, if_neg hne]
theorem law_l74 {N : Nat} (hN : 20 < N) {σ : Sg} {n : Nat} (hn : gi σ 5 1 = nI n) (h8 : n ≤ 8) {f : Nat → Int32} (hd : ∀ i, i < n → gi σ 15 i = f i) {x y : Int64} (ht : ToC σ [x, y]) (v2 v3 : Int32) : ∃ σ', X8_law_l74 N N v2 v3 0 σ = some (v3 - v2, σ') ∧ ToC σ' ([x, y] ++ listS f n) ∧ Fr [3, 4] σ σ' := by
  refine forL0 (L := fun m i a => X8_law_l74 N m v2 v3 (nI i) a) (m := n) (a := σ) (fun i a => ToC a ([x, y] ++ listS f i) ∧ Fr [3, 4] σ a) (o := fun z => ∃ σ', z = some (v3 - v2, σ') ∧ ToC σ' ([x, y] ++ listS f n) ∧ Fr [3, 4] σ σ') (by omega) ⟨ht, Fr.refl _ _⟩ ?_ ?_
  · intro m i a hi hI
    obtain ⟨i1, i2⟩ := hI
    left
    obtain ⟨σ1, a1, a2, a3⟩ := tadd_c N i1 (by rw [List.length_append, listS_len]; simp only [List.length_cons, List.length_nil]; omega) (f i).toInt64
    refine ⟨σ1, ⟨by rw [listS_s, ← List.append_assoc]; exact a2, i2.trans a3⟩, ?_⟩
    rw [X8_law_l74, (i2.g (k := 5) (j := 1) (by decide)).trans hn, if_neg (nI_ge hi (by omega)), inbI (show i < 8 by omega) (by omega), if_pos rfl, clI (by omega), i2.g (k := 15) (by simp [pl]), hd i hi, a1, Option.bind_some, nI1]
  · intro m a hI
    exact ⟨a, by rw [X8_law_l74, (hI.2.g (k := 5) (j := 1) (by decide)).trans hn, if_pos (nI_le (Nat.le_refl _) (by omega))], hI⟩
theorem law_l42 {N : Nat} (hN : 100 < N) {σ : Sg} {c : Nat} (hc : gi σ 149 19 = nI c) (hc2 : c ≤ 40) (K : Int32 → Int32 → Sg → Option (Int32 × Sg)) (v2 v3 : Int32) : ∃ σ', X9_law_l42 N K N v2 v3 0 σ = K v2 v3 σ' ∧ (∀ i, i < c → gi σ' 176 i = gi σ 157 i) ∧ Fr [176] σ σ' := by
  refine forL0 (L := fun m i a => X9_law_l42 N K m v2 v3 (nI i) a) (m := c) (a := σ) (fun i a => (∀ j, j < i → gi a 176 j = gi σ 157 j) ∧ Fr [176] σ a) (o := fun x => ∃ σ', x = K v2 v3 σ' ∧ (∀ i, i < c → gi σ' 176 i = gi σ 157 i) ∧ Fr [176] σ σ') (by omega) ⟨fun j hj => absurd hj (Nat.not_lt_zero _), Fr.refl _ _⟩ ?_ ?_
  · intro m i a hi hI
    obtain ⟨i2, i3⟩ := hI
    left
    refine ⟨wi a 176 i (gi σ 157 i), ⟨fun j hj => ?_, i3.wi (by simp [pl])⟩, ?_⟩
    · rw [giw]
      by_cases z : j = i
      · rw [if_pos ⟨rfl, z⟩, z]
      · rw [if_neg (fun y => z y.2)]; exact i2 j (by omega)
    · rw [X9_law_l42, (i3.g (k := 149) (j := 19) (by decide)).trans hc, if_neg (nI_ge hi (by omega)), inbI (show i < 80 by omega) (by omega), if_pos rfl, if_pos rfl, clI (by omega), i3.g (k := 157) (by simp [pl]), nI1]
      rfl
  · intro m a hI
    exact ⟨a, by rw [X9_law_l42, (hI.2.g (k := 149) (j := 19) (by decide)).trans hc, if_pos (nI_le (Nat.le_refl _) (by omega))], hI⟩
theorem law_l117 {N : Nat} (hN : 60 < N) {σ : Sg} {L : Ld} (hL : LR σ L) {r : Nat → Int32} (hr : rR σ 153 = r) {h : Nat} (hh : h < 2147483648) (e36 : r 36 = nI h) {x y : Int64} (ht : ToR σ [x, y]) (K : Int32 → Int32 → Int32 → Sg → Option (Int32 × Sg)) (v2 v3 v4 : Int32) : ∃ σ', X9_law_l117 N K N v2 v3 v4 0 σ = K v2 v3 v4 σ' ∧ ToR σ' ([x, y] ++ listS (needS L r) L.1) ∧ Fr [159, 160, 3001, 150] σ σ' := by
  have h8 := hL.2.1
  refine forL0 (L := fun m i a => X9_law_l117 N K m v2 v3 v4 (nI i) a) (m := L.1) (a := σ) (fun i a => ToR a ([x, y] ++ listS (needS L r) i) ∧ Fr [159, 160, 3001, 150] σ a) (o := fun z => ∃ σ', z = K v2 v3 v4 σ' ∧ ToR σ' ([x, y] ++ listS (needS L r) L.1) ∧ Fr [159, 160, 3001, 150] σ σ') (by omega) ⟨ht, Fr.refl _ _⟩ ?_ ?_
  · intro m i a hi hI
    obtain ⟨i1, i2⟩ := hI
    left
    have La := hL.fr i2 (by decide)
    have ra : rR a 153 = r := (rR_congr (i2.r (by simp [pl]))).trans hr
    obtain ⟨σ1, a1, a2⟩ := need_b (N := N) (by omega) (Or.inl rfl : (153 : Nat) = 153 ∨ (153 : Nat) = 154) La hh (by rw [ra]; exact e36) hi
    rw [ra] at a1
    obtain ⟨σ2, b1, b2, b3⟩ := enters_r N (i1.fr a2 (by decide)) (by rw [List.length_append, listS_len]; simp only [List.length_cons, List.length_nil]; omega) (needS L r i).toInt64
    refine ⟨σ2, ⟨by rw [listS_s, ← List.append_assoc]; exact b2, (i2.trans (a2.mono (by decide))).trans (b3.mono (by decide))⟩, ?_⟩
    rw [X9_law_l117, La.1, if_neg (nI_ge hi (by omega)), a1, Option.bind_some, b1, Option.bind_some, nI1]
  · intro m a hI
    exact ⟨a, by rw [X9_law_l117, (hL.fr hI.2 (by decide)).1, if_pos (nI_le (Nat.le_refl _) (by omega))], hI⟩
theorem law_op {N : Nat} (hN : 555 < N) {H : Nat} {A : Ab} (hA : OkA H A) (hH : H < 1000000) : OpB (X8_law N) (X9_law N) H A := by
  obtain ⟨L, now, t, to, p, s, w⟩ := A
  have hA0 := hA
  obtain ⟨k1, ⟨k2, k2'⟩, k3, ⟨k4, k4'⟩, k5, k6⟩ := hA
  dsimp only at k1 k2 k2' k3 k4 k4' k5 k6
  have h8 := k1.1.2.2.2.2
  obtain ⟨h36, hh, e36⟩ := k1.h36
  rcases ru_out (N := N) (by omega) k2 k2' with ⟨ts, len, hg, hc, hr⟩ | ⟨q, hF⟩
  · refine ⟨popI (floatS (setL L ts len) now) - popI (floatS L now), (L, now, [], [(popI (floatS (setL L ts len) now)).toInt64, (popI (floatS L now)).toInt64] ++ listS (needS (setL L ts len) now) L.1, p, s, w), ?_, ?_, k1.mono (by omega), ⟨by simp, by simp⟩, ?_, ⟨k4, fun q hq => (k4' q hq).mono (by omega)⟩, fun i r hi hr => (k5 i r hi hr).mono (by omega), k6⟩
    · rintro σ ⟨c1, c2, c3, c4, c5, c6, c7⟩
      dsimp only at c1 c2 c3 c4 c5 c6 c7
      obtain ⟨r2, rd, hrr, e2, e3, l⟩ := c1.two
      have hkd : rd = 7 ∨ rd = 11 := by rcases hrr with ⟨_, rfl⟩ | ⟨_, rfl⟩ <;> simp
      have hk2 : r2 = 7 ∨ r2 = 11 := by rcases hrr with ⟨rfl, _⟩ | ⟨rfl, _⟩ <;> simp
      obtain ⟨σ1, a1, a2, a3, a4⟩ := hc rd hkd σ c3 e3
      have g2 : gi σ1 5 2 = nI r2 := (a4.g (k := 5) (j := 2) (by rcases hrr with ⟨rfl, rfl⟩ | ⟨rfl, rfl⟩ <;> decide)).trans e2
      have g3 : gi σ1 5 3 = nI rd := (a4.g (k := 5) (j := 3) (by rcases hrr with ⟨rfl, rfl⟩ | ⟨rfl, rfl⟩ <;> decide)).trans e3
      have l1 : LC σ1 r2 L := l.draft a4 (by rcases hrr with ⟨rfl, rfl⟩ | ⟨rfl, rfl⟩ <;> decide) (by intro j; rcases hrr with ⟨rfl, rfl⟩ | ⟨rfl, rfl⟩ <;> simp [pl, frK]) (by intro j; rcases hrr with ⟨rfl, rfl⟩ | ⟨rfl, rfl⟩ <;> simp [pl, frK])
      have ro1 : rC σ1 19 = now := (a4.row19 (by rcases hrr with ⟨rfl, rfl⟩ | ⟨rfl, rfl⟩ <;> decide)).trans c2
      have ld1 : LC σ1 rd (setL L ts len) := l1.other hkd a2 hg
      obtain ⟨σ2, b1, b2, b3, b4⟩ := floating_c (N := N) (by omega) (Or.inl rfl : (19 : Nat) = 19 ∨ (19 : Nat) = 24) l1 (show h36 < 2147483648 by omega) (by rw [ro1]; exact e36) (by rw [ro1]; exact k1.1)
      have ro2 : rC σ2 19 = now := (b4.row19 (by decide)).trans ro1
      have ld2 : LC σ2 rd (setL L ts len) := ld1.fr b4 (by decide)
      obtain ⟨σ3, d1, d2, d3, d4⟩ := floating_c (N := N) (by omega) (Or.inl rfl : (19 : Nat) = 19 ∨ (19 : Nat) = 24) ld2 (show h36 < 2147483648 by omega) (by rw [ro2]; exact e36) (by rw [ro2]; exact k1.1)
      rw [ro1] at b1
      rw [ro2] at d1 d2
      obtain ⟨σ4, t1, t2, t3⟩ := tell2_c N (popI (floatS (setL L ts len) now)).toInt64 (popI (floatS L now)).toInt64 σ3
      obtain ⟨σ5, u1, u2, u3⟩ := law_l74 (N := N) (by omega) (σ := σ4) (n := L.1) (((t3.g (k := 5) (j := 1) (by decide)).trans (d4.g (k := 5) (j := 1) (by decide))).trans ld2.1) h8 (f := needS (setL L ts len) now) (fun i hi => (t3.g (k := 15) (by simp [pl])).trans (d2 i hi)) t2 (popI (floatS L now)) (popI (floatS (setL L ts len) now))
      have f : Fr (frK rd ++ [1, 15, 18, 9, 13, 16, 2006, 3, 4]) σ σ5 := ((((a4.mono (by rcases hrr with ⟨rfl, rfl⟩ | ⟨rfl, rfl⟩ <;> decide)).trans (b4.mono (by rcases hrr with ⟨rfl, rfl⟩ | ⟨rfl, rfl⟩ <;> decide))).trans (d4.mono (by rcases hrr with ⟨rfl, rfl⟩ | ⟨rfl, rfl⟩ <;> decide))).trans (t3.mono (by rcases hrr with ⟨rfl, rfl⟩ | ⟨rfl, rfl⟩ <;> decide))).trans (u3.mono (by rcases hrr with ⟨rfl, rfl⟩ | ⟨rfl, rfl⟩ <;> decide))
      have f15 : Fr [15, 18, 9, 13, 16, 2006, 3, 4] σ1 σ5 := (((b4.mono (by decide)).trans (d4.mono (by decide))).trans (t3.mono (by decide))).trans (u3.mono (by decide))
      refine ⟨σ5, ?_, ⟨⟨r2, ?_, ?_, ?_⟩, ?_, a3.fr f15 (by decide), u2, ?_, ?_, ?_⟩, ?_⟩
      · obtain ⟨q1, q2⟩ := isRule_k hk2
        obtain ⟨q3, q4⟩ := isRule_k hkd
        unfold X8_law
        rw [a1, Option.bind_some, if_pos rfl, g2, q1, if_pos rfl, q2, b1, Option.bind_some, bitCount_eq, Option.bind_some, b4.g (k := 5) (j := 3) (by decide), g3, q3, if_pos rfl, q4, d1, Option.bind_some, bitCount_eq, Option.bind_some, t1, Option.bind_some, u1]
      · exact (f.g (k := 5) (j := 2) (by rcases hrr with ⟨rfl, rfl⟩ | ⟨rfl, rfl⟩ <;> decide)).trans e2
      · rw [f.g (k := 5) (j := 3) (by rcases hrr with ⟨rfl, rfl⟩ | ⟨rfl, rfl⟩ <;> decide), e3]
        rcases hrr with ⟨rfl, rfl⟩ | ⟨rfl, rfl⟩ <;> rfl
      · refine l.draft f ?_ ?_ ?_
        · rcases hrr with ⟨rfl, rfl⟩ | ⟨rfl, rfl⟩ <;> decide
        · intro j; rcases hrr with ⟨rfl, rfl⟩ | ⟨rfl, rfl⟩ <;> simp [pl, frK]
        · intro j; rcases hrr with ⟨rfl, rfl⟩ | ⟨rfl, rfl⟩ <;> simp [pl, frK]
      · exact (f.row19 (by rcases hrr with ⟨rfl, rfl⟩ | ⟨rfl, rfl⟩ <;> decide)).trans c2
      · exact c5.fr f (by rcases hrr with ⟨rfl, rfl⟩ | ⟨rfl, rfl⟩ <;> decide +kernel)
      · exact c6.fr f (by rcases hrr with ⟨rfl, rfl⟩ | ⟨rfl, rfl⟩ <;> decide +kernel)
      · exact c7.fr f (by rcases hrr with ⟨rfl, rfl⟩ | ⟨rfl, rfl⟩ <;> decide)
      · exact fun B hB => hB.fr f (by rcases hrr with ⟨rfl, rfl⟩ | ⟨rfl, rfl⟩ <;> decide)
    · rintro σ ⟨c1, c2, c3, c4, c5, c6, c7⟩
      dsimp only at c1 c2 c3 c4 c5 c6 c7
      obtain ⟨σ1, c, a1, a2, a3, a4, a5, a6⟩ := hr σ c3
      have L1 := c1.fr a6 (by decide)
      have ro1 : rR σ1 153 = now := (rR_congr (a6.r (by simp [pl, rdL, rfL]))).trans c2
      obtain ⟨σ2, b1, b4⟩ := floating_r (N := N) (by omega) (Or.inl rfl : (153 : Nat) = 153 ∨ (153 : Nat) = 154) L1 (show h36 < 2147483648 by omega) (by rw [ro1]; exact e36) (by rw [ro1]; exact k1.1)
      rw [ro1] at b1
      have L2 := L1.fr b4 (by decide)
      obtain ⟨cl, cl1, cl2⟩ : ∃ cl, gi σ2 149 19 = nI cl ∧ cl ≤ 40 := by
        rcases L2.2.2.2.2.2.2.2.1 with ⟨z1, z2, z3⟩ | ⟨z1, z2, z3⟩
        · exact ⟨_, z1, L2.2.2.2.2.2.2.2.2.2.2⟩
        · exact ⟨0, z1, by omega⟩
      obtain ⟨σ3, d1, d2, d3⟩ := law_l42 (N := N) (by omega) cl1 cl2 (fun v2 v3 σ => X9_law_j71 N v2 v3 σ) (popI (floatS L now)) (gi σ2 149 19)
      have f3 : Fr (rdL ++ rfL ++ [159, 160, 176]) σ σ3 := ((a6.mono (by decide)).trans (b4.mono (by decide))).trans (d3.mono (by decide))
      obtain ⟨σ4, g1, g2, g3, g4⟩ := lays_r (N := N) (by omega) (Or.inl rfl : (158 : Nat) = 158 ∨ (158 : Nat) = 176) a3 σ3
      have f4 : Fr (rdL ++ rfL ++ [159, 160, 176, 3019, 157]) σ σ4 := (f3.mono (by decide)).trans (g4.mono (by decide))
      have L4 : LR σ4 (setL L ts len) := by
        refine c1.lay f4 (by decide) ?_ hg
        have e158 : ∀ i, gi σ3 158 i = gi σ1 158 i := fun i => (d3.g (k := 158) (by simp [pl])).trans (b4.g (k := 158) (by simp [pl]))
        rcases a4 with ⟨z1, z2, z3⟩ | ⟨z1, z2, z3⟩
        · subst z1; exact Or.inl ⟨g2, z2, fun i hi => ((g3 i hi).trans (e158 i)).trans (z3 i hi)⟩
        · subst z1; exact Or.inr ⟨g2, z2, z3⟩
      have ro4 : rR σ4 153 = now := (rR_congr (f4.r (by simp [pl, rdL, rfL]))).trans c2
      obtain ⟨σ5, h1, h2⟩ := floating_r (N := N) (by omega) (Or.inl rfl : (153 : Nat) = 153 ∨ (153 : Nat) = 154) L4 (show h36 < 2147483648 by omega) (by rw [ro4]; exact e36) (by rw [ro4]; exact k1.1)
      rw [ro4] at h1
      obtain ⟨σ6, i1, i2, i3⟩ := enters_r N (told0_r σ5) (by decide) (popI (floatS (setL L ts len) now)).toInt64
      obtain ⟨σ7, j1, j2, j3⟩ := enters_r N i2 (by simp) (popI (floatS L now)).toInt64
      have f57 : Fr [3001, 150] σ5 σ7 := ((told0_f σ5).trans i3).trans j3
      have f47 : Fr [159, 160, 3001, 150] σ4 σ7 := (h2.mono (by decide)).trans (f57.mono (by decide))
      obtain ⟨σ8, m1, m2, m3⟩ := law_l117 (N := N) (by omega) (L4.fr f47 (by decide)) ((rR_congr (f47.r (by simp [pl]))).trans ro4) (show h36 < 2147483648 by omega) e36 j2 (fun v2 v3 v4 σ => X9_law_j147 N v2 v3 v4 σ) (popI (floatS L now)) (gi σ2 149 19) (popI (floatS (setL L ts len) now))
      obtain ⟨σ9, n1, n2, n3, n4⟩ := lays_r (N := N) (by omega) (Or.inr rfl : (176 : Nat) = 158 ∨ (176 : Nat) = 176) cl2 σ8
      have f48 : Fr [159, 160, 3001, 150] σ4 σ8 := f47.trans m3
      have f : Fr (rdL ++ rfL ++ [159, 160, 176, 3019, 157, 3001, 150]) σ σ9 := ((f4.mono (by decide)).trans (f48.mono (by decide))).trans (n4.mono (by decide))
      have e176 : ∀ i, i < cl → gi σ8 176 i = gi σ2 157 i := fun i hi => by rw [f48.g (k := 176) (by simp [pl]), g4.g (k := 176) (by simp [pl]), d2 i hi]
      refine ⟨σ9, ?_, ⟨?_, (rR_congr (f.r (by simp [pl, rdL, rfL]))).trans c2, ?_, m2.fr n4 (by decide), c5.fr f (by decide), c6.fr f (by decide), c7.fr f (by decide)⟩, fun B hB => hB.fr f (by decide +kernel)⟩
      · unfold X9_law
        simp only [bnS]
        rw [a1, Option.bind_some, if_pos (show (0 : Int32) ≤ 0 by decide), b1, Option.bind_some, bitCount_eq, Option.bind_some, d1, X9_law_j71, ((d3.g (k := 149) (j := 20) (by decide)).trans (b4.g (k := 149) (j := 20) (by decide))).trans a2, g1, Option.bind_some, h1, Option.bind_some, bitCount_eq, Option.bind_some]
        simp only [bnS]
        rw [i1, Option.bind_some, j1, Option.bind_some, m1, X9_law_j147, cl1, n1]
        rfl
      · have hLr := L2.2.2.2.2.2.2.2
        have := c1.lay f (by decide) (ts := L.2.2.2.2.1) (len := L.2.2.2.2.2) (by
          rcases hLr.1 with ⟨z1, z2, z3⟩ | ⟨z1, z2, z3⟩
          · have ec : cl = L.2.2.2.2.2 := (nI_eq (by omega) (by have := hLr.2.2.2; omega)).mp (cl1.symm.trans z1)
            subst ec
            exact Or.inl ⟨n2, z2, fun i hi => ((n3 i hi).trans (e176 i hi)).trans (z3 i hi)⟩
          · have ec : cl = 0 := (nI_eq (b := 0) (by omega) (by omega)).mp (cl1.symm.trans z1)
            subst ec
            exact Or.inr ⟨n2, z2, z3⟩) hLr.2
        exact this
      · have f19 : Fr [159, 160, 176, 3019, 157, 3001, 150] σ1 σ9 := ((((b4.mono (by decide)).trans (d3.mono (by decide))).trans (g4.mono (by decide))).trans (f48.mono (by decide))).trans (n4.mono (by decide))
        exact a5.fr f19 (by decide)
    · rw [List.length_append, listS_len]; simp only [List.length_cons, List.length_nil]; omega
  · refine rule_bad hA0 hF (-10000 - nI q) (fun σ σ' e => ?_) (fun σ σ' e => ?_)
    · unfold X8_law
      rw [e, Option.bind_some, if_neg (nIm1 (by have := hF.1; omega))]
    · unfold X9_law
      simp only [bnS]
      have hq : ¬ (0 : Int32) ≤ -1 - nI q ∧ (-1 - nI q + 1) - 10000 = (-10000 : Int32) - nI q := (by decide : ∀ q, q < 41 → ¬ (0 : Int32) ≤ -1 - nI q ∧ (-1 - nI q + 1) - 10000 = (-10000 : Int32) - nI q) q (by have := hF.1; omega)
      rw [e, Option.bind_some, if_neg hq.1, hq.2]
