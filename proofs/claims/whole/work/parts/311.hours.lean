/-! ===== rows stay well formed; hours ===== -/
section HW
variable {L : Ld} {r : Nat → Int32}
theorem hourS_o {j : Nat} (h : j ≠ 36) : hourS L r j = hS L r L.1 L.1 j := pk_un h
theorem hourS_l (h8 : L.1 ≤ 8) {k : Nat} (hk : k < 8) (i : Nat) : hb (hourS L r (24 + k)) i = (decide (i < 8) && hb (r (24 + k)) i && !diesS L r k && !diesS L r i) := by
  have dl : ∀ k, (decide (k < L.1) && diesS L r k) = diesS L r k := by
    intro k
    cases hx : diesS L r k
    · simp
    · simp [(dies_lt h8 hx).1]
  rw [hourS_o (by omega), hS_l hk, hb_8, dl, dl]
  cases decide (i < 8) <;> simp
theorem hourS_g (h8 : L.1 ≤ 8) (k : Nat) : hb (hourS L r 32) k = (hb (r 32) k || diesS L r k) := by
  rw [hourS_o (by omega), hS_gone h8]
  cases hx : diesS L r k
  · simp
  · simp [(dies_lt h8 hx).1]
theorem hourS_wf {S H : Nat} (hS9 : S ≤ 10) (hW : WF L.1 S H r) : WF L.1 S (H + 1) (hourS L r) := by
  obtain ⟨w1, w2, w3, w4, w5, w6, w7, h, hh, e36⟩ := hW
  have h8 := w1.2.2.2.2
  refine ⟨⟨fun i hi j hj => ?_, fun i j hi hj => ?_, fun i hi hg => ?_, fun i hi => ?_, h8⟩, fun i hi => ?_, fun i hi => ?_, fun i hi hg => ?_, fun i hi hi8 => ?_, fun i hi => ?_, ?_, h + 1, by omega, ?_⟩
  · rw [hourS_l h8 hi, w1.1 i hi j hj]; simp
  · rw [hourS_l h8 hi, hourS_l h8 hj, w1.2.1 i j hi hj]
    simp only [hi, hj, decide_true, Bool.true_and, Bool.and_assoc]
    congr 1
    exact Bool.and_comm _ _
  · rw [hourS_g h8, Bool.or_eq_true] at hg
    apply hb_ext
    intro j _
    rw [hourS_l h8 hi, hb_0]
    rcases hg with hg | hg
    · rw [w1.2.2.1 i hi hg, hb_0]; simp
    · rw [hg]; simp
  · rw [hourS_g h8, w1.2.2.2.1 i hi]
    cases hx : diesS L r i
    · rfl
    · have := (dies_lt h8 hx).1; omega
  · rw [hourS_o (by omega), hS_h hi]
    obtain ⟨t, ht, et⟩ := w2 i hi
    by_cases q : (decide (i < L.1) && !hb (r 32) i && !diesS L r i) = true
    · rw [if_pos q]
      unfold hupS
      by_cases hf : hb (floatS L r) i = true
      · rw [if_pos hf, et, nI1]
        have ht9 : t ≠ 9 := by
          intro z
          subst z
          simp only [Bool.and_eq_true, Bool.not_eq_true', decide_eq_true_eq] at q
          have : diesS L r i = true := by unfold diesS; rw [hf, et]; rfl
          rw [this] at q; exact absurd q.2 (by simp)
        exact ⟨t + 1, by omega, if_pos (show (0 : Int32) < nI (t + 1) from nI_lt (a := 0) (by omega) (by omega))⟩
      · rw [if_neg hf, et]
        cases t with
        | zero => exact ⟨0, by omega, by decide⟩
        | succ t =>
          rw [pk_m1]
          cases t with
          | zero => exact ⟨0, by omega, by decide⟩
          | succ t => exact ⟨t + 1, by omega, if_pos (show (0 : Int32) < nI (t + 1) from nI_lt (a := 0) (by omega) (by omega))⟩
    · rw [if_neg q]; exact ⟨t, ht, et⟩
  · rw [hourS_o (by omega), hourS_o (by omega), hS_s hi, hS_d hi]
    obtain ⟨⟨t, ht, et⟩, d, hd, ed⟩ := w3 i hi
    constructor
    · by_cases q : (decide (i < L.1) && diesS L r i) = true
      · rw [if_pos q]; exact ⟨0, by omega, rfl⟩
      · rw [if_neg q]; exact ⟨t, ht, et⟩
    · by_cases q : (decide (i < L.1) && !hb (r 32) i && !diesS L r i) = true
      · rw [if_pos q, ed, et, nI_add]
        unfold mn999
        by_cases q2 : (999 : Int32) < nI (d + t)
        · rw [if_pos q2]; exact ⟨999, by omega, rfl⟩
        · rw [if_neg q2]
          refine ⟨d + t, ?_, rfl⟩
          rcases Nat.lt_or_ge 999 (d + t) with z | z
          · exact absurd (show (999 : Int32) < nI (d + t) from nI_lt (a := 999) z (by omega)) q2
          · exact z
      · rw [if_neg q]; exact ⟨d, hd, ed⟩
  · rw [hourS_g h8, Bool.or_eq_true] at hg
    rw [hourS_o (by omega), hourS_o (by omega), hS_s hi, hS_h hi]
    rcases hg with hg | hg
    · rw [dies_gone h8 hg, hg]
      simpa using w4 i hi hg
    · have := dies_lt h8 hg
      rw [hg]
      simp [this.1, this.2.2]
  · rw [hourS_o (by omega), hourS_o (by omega), hourS_o (by omega), hS_s hi8, hS_h hi8, hS_d hi8]
    have := w5 i hi hi8
    simp [show ¬ i < L.1 by omega, this]
  · rw [hourS_l h8 hi, w6 i hi]; simp
  · rw [hourS_o (by omega), hS_o (by omega) (by omega) (by omega)]; exact w7
  · show upd _ 36 (r 36 + 1) 36 = _
    rw [pk_us, e36, nI1]
end HW
def hrS (L : Ld) (r : Nat → Int32) : Nat → Nat → Int32
  | 0 => r
  | q + 1 => hourS L (hrS L r q)
def lsS (L : Ld) (r : Nat → Int32) : Nat → Int32
  | 0 => 0
  | q + 1 => lsS L r q + sumB (diesS L (hrS L r q)) (hrS L r q) L.1
def gcS (L : Ld) (r : Nat → Int32) : Nat → Nat
  | 0 => 0
  | q + 1 => gcS L r q + cntB (diesS L (hrS L r q)) L.1
theorem hrS_wf {L : Ld} {r : Nat → Int32} {S H : Nat} (hS9 : S ≤ 10) (hW : WF L.1 S H r) (q : Nat) : WF L.1 S (H + q) (hrS L r q) := by
  induction q with
  | zero => exact hW
  | succ q ih => exact hourS_wf hS9 ih
theorem cntB_or {f g : Nat → Bool} (n : Nat) (h : ∀ i, i < n → g i = true → f i = false) : cntB (fun i => f i || g i) n = cntB f n + cntB g n := by
  induction n with
  | zero => rfl
  | succ n ih =>
    unfold cntB
    rw [ih (fun i hi => h i (by omega))]
    have := h n (by omega)
    cases hf : f n <;> cases hg : g n <;> simp_all <;> omega
theorem cntB_cut {f : Nat → Bool} {n : Nat} (m : Nat) (h : ∀ i, n ≤ i → f i = false) : cntB f (n + m) = cntB f n := by
  induction m with
  | zero => rfl
  | succ m ih =>
    show cntB f (n + m) + (if f (n + m) then 1 else 0) = _
    rw [ih, h (n + m) (by omega)]; rfl
theorem gone_count {L : Ld} {r : Nat → Int32} {S H : Nat} (hW : WF L.1 S H r) (q : Nat) : cntB (hb (hrS L r q 32)) 8 = cntB (hb (r 32)) 8 + gcS L r q := by
  have h8 := hW.1.2.2.2.2
  induction q with
  | zero => rfl
  | succ q ih =>
    show cntB (hb (hourS L (hrS L r q) 32)) 8 = _ + (gcS L r q + _)
    rw [cntB_congr 8 (fun i _ => hourS_g h8 i), cntB_or 8 (fun i _ hd => (dies_lt h8 hd).2.1), ih]
    have : cntB (fun i => diesS L (hrS L r q) i) 8 = cntB (diesS L (hrS L r q)) L.1 := by
      have := cntB_cut (f := diesS L (hrS L r q)) (n := L.1) (8 - L.1) (fun i hi => by
        cases hx : diesS L (hrS L r q) i
        · rfl
        · have := (dies_lt h8 hx).1; omega)
      rwa [show L.1 + (8 - L.1) = 8 by omega] at this
    omega
def PH : List Nat := [15, 18, 9, 13, 16, 2006]
theorem Fr.row19 {l : List Nat} {σ σ' : Sg} (h : Fr l σ σ') (hl : ∀ x ∈ [19, 20, 21, 22, 23], x ∉ l) : rC σ' 19 = rC σ 19 := rC_congr (h.r (fun _ => hl 19 (by decide))) (h.r (fun _ => hl 20 (by decide))) (h.r (fun _ => hl 21 (by decide))) (h.r (fun _ => hl 22 (by decide))) (h.r (fun _ => hl 23 (by decide)))
theorem Fr.row24 {l : List Nat} {σ σ' : Sg} (h : Fr l σ σ') (hl : ∀ x ∈ [24, 25, 26, 27, 28], x ∉ l) : rC σ' 24 = rC σ 24 := rC_congr (h.r (fun _ => hl 24 (by decide))) (h.r (fun _ => hl 25 (by decide))) (h.r (fun _ => hl 26 (by decide))) (h.r (fun _ => hl 27 (by decide))) (h.r (fun _ => hl 28 (by decide)))
theorem Fr.row1924 {l : List Nat} {σ σ' : Sg} (h : Fr l σ σ') {k1 : Nat} (hk : k1 = 19 ∨ k1 = 24) (hl : ∀ x ∈ [19, 20, 21, 22, 23, 24, 25, 26, 27, 28], x ∉ l) : rC σ' k1 = rC σ k1 := by
  rcases hk with rfl | rfl
  · exact h.row19 (fun x hx => hl x (by simp at hx ⊢; omega))
  · exact h.row24 (fun x hx => hl x (by simp at hx ⊢; omega))
def HK (k1 : Nat) : List Nat := [15, 18, 9, 13, 16, 2006, k1, k1 + 1, k1 + 2, k1 + 3, k1 + 4]
theorem oneHour_c {N : Nat} (hN : 40 < N) {k1 k2 : Nat} (hk : k1 = 19 ∨ k1 = 24) {σ : Sg} {L : Ld} (hL : LC σ k2 L) {S H : Nat} (hH : H < 2147483648) (hW : WF L.1 S H (rC σ k1)) :
    ∃ σ1 σ', X0_floating N k1 k2 σ = some (floatS L (rC σ k1), σ1) ∧ X0_passHour N k1 (floatS L (rC σ k1)) σ1 = some (sumB (diesS L (rC σ k1)) (rC σ k1) L.1, σ') ∧ rC σ' k1 = hourS L (rC σ k1) ∧ Fr (HK k1) σ σ' ∧ LC σ' k2 L := by
  obtain ⟨h, hh, e36⟩ := hW.2.2.2.2.2.2.2
  obtain ⟨σ1, e1, n1, p1, f1⟩ := floating_c hN hk hL (show h < 2147483648 by omega) e36 hW.1
  have r1 := f1.row1924 hk (by decide)
  obtain ⟨σ2, e2, r2, f2⟩ := passHour_b (N := N) (by omega) hk (σ := σ1) (L := L) ((f1.g (by simp [pl])).trans hL.1) (S := S) (H := H) (by rw [r1]; exact hW)
  rw [r1] at e2 r2
  have f3 : Fr (HK k1) σ σ2 := (f1.mono (by intro x hx; unfold HK; simp at hx ⊢; omega)).trans (f2.mono (by intro x hx; unfold HK; simp at hx ⊢; omega))
  exact ⟨σ1, σ2, e1, e2, r2, f3, hL.fr f3 (by rcases hk with rfl | rfl <;> decide)⟩
theorem passHours_c {N : Nat} (hN : 100 < N) {k1 k2 : Nat} (hk : k1 = 19 ∨ k1 = 24) {σ : Sg} {L : Ld} (hL : LC σ k2 L) (e2 : gi σ 5 2 = nI k2) {S H : Nat} (hS9 : S ≤ 10) (hW : WF L.1 S H (rC σ k1)) {q : Nat} (hq : q ≤ 99) (hH : H + q < 2147483648) :
    ∃ σ', X0_passHours N k1 (nI q) σ = some (lsS L (rC σ k1) q, σ') ∧ rC σ' k1 = hrS L (rC σ k1) q ∧ Fr (HK k1) σ σ' := by
  have hk2 := hL.2.2.2.2.2.2.2.2.2
  unfold X0_passHours
  refine forL0 (L := fun m i (a : Int32 × Sg) => X0_passHours_l5 N k1 m (nI q) a.1 (nI i) a.2) (m := q) (a := (0, σ))
    (fun i a => a.1 = lsS L (rC σ k1) i ∧ rC a.2 k1 = hrS L (rC σ k1) i ∧ Fr (HK k1) σ a.2)
    (o := fun x => ∃ σ', x = some (lsS L (rC σ k1) q, σ') ∧ rC σ' k1 = hrS L (rC σ k1) q ∧ Fr (HK k1) σ σ') (by omega) ⟨rfl, rfl, Fr.refl _ _⟩ ?_ ?_
  · intro m i a hi hI
    obtain ⟨v, τ⟩ := a
    obtain ⟨i1, i2, i3⟩ := hI
    dsimp only at i1 i2 i3 ⊢
    left
    have hLt := hL.fr i3 (by rcases hk with rfl | rfl <;> decide)
    have e2' : gi τ 5 2 = nI k2 := (i3.g (by rcases hk with rfl | rfl <;> decide)).trans e2
    obtain ⟨σ1, σ2, q1, q2, q3, q4, _⟩ := oneHour_c (N := N) (by omega) hk hLt (S := S) (H := H + i) (by omega) (by rw [i2]; exact hrS_wf hS9 hW i)
    rw [i2] at q1 q2 q3
    refine ⟨(v + sumB (diesS L (hrS L (rC σ k1) i)) (hrS L (rC σ k1) i) L.1, σ2), ⟨by dsimp only; rw [i1]; rfl, q3, i3.trans q4⟩, ?_⟩
    have eR : isRule k2 = true := by rcases hk2 with rfl | rfl <;> decide
    rw [X0_passHours_l5, if_neg (n_le hi (by omega)), e2', clI (by omega), eR, if_pos rfl, q1, Option.bind_some, q2, Option.bind_some, nI1]
  · intro m a hI
    obtain ⟨v, τ⟩ := a
    obtain ⟨i1, i2, i3⟩ := hI
    dsimp only at i1 i2 i3 ⊢
    refine ⟨τ, ?_, i2, i3⟩
    rw [X0_passHours_l5, if_pos (nI_le (Nat.le_refl _) (by omega)), i1]
def HR' (k1 : Nat) : List Nat := [159, 160, k1, 3025, 3026]
theorem goesOn_r {N : Nat} (hN : 100 < N) {k1 : Nat} (hk : k1 = 153 ∨ k1 = 154) {σ : Sg} {L : Ld} (hL : LR σ L) {S H : Nat} (hS9 : S ≤ 10) (hW : WF L.1 S H (rR σ k1)) {q : Nat} (hq : q ≤ 99) (hH : H + q < 2147483648) :
    ∃ σ', X9_goesOn N k1 (nI q) σ = some σ' ∧ rR σ' k1 = hrS L (rR σ k1) q ∧ gi σ' 149 25 = nI (gcS L (rR σ k1) q) ∧ gi σ' 149 26 = lsS L (rR σ k1) q ∧ Fr (HR' k1) σ σ' := by
  have pk : ∀ j, pl k1 j ∈ HR' k1 := by intro j; rcases hk with rfl | rfl <;> simp [pl, HR']
  have ne : k1 ≠ 149 := by omega
  have f0 : Fr (HR' k1) σ (wi (wi σ 149 25 0) 149 26 0) := ((Fr.refl _ _).wi (by simp [pl, HR'])).wi (by simp [pl, HR'])
  have r0 : rR (wi (wi σ 149 25 0) 149 26 0) k1 = rR σ k1 := rR_congr ((gi_wi_ne ne).trans (gi_wi_ne ne))
  unfold X9_goesOn
  simp only [bnS]
  refine forL0 (L := fun m i a => X9_goesOn_l12 N k1 m (nI q) (nI i) a) (m := q) (a := wi (wi σ 149 25 0) 149 26 0)
    (fun i a => rR a k1 = hrS L (rR σ k1) i ∧ gi a 149 25 = nI (gcS L (rR σ k1) i) ∧ gi a 149 26 = lsS L (rR σ k1) i ∧ Fr (HR' k1) σ a)
    (o := fun x => ∃ σ', x = some σ' ∧ rR σ' k1 = hrS L (rR σ k1) q ∧ gi σ' 149 25 = nI (gcS L (rR σ k1) q) ∧ gi σ' 149 26 = lsS L (rR σ k1) q ∧ Fr (HR' k1) σ σ') (by omega) ⟨r0, ?_, ?_, f0⟩ ?_ ?_
  · rw [giw, if_neg (by omega), giw, if_pos ⟨rfl, rfl⟩]; rfl
  · rw [giw, if_pos ⟨rfl, rfl⟩]; rfl
  · intro m i a hi hI
    obtain ⟨i1, i2, i3, i4⟩ := hI
    left
    have hLt := hL.fr i4 (by rcases hk with rfl | rfl <;> decide)
    obtain ⟨σ2, q1, q2, q3, q4, q5⟩ := hourGoes_b (N := N) (by omega) hk hLt (S := S) (H := H + i) (by omega) (by rw [i1]; exact hrS_wf hS9 hW i)
    rw [i1] at q2 q3 q4
    refine ⟨σ2, ⟨q2, ?_, ?_, i4.trans q5⟩, ?_⟩
    · rw [q3, i2, nI_add]; rfl
    · rw [q4, i3]; rfl
    · rw [X9_goesOn_l12, if_neg (n_le hi (by omega)), q1, Option.bind_some, nI1]
  · intro m a hI
    obtain ⟨i1, i2, i3, i4⟩ := hI
    refine ⟨a, ?_, i1, i2, i3, i4⟩
    rw [X9_goesOn_l12, if_pos (nI_le (Nat.le_refl _) (by omega))]
