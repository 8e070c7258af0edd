/-! ===== told rows, states copied, states put by ===== -/
theorem getD_app {α : Type} (l : List α) (v d : α) (i : Nat) (h : i < l.length + 1) : (l ++ [v]).getD i d = if i = l.length then v else l.getD i d := by
  rw [List.getD_eq_getElem?_getD, List.getD_eq_getElem?_getD]
  by_cases hi : i = l.length
  · subst hi; simp
  · rw [if_neg hi, List.getElem?_append_left (by omega)]
theorem tclear_c (N : Nat) (σ : Sg) : ∃ σ', X2_clear N σ = some σ' ∧ ToC σ' [] ∧ Fr [3, 4] σ σ' := by
  refine ⟨wi σ 3 1 0, rfl, ⟨?_, fun i hi => absurd hi (Nat.not_lt_zero _)⟩, (Fr.refl _ _).wi (by simp [pl])⟩
  rw [giw, if_pos ⟨rfl, rfl⟩]; rfl
theorem tadd_c (N : Nat) {σ : Sg} {l : List Int64} (h : ToC σ l) (hl : l.length < 10) (v : Int64) : ∃ σ', X2_add N v σ = some σ' ∧ ToC σ' (l ++ [v]) ∧ Fr [3, 4] σ σ' := by
  refine ⟨wi (wl σ 4 l.length v) 3 1 (nI l.length + 1), ?_, ⟨?_, fun i hi => ?_⟩, ((Fr.refl _ _).wl (by simp [pl])).wi (by simp [pl])⟩
  · unfold X2_add
    rw [h.1, if_neg (show ¬ (10 : Int32) ≤ nI l.length from nI_ge (b := 10) hl (by decide)), inbI hl (by omega), clI (by omega)]
    simp only [if_true, bnS]
    rw [giwl, h.1]
  · rw [giw, if_pos ⟨rfl, rfl⟩, nI1]; simp
  · have hi : i < l.length + 1 := by simpa using hi
    rw [glwi, glw, getD_app l v 0 i hi]
    by_cases q : i = l.length
    · rw [if_pos ⟨rfl, q⟩, if_pos q]
    · rw [if_neg (fun z => q z.2), if_neg q]
      exact h.2 i (by omega)
theorem tell1_c (N : Nat) (v : Int64) (σ : Sg) : ∃ σ', X2_tell N v σ = some σ' ∧ ToC σ' [v] ∧ Fr [3, 4] σ σ' := by
  obtain ⟨σ1, a1, a2, a3⟩ := tclear_c N σ
  obtain ⟨σ2, b1, b2, b3⟩ := tadd_c N a2 (by decide) v
  refine ⟨σ2, ?_, b2, a3.trans b3⟩
  unfold X2_tell
  rw [a1, Option.bind_some, b1]; rfl
theorem tell2_c (N : Nat) (v w : Int64) (σ : Sg) : ∃ σ', X2_tell_ N v w σ = some σ' ∧ ToC σ' [v, w] ∧ Fr [3, 4] σ σ' := by
  obtain ⟨σ1, a1, a2, a3⟩ := tclear_c N σ
  obtain ⟨σ2, b1, b2, b3⟩ := tadd_c N a2 (by decide) v
  obtain ⟨σ3, c1, c2, c3⟩ := tadd_c N b2 (by simp) w
  refine ⟨σ3, ?_, c2, (a3.trans b3).trans c3⟩
  unfold X2_tell_
  rw [a1, Option.bind_some, b1, Option.bind_some, c1]; rfl
theorem enters_r (N : Nat) {σ : Sg} {l : List Int64} (h : ToR σ l) (hl : l.length < 24) (v : Int64) : ∃ σ', X9_enters N v σ = some σ' ∧ ToR σ' (l ++ [v]) ∧ Fr [3001, 150] σ σ' := by
  refine ⟨wi (wl σ 150 l.length v) 149 1 (nI l.length + 1), ?_, ⟨?_, fun i hi => ?_⟩, ((Fr.refl _ _).wl (by simp [pl])).wi (by simp [pl])⟩
  · unfold X9_enters
    rw [h.1, inbI hl (by omega), clI (by omega)]
    simp only [if_true, bnS]
    rw [giwl, h.1]
  · rw [giw, if_pos ⟨rfl, rfl⟩, nI1]; simp
  · have hi : i < l.length + 1 := by simpa using hi
    rw [glwi, glw, getD_app l v 0 i hi]
    by_cases q : i = l.length
    · rw [if_pos ⟨rfl, q⟩, if_pos q]
    · rw [if_neg (fun z => q z.2), if_neg q]
      exact h.2 i (by omega)
theorem told0_r (σ : Sg) : ToR (wi σ 149 1 0) [] := ⟨by rw [giw, if_pos ⟨rfl, rfl⟩]; rfl, fun i hi => absurd hi (Nat.not_lt_zero _)⟩
theorem told0_f (σ : Sg) : Fr [3001, 150] σ (wi σ 149 1 0) := (Fr.refl _ _).wi (by simp [pl])
theorem c37 {i : Nat} (h : i < 37) : ¬ (37 : Int32) ≤ nI i := nI_ge (b := 37) h (by decide)
theorem c37' : (37 : Int32) ≤ nI 37 := by decide
def S5 (k : Nat) : List Nat := [k, k + 1, k + 2, k + 3, k + 4]
theorem S5_pl {k0 : Nat} (hk : 19 ≤ k0 ∧ k0 < 124) {k : Nat} (h1 : k0 ≤ k) (h2 : k < k0 + 5) (hb128 : k ≠ 128) (j : Nat) : pl k j ∈ S5 k0 := by
  have : pl k j = k := by unfold pl; rw [if_neg (by omega), if_neg (by omega), if_neg (by omega)]
  rw [this]; unfold S5; simp; omega
theorem become_c {N : Nat} (hN : 8 < N) {k0 k1 : Nat} (h0 : 19 ≤ k0 ∧ k0 < 124) (h1 : k0 + 5 ≤ k1 ∨ k1 + 5 ≤ k0) (σ : Sg) : ∃ σ', X5_become N k0 k1 σ = some σ' ∧ rC σ' k0 = rC σ k1 ∧ Fr (S5 k0) σ σ' := by
  have pp : ∀ k, k0 ≤ k → k < k0 + 5 → ∀ j, pl k j ∈ S5 k0 := fun k a b j => S5_pl h0 a b (by omega) j
  have hk : ∀ a, Fr (S5 k0) σ a → ∀ k, (k < k0 ∨ k0 + 5 ≤ k) → k1 ≤ k → k < k1 + 5 → ∀ j, gi a k j = gi σ k j := by
    intro a f k q1 q2 q3 j
    by_cases hp : pl k j = k
    · exact f.g (by rw [hp]; unfold S5; simp; omega)
    · apply f.g
      have : pl k j = 2000 + j ∨ pl k j = 3000 + j ∨ pl k j = 4000 + j := by
        unfold pl at hp ⊢
        by_cases z1 : k = 5
        · rw [if_pos z1]; exact Or.inl rfl
        · rw [if_neg z1] at hp ⊢
          by_cases z2 : k = 149
          · rw [if_pos z2]; exact Or.inr (Or.inl rfl)
          · rw [if_neg z2] at hp ⊢
            by_cases z3 : k = 128
            · rw [if_pos z3]; exact Or.inr (Or.inr rfl)
            · rw [if_neg z3] at hp; exact absurd rfl hp
      unfold S5; simp; omega
  unfold X5_become
  refine forL0 (L := fun m i a => X5_become_l2 N k0 k1 (fun σ => X5_become_j62 N k0 k1 σ) m (nI i) a) (m := 8) (a := σ)
    (fun i a => Fr (S5 k0) σ a ∧ ∀ j, j < i → gi a (k0 + 1) j = gi σ (k1 + 1) j ∧ gi a (k0 + 2) j = gi σ (k1 + 2) j ∧ gi a (k0 + 3) j = gi σ (k1 + 3) j ∧ gi a (k0 + 4) j = gi σ (k1 + 4) j)
    (o := fun x => ∃ σ', x = some σ' ∧ rC σ' k0 = rC σ k1 ∧ Fr (S5 k0) σ σ') hN ⟨Fr.refl _ _, fun j hj => absurd hj (Nat.not_lt_zero _)⟩ ?_ ?_
  · intro m i a hi hI
    obtain ⟨f, g⟩ := hI
    left
    refine ⟨wi (wi (wi (wi a (k0 + 1) i (gi σ (k1 + 1) i)) (k0 + 2) i (gi σ (k1 + 2) i)) (k0 + 3) i (gi σ (k1 + 3) i)) (k0 + 4) i (gi σ (k1 + 4) i), ⟨(((f.wi (pp _ (by omega) (by omega) _)).wi (pp _ (by omega) (by omega) _)).wi (pp _ (by omega) (by omega) _)).wi (pp _ (by omega) (by omega) _), fun j hj => ?_⟩, ?_⟩
    · simp only [giw]
      by_cases q : j = i
      · subst q; simp
      · have := g j (by omega)
        simp [q]
        exact this
    · rw [X5_become_l2, if_neg (c8 hi), inbI hi (by omega), clI (by omega)]
      simp only [if_true, bnS]
      rw [hk a f (k1 + 1) (by omega) (by omega) (by omega), giw, if_neg (by omega), hk a f (k1 + 2) (by omega) (by omega) (by omega), giw, if_neg (by omega), giw, if_neg (by omega), hk a f (k1 + 3) (by omega) (by omega) (by omega), giw, if_neg (by omega), giw, if_neg (by omega), giw, if_neg (by omega), hk a f (k1 + 4) (by omega) (by omega) (by omega), nI1]
  · intro m a hI
    obtain ⟨f, g⟩ := hI
    have k1f : ∀ j, gi a k1 j = gi σ k1 j := hk a f k1 (by omega) (by omega) (by omega)
    have ne : k1 ≠ k0 := by omega
    refine ⟨wi (wi (wi (wi (wi a k0 4 (gi σ k1 4)) k0 5 (gi σ k1 5)) k0 6 (gi σ k1 6)) k0 7 (gi σ k1 7)) k0 8 (gi σ k1 8), ?_, ?_, ((((f.wi (pp _ (by omega) (by omega) _)).wi (pp _ (by omega) (by omega) _)).wi (pp _ (by omega) (by omega) _)).wi (pp _ (by omega) (by omega) _)).wi (pp _ (by omega) (by omega) _)⟩
    · rw [X5_become_l2, if_pos c8', X5_become_j62]
      simp only [bnS]
      rw [k1f, giw, if_neg (by omega), k1f, giw, if_neg (by omega), giw, if_neg (by omega), k1f, giw, if_neg (by omega), giw, if_neg (by omega), giw, if_neg (by omega), k1f, giw, if_neg (by omega), giw, if_neg (by omega), giw, if_neg (by omega), giw, if_neg (by omega), k1f]
    · rw [rC_wf (by omega) (by omega), rC_wf (by omega) (by omega), rC_wf (by omega) (by omega), rC_wf (by omega) (by omega), rC_wf (by omega) (by omega)]
      apply row_ext
      · intro j hj
        rw [pk_un (by omega), pk_un (by omega), pk_un (by omega), pk_un (by omega), pk_un (by omega), rC_s hj, rC_s hj]; exact (g j hj).1
      · intro j hj
        rw [pk_un (by omega), pk_un (by omega), pk_un (by omega), pk_un (by omega), pk_un (by omega), rC_h hj, rC_h hj]; exact (g j hj).2.1
      · intro j hj
        rw [pk_un (by omega), pk_un (by omega), pk_un (by omega), pk_un (by omega), pk_un (by omega), rC_d hj, rC_d hj]; exact (g j hj).2.2.1
      · intro j hj
        rw [pk_un (by omega), pk_un (by omega), pk_un (by omega), pk_un (by omega), pk_un (by omega), rC_l hj, rC_l hj]; exact (g j hj).2.2.2
      · intro j hj
        by_cases q1 : j = 36
        · subst q1; rw [pk_us]; rfl
        · rw [pk_un q1]
          by_cases q2 : j = 35
          · subst q2; rw [pk_us]; rfl
          · rw [pk_un q2]
            by_cases q3 : j = 34
            · subst q3; rw [pk_us]; rfl
            · rw [pk_un q3]
              by_cases q4 : j = 33
              · subst q4; rw [pk_us]; rfl
              · rw [pk_un q4]
                by_cases q5 : j = 32
                · subst q5; rw [pk_us]; rfl
                · rw [pk_un q5]
                  unfold rC
                  rw [if_neg (by omega), if_neg (by omega), if_neg (by omega), if_neg (by omega), if_neg (by omega), if_neg (by omega), if_neg (by omega), if_neg (by omega), if_neg (by omega), if_neg (by omega)]
theorem copies_r {N : Nat} (hN : 37 < N) (σ : Sg) : ∃ σ', X9_copies N σ = some σ' ∧ rR σ' 154 = rR σ 153 ∧ Fr [154] σ σ' := by
  unfold X9_copies
  refine forL0 (L := fun m i a => X9_copies_l2 N m (nI i) a) (m := 37) (a := σ) (fun i a => Fr [154] σ a ∧ ∀ j, j < i → gi a 154 j = gi σ 153 j) (o := fun x => ∃ σ', x = some σ' ∧ rR σ' 154 = rR σ 153 ∧ Fr [154] σ σ') hN ⟨Fr.refl _ _, fun j hj => absurd hj (Nat.not_lt_zero _)⟩ ?_ ?_
  · intro m i a hi hI
    obtain ⟨f, g⟩ := hI
    left
    refine ⟨wi a 154 i (gi σ 153 i), ⟨f.wi (by simp [pl]), fun j hj => ?_⟩, ?_⟩
    · rw [giw]
      by_cases q : j = i
      · rw [if_pos ⟨rfl, q⟩, q]
      · rw [if_neg (fun z => q z.2)]; exact g j (by omega)
    · rw [X9_copies_l2, if_neg (c37 hi), inbI hi (by omega), clI (by omega), f.g (by simp [pl]), nI1]
      rfl
  · intro m a hI
    obtain ⟨f, g⟩ := hI
    refine ⟨a, ?_, ?_, f⟩
    · rw [X9_copies_l2, if_pos c37']
    · funext j
      unfold rR
      by_cases q : j < 37
      · rw [if_pos q, if_pos q]; exact g j q
      · rw [if_neg q, if_neg q]
theorem putsBy_r {N : Nat} (hN : 37 < N) {σ : Sg} {p : List (Nat → Int32)} (h : PaR σ p) (hp : p.length ≤ 15) : ∃ σ', X9_putsBy N σ = some σ' ∧ PaR σ' p ∧ rW σ' 161 p.length = rR σ 153 ∧ Fr [161] σ σ' := by
  unfold X9_putsBy
  refine forL0 (L := fun m i a => X9_putsBy_l2 N m (nI i) a) (m := 37) (a := σ) (fun i a => Fr [161] σ a ∧ (∀ j, j < i → gi a 161 (37 * p.length + j) = gi σ 153 j) ∧ ∀ x, x < 37 * p.length → gi a 161 x = gi σ 161 x) (o := fun x => ∃ σ', x = some σ' ∧ PaR σ' p ∧ rW σ' 161 p.length = rR σ 153 ∧ Fr [161] σ σ') hN ⟨Fr.refl _ _, fun j hj => absurd hj (Nat.not_lt_zero _), fun _ _ => rfl⟩ ?_ ?_
  · intro m i a hi hI
    obtain ⟨f, g, g2⟩ := hI
    left
    refine ⟨wi a 161 (37 * p.length + i) (gi σ 153 i), ⟨f.wi (by simp [pl]), fun j hj => ?_, fun x hx => ?_⟩, ?_⟩
    · rw [giw]
      by_cases q : j = i
      · rw [if_pos ⟨rfl, by omega⟩, q]
      · rw [if_neg (by omega)]; exact g j (by omega)
    · rw [giw, if_neg (by omega)]; exact g2 x hx
    · rw [X9_putsBy_l2, if_neg (c37 hi), (f.g (k := 149) (j := 23) (by decide)).trans h.1, show (37 : Int32) * nI p.length = nI (37 * p.length) from pk_mul 37 _, nI_add, inbI hi (by omega), inbI (show 37 * p.length + i < 592 by omega) (by omega), clI (by omega), clI (by omega), f.g (k := 153) (by simp [pl]), nI1]
      rfl
  · intro m a hI
    obtain ⟨f, g, g2⟩ := hI
    refine ⟨a, by rw [X9_putsBy_l2, if_pos c37'], ⟨(f.g (k := 149) (j := 23) (by decide)).trans h.1, fun i hi => ?_⟩, ?_, f⟩
    · rw [← h.2 i hi]
      funext j
      unfold rW
      by_cases q : j < 37
      · rw [if_pos q, if_pos q]
        apply g2
        have : p.length - 1 - i + 1 ≤ p.length := by omega
        have := Nat.mul_le_mul_left 37 this
        omega
      · rw [if_neg q, if_neg q]
    · funext j
      unfold rW rR
      by_cases q : j < 37
      · rw [if_pos q, if_pos q]; exact g j q
      · rw [if_neg q, if_neg q]
theorem getD_take {α : Type} (l : List α) (n i : Nat) (d : α) (h : i < n) : (l.take n).getD i d = l.getD i d := by
  rw [List.getD_eq_getElem?_getD, List.getD_eq_getElem?_getD, List.getElem?_take, if_pos h]
theorem adds_r {N : Nat} (hN : 555 < N) {σ : Sg} {p : List (Nat → Int32)} (h : PaR σ p) (hp : p.length ≤ 15) {r : Nat → Int32} (hr : rW σ 161 p.length = r) (v : Int32) : ∃ σ', X9_adds N v σ = some (v, σ') ∧ PaR σ' ((r :: p).take 15) ∧ Fr [161, 3023] σ σ' := by
  unfold X9_adds
  simp only [bnS]
  rw [h.1, nI1]
  have e23 : gi (wi σ 149 23 (nI (p.length + 1))) 149 23 = nI (p.length + 1) := by rw [giw, if_pos ⟨rfl, rfl⟩]
  have e161 : gi (wi σ 149 23 (nI (p.length + 1))) 161 = gi σ 161 := gi_wi_ne (by omega)
  have f0 : Fr [161, 3023] σ (wi σ 149 23 (nI (p.length + 1))) := (Fr.refl _ _).wi (by simp [pl])
  rw [e23]
  by_cases hlt : p.length < 15
  · rw [if_pos (show nI (p.length + 1) ≤ 15 from nI_le (b := 15) (by omega) (by decide))]
    refine ⟨_, rfl, ⟨?_, fun i hi => ?_⟩, f0⟩
    · rw [e23, List.take_of_length_le (by simp; omega)]; rfl
    · rw [rW_congr e161]
      rw [List.take_of_length_le (by simp; omega)] at hi ⊢
      cases i with
      | zero => simpa using hr
      | succ i =>
        have hi' : i < p.length := by simpa using hi
        have := h.2 i hi'
        simp only [List.length_cons, List.getD_cons_succ]
        rw [show p.length + 1 - 1 - (i + 1) = p.length - 1 - i by omega]
        exact this
  · have h15 : p.length = 15 := by omega
    rw [if_neg (show ¬ nI (p.length + 1) ≤ 15 by rw [h15]; decide)]
    refine forL0 (L := fun m i a => X9_adds_l21 N (fun v1 σ => X9_adds_j49 N v1 σ) m v (nI i) a) (m := 555) (a := wi σ 149 23 (nI (p.length + 1)))
      (fun i a => Fr [161, 3023] σ a ∧ gi a 149 23 = nI 16 ∧ (∀ x, x < i → gi a 161 x = gi σ 161 (x + 37)) ∧ ∀ x, i ≤ x → gi a 161 x = gi σ 161 x)
      (o := fun x => ∃ σ', x = some (v, σ') ∧ PaR σ' ((r :: p).take 15) ∧ Fr [161, 3023] σ σ') hN ⟨f0, by rw [e23, h15], fun x hx => absurd hx (Nat.not_lt_zero _), fun x _ => by rw [e161]⟩ ?_ ?_
    · intro m i a hi hI
      obtain ⟨f, g0, g1, g2⟩ := hI
      left
      refine ⟨wi a 161 i (gi σ 161 (i + 37)), ⟨f.wi (by simp [pl]), by rw [gi_wi_ne (by omega)]; exact g0, fun x hx => ?_, fun x hx => ?_⟩, ?_⟩
      · rw [giw]
        by_cases q : x = i
        · rw [if_pos ⟨rfl, q⟩, q]
        · rw [if_neg (fun z => q z.2)]; exact g1 x (by omega)
      · rw [giw, if_neg (by omega)]; exact g2 x (by omega)
      · rw [X9_adds_l21, if_neg (show ¬ (555 : Int32) ≤ nI i from nI_ge (b := 555) hi (by decide)), show nI i + 37 = nI (i + 37) from nI_add i 37, inbI (show i + 37 < 592 by omega) (by omega), inbI (show i < 592 by omega) (by omega), clI (show i + 37 < 2147483648 by omega), clI (show i < 2147483648 by omega), g2 (i + 37) (by omega), nI1]
        rfl
    · intro m a hI
      obtain ⟨f, g0, g1, g2⟩ := hI
      refine ⟨wi a 149 23 (nI 15), ?_, ⟨?_, fun i hi => ?_⟩, f.wi (by simp [pl])⟩
      · rw [X9_adds_l21, if_pos (by decide), X9_adds_j49, g0]; rfl
      · rw [giw, if_pos ⟨rfl, rfl⟩]; congr 1; simp; omega
      · have hl : ((r :: p).take 15).length = 15 := by simp; omega
        rw [hl] at hi ⊢
        rw [getD_take _ _ _ _ hi]
        have hs : rW (wi a 149 23 (nI 15)) 161 (15 - 1 - i) = rW σ 161 (15 - i) := by
          rw [rW_congr (gi_wi_ne (by omega))]
          funext j
          unfold rW
          by_cases q : j < 37
          · rw [if_pos q, if_pos q]
            have : 37 * (15 - i) = 37 * (15 - 1 - i) + 37 := by
              rw [show 15 - i = 15 - 1 - i + 1 by omega, Nat.mul_succ]
            have h2 : 15 - 1 - i ≤ 14 := by omega
            have := Nat.mul_le_mul_left 37 h2
            rw [g1 _ (by omega)]
            congr 1
            omega
          · rw [if_neg q, if_neg q]
        rw [hs]
        cases i with
        | zero => rw [← h15]; simpa using hr
        | succ i =>
          have := h.2 i (by omega)
          rw [List.getD_cons_succ, ← this]
          congr 1
          omega
