/-! ===== one sign of a few ===== -/
theorem chr_s0 (N : Nat) (σ : Sg) : ∀ k, k < 8 → J0_charAt_5068e_s0 N (nI k) σ = some (sB0.getD k 0, σ) := by
  intro k hk
  have : k = 0 ∨ k = 1 ∨ k = 2 ∨ k = 3 ∨ k = 4 ∨ k = 5 ∨ k = 6 ∨ k = 7 := by omega
  rcases this with z | z | z | z | z | z | z | z <;> subst z <;> rfl
theorem len_s0 (N : Nat) (σ : Sg) : J0_length_8abf5_s0 N σ = some (nI 8) := rfl
theorem takes_s0 {N : Nat} (hN : 8 < N) {σ : Sg} {t : List Nat} {m q : Nat} (h : RdR σ t m q) (hl : t.length ≤ 80) {k : Nat} (hk : k < 8) (hq : q < m) (h1 : sB0.getD k 0 = nI (t.getD q 0)) (h2 : ∀ j, j < k → ¬ sB0.getD j 0 = nI (t.getD q 0)) : X9_takesOf_s0 N σ = some (nI k, wi σ 149 12 (nI q + 1)) := by
  obtain ⟨g1, g2, g3, g4⟩ := h
  unfold X9_takesOf_s0
  have step : ∀ n j, j < 8 → X9_takesOf_s0_l2 N (fun v2 σ => X9_takesOf_s0_j38 N v2 σ) (n + 1) (nI j) σ = if sB0.getD j 0 = nI (t.getD q 0) then X9_takesOf_s0_j38 N (nI j) σ else X9_takesOf_s0_l2 N (fun v2 σ => X9_takesOf_s0_j38 N v2 σ) n (nI (j + 1)) σ := by
    intro n j hj
    rw [X9_takesOf_s0_l2, len_s0, Option.bind_some, if_neg (nI_ge hj (by omega)), g1, g2, if_neg (nI_ge hq (by omega)), chr_s0 N σ j hj, Option.bind_some, g1, inbI (show q < 80 by omega) (by omega), if_pos rfl, clI (by omega), g4 q (by omega), nI1]
  refine forL0 (L := fun m i (_ : Unit) => X9_takesOf_s0_l2 N (fun v2 σ => X9_takesOf_s0_j38 N v2 σ) m (nI i) σ) (m := k) (a := ()) (fun i _ => i ≤ k) (o := fun x => x = some (nI k, wi σ 149 12 (nI q + 1))) (by omega) (by omega) ?_ ?_
  · intro n i a hi hI
    left
    exact ⟨(), by omega, by rw [step n i (by omega), if_neg (h2 i hi)]⟩
  · intro n a _
    rw [step n k hk, if_pos h1, X9_takesOf_s0_j38, g1]
    rfl
theorem takesN_s0 {N : Nat} (hN : 8 < N) {σ : Sg} {t : List Nat} {m q : Nat} (h : RdR σ t m q) (hl : t.length ≤ 80) (hq : q < 2147483648) (h2 : q < m → ∀ j, j < 8 → ¬ sB0.getD j 0 = nI (t.getD q 0)) : X9_takesOf_s0 N σ = some (-1, σ) := by
  obtain ⟨g1, g2, g3, g4⟩ := h
  unfold X9_takesOf_s0
  by_cases z : q < m
  · have step : ∀ n j, j < 8 → X9_takesOf_s0_l2 N (fun v2 σ => X9_takesOf_s0_j38 N v2 σ) (n + 1) (nI j) σ = X9_takesOf_s0_l2 N (fun v2 σ => X9_takesOf_s0_j38 N v2 σ) n (nI (j + 1)) σ := by
      intro n j hj
      rw [X9_takesOf_s0_l2, len_s0, Option.bind_some, if_neg (nI_ge hj (by omega)), g1, g2, if_neg (nI_ge z (by omega)), chr_s0 N σ j hj, Option.bind_some, g1, inbI (show q < 80 by omega) (by omega), if_pos rfl, clI (by omega), g4 q (by omega), nI1, if_neg (h2 z j hj)]
    refine forL0 (L := fun m i (_ : Unit) => X9_takesOf_s0_l2 N (fun v2 σ => X9_takesOf_s0_j38 N v2 σ) m (nI i) σ) (m := 8) (a := ()) (fun i _ => i ≤ 8) (o := fun x => x = some (-1, σ)) (by omega) (by omega) ?_ ?_
    · intro n i a hi hI
      left
      exact ⟨(), by omega, step n i hi⟩
    · intro n a _
      rw [X9_takesOf_s0_l2, len_s0, Option.bind_some, if_pos (nI_le (Nat.le_refl _) (by omega))]
  · obtain ⟨M, rfl⟩ : ∃ k, N = k + 1 := ⟨N - 1, by omega⟩
    rw [X9_takesOf_s0_l2, len_s0, Option.bind_some, if_neg (show ¬ nI 8 ≤ 0 by decide), g1, g2, if_pos (nI_le (by omega) (by omega))]
theorem chr_s1 (N : Nat) (σ : Sg) : ∀ k, k < 3 → J0_charAt_5068e_s1 N (nI k) σ = some (sB1.getD k 0, σ) := by
  intro k hk
  have : k = 0 ∨ k = 1 ∨ k = 2 := by omega
  rcases this with z | z | z <;> subst z <;> rfl
theorem len_s1 (N : Nat) (σ : Sg) : J0_length_8abf5_s1 N σ = some (nI 3) := rfl
theorem takes_s1 {N : Nat} (hN : 3 < N) {σ : Sg} {t : List Nat} {m q : Nat} (h : RdR σ t m q) (hl : t.length ≤ 80) {k : Nat} (hk : k < 3) (hq : q < m) (h1 : sB1.getD k 0 = nI (t.getD q 0)) (h2 : ∀ j, j < k → ¬ sB1.getD j 0 = nI (t.getD q 0)) : X9_takesOf_s1 N σ = some (nI k, wi σ 149 12 (nI q + 1)) := by
  obtain ⟨g1, g2, g3, g4⟩ := h
  unfold X9_takesOf_s1
  have step : ∀ n j, j < 3 → X9_takesOf_s1_l2 N (fun v2 σ => X9_takesOf_s1_j38 N v2 σ) (n + 1) (nI j) σ = if sB1.getD j 0 = nI (t.getD q 0) then X9_takesOf_s1_j38 N (nI j) σ else X9_takesOf_s1_l2 N (fun v2 σ => X9_takesOf_s1_j38 N v2 σ) n (nI (j + 1)) σ := by
    intro n j hj
    rw [X9_takesOf_s1_l2, len_s1, Option.bind_some, if_neg (nI_ge hj (by omega)), g1, g2, if_neg (nI_ge hq (by omega)), chr_s1 N σ j hj, Option.bind_some, g1, inbI (show q < 80 by omega) (by omega), if_pos rfl, clI (by omega), g4 q (by omega), nI1]
  refine forL0 (L := fun m i (_ : Unit) => X9_takesOf_s1_l2 N (fun v2 σ => X9_takesOf_s1_j38 N v2 σ) m (nI i) σ) (m := k) (a := ()) (fun i _ => i ≤ k) (o := fun x => x = some (nI k, wi σ 149 12 (nI q + 1))) (by omega) (by omega) ?_ ?_
  · intro n i a hi hI
    left
    exact ⟨(), by omega, by rw [step n i (by omega), if_neg (h2 i hi)]⟩
  · intro n a _
    rw [step n k hk, if_pos h1, X9_takesOf_s1_j38, g1]
    rfl
theorem takesN_s1 {N : Nat} (hN : 3 < N) {σ : Sg} {t : List Nat} {m q : Nat} (h : RdR σ t m q) (hl : t.length ≤ 80) (hq : q < 2147483648) (h2 : q < m → ∀ j, j < 3 → ¬ sB1.getD j 0 = nI (t.getD q 0)) : X9_takesOf_s1 N σ = some (-1, σ) := by
  obtain ⟨g1, g2, g3, g4⟩ := h
  unfold X9_takesOf_s1
  by_cases z : q < m
  · have step : ∀ n j, j < 3 → X9_takesOf_s1_l2 N (fun v2 σ => X9_takesOf_s1_j38 N v2 σ) (n + 1) (nI j) σ = X9_takesOf_s1_l2 N (fun v2 σ => X9_takesOf_s1_j38 N v2 σ) n (nI (j + 1)) σ := by
      intro n j hj
      rw [X9_takesOf_s1_l2, len_s1, Option.bind_some, if_neg (nI_ge hj (by omega)), g1, g2, if_neg (nI_ge z (by omega)), chr_s1 N σ j hj, Option.bind_some, g1, inbI (show q < 80 by omega) (by omega), if_pos rfl, clI (by omega), g4 q (by omega), nI1, if_neg (h2 z j hj)]
    refine forL0 (L := fun m i (_ : Unit) => X9_takesOf_s1_l2 N (fun v2 σ => X9_takesOf_s1_j38 N v2 σ) m (nI i) σ) (m := 3) (a := ()) (fun i _ => i ≤ 3) (o := fun x => x = some (-1, σ)) (by omega) (by omega) ?_ ?_
    · intro n i a hi hI
      left
      exact ⟨(), by omega, step n i hi⟩
    · intro n a _
      rw [X9_takesOf_s1_l2, len_s1, Option.bind_some, if_pos (nI_le (Nat.le_refl _) (by omega))]
  · obtain ⟨M, rfl⟩ : ∃ k, N = k + 1 := ⟨N - 1, by omega⟩
    rw [X9_takesOf_s1_l2, len_s1, Option.bind_some, if_neg (show ¬ nI 3 ≤ 0 by decide), g1, g2, if_pos (nI_le (by omega) (by omega))]
theorem chr_s2 (N : Nat) (σ : Sg) : ∀ k, k < 2 → J0_charAt_5068e_s2 N (nI k) σ = some (sB2.getD k 0, σ) := by
  intro k hk
  have : k = 0 ∨ k = 1 := by omega
  rcases this with z | z <;> subst z <;> rfl
theorem len_s2 (N : Nat) (σ : Sg) : J0_length_8abf5_s2 N σ = some (nI 2) := rfl
theorem takes_s2 {N : Nat} (hN : 2 < N) {σ : Sg} {t : List Nat} {m q : Nat} (h : RdR σ t m q) (hl : t.length ≤ 80) {k : Nat} (hk : k < 2) (hq : q < m) (h1 : sB2.getD k 0 = nI (t.getD q 0)) (h2 : ∀ j, j < k → ¬ sB2.getD j 0 = nI (t.getD q 0)) : X9_takesOf_s2 N σ = some (nI k, wi σ 149 12 (nI q + 1)) := by
  obtain ⟨g1, g2, g3, g4⟩ := h
  unfold X9_takesOf_s2
  have step : ∀ n j, j < 2 → X9_takesOf_s2_l2 N (fun v2 σ => X9_takesOf_s2_j38 N v2 σ) (n + 1) (nI j) σ = if sB2.getD j 0 = nI (t.getD q 0) then X9_takesOf_s2_j38 N (nI j) σ else X9_takesOf_s2_l2 N (fun v2 σ => X9_takesOf_s2_j38 N v2 σ) n (nI (j + 1)) σ := by
    intro n j hj
    rw [X9_takesOf_s2_l2, len_s2, Option.bind_some, if_neg (nI_ge hj (by omega)), g1, g2, if_neg (nI_ge hq (by omega)), chr_s2 N σ j hj, Option.bind_some, g1, inbI (show q < 80 by omega) (by omega), if_pos rfl, clI (by omega), g4 q (by omega), nI1]
  refine forL0 (L := fun m i (_ : Unit) => X9_takesOf_s2_l2 N (fun v2 σ => X9_takesOf_s2_j38 N v2 σ) m (nI i) σ) (m := k) (a := ()) (fun i _ => i ≤ k) (o := fun x => x = some (nI k, wi σ 149 12 (nI q + 1))) (by omega) (by omega) ?_ ?_
  · intro n i a hi hI
    left
    exact ⟨(), by omega, by rw [step n i (by omega), if_neg (h2 i hi)]⟩
  · intro n a _
    rw [step n k hk, if_pos h1, X9_takesOf_s2_j38, g1]
    rfl
theorem takesN_s2 {N : Nat} (hN : 2 < N) {σ : Sg} {t : List Nat} {m q : Nat} (h : RdR σ t m q) (hl : t.length ≤ 80) (hq : q < 2147483648) (h2 : q < m → ∀ j, j < 2 → ¬ sB2.getD j 0 = nI (t.getD q 0)) : X9_takesOf_s2 N σ = some (-1, σ) := by
  obtain ⟨g1, g2, g3, g4⟩ := h
  unfold X9_takesOf_s2
  by_cases z : q < m
  · have step : ∀ n j, j < 2 → X9_takesOf_s2_l2 N (fun v2 σ => X9_takesOf_s2_j38 N v2 σ) (n + 1) (nI j) σ = X9_takesOf_s2_l2 N (fun v2 σ => X9_takesOf_s2_j38 N v2 σ) n (nI (j + 1)) σ := by
      intro n j hj
      rw [X9_takesOf_s2_l2, len_s2, Option.bind_some, if_neg (nI_ge hj (by omega)), g1, g2, if_neg (nI_ge z (by omega)), chr_s2 N σ j hj, Option.bind_some, g1, inbI (show q < 80 by omega) (by omega), if_pos rfl, clI (by omega), g4 q (by omega), nI1, if_neg (h2 z j hj)]
    refine forL0 (L := fun m i (_ : Unit) => X9_takesOf_s2_l2 N (fun v2 σ => X9_takesOf_s2_j38 N v2 σ) m (nI i) σ) (m := 2) (a := ()) (fun i _ => i ≤ 2) (o := fun x => x = some (-1, σ)) (by omega) (by omega) ?_ ?_
    · intro n i a hi hI
      left
      exact ⟨(), by omega, step n i hi⟩
    · intro n a _
      rw [X9_takesOf_s2_l2, len_s2, Option.bind_some, if_pos (nI_le (Nat.le_refl _) (by omega))]
  · obtain ⟨M, rfl⟩ : ∃ k, N = k + 1 := ⟨N - 1, by omega⟩
    rw [X9_takesOf_s2_l2, len_s2, Option.bind_some, if_neg (show ¬ nI 2 ≤ 0 by decide), g1, g2, if_pos (nI_le (by omega) (by omega))]
theorem chr_s3 (N : Nat) (σ : Sg) : ∀ k, k < 2 → J0_charAt_5068e_s3 N (nI k) σ = some (sB3.getD k 0, σ) := by
  intro k hk
  have : k = 0 ∨ k = 1 := by omega
  rcases this with z | z <;> subst z <;> rfl
theorem len_s3 (N : Nat) (σ : Sg) : J0_length_8abf5_s3 N σ = some (nI 2) := rfl
theorem takes_s3 {N : Nat} (hN : 2 < N) {σ : Sg} {t : List Nat} {m q : Nat} (h : RdR σ t m q) (hl : t.length ≤ 80) {k : Nat} (hk : k < 2) (hq : q < m) (h1 : sB3.getD k 0 = nI (t.getD q 0)) (h2 : ∀ j, j < k → ¬ sB3.getD j 0 = nI (t.getD q 0)) : X9_takesOf_s3 N σ = some (nI k, wi σ 149 12 (nI q + 1)) := by
  obtain ⟨g1, g2, g3, g4⟩ := h
  unfold X9_takesOf_s3
  have step : ∀ n j, j < 2 → X9_takesOf_s3_l2 N (fun v2 σ => X9_takesOf_s3_j38 N v2 σ) (n + 1) (nI j) σ = if sB3.getD j 0 = nI (t.getD q 0) then X9_takesOf_s3_j38 N (nI j) σ else X9_takesOf_s3_l2 N (fun v2 σ => X9_takesOf_s3_j38 N v2 σ) n (nI (j + 1)) σ := by
    intro n j hj
    rw [X9_takesOf_s3_l2, len_s3, Option.bind_some, if_neg (nI_ge hj (by omega)), g1, g2, if_neg (nI_ge hq (by omega)), chr_s3 N σ j hj, Option.bind_some, g1, inbI (show q < 80 by omega) (by omega), if_pos rfl, clI (by omega), g4 q (by omega), nI1]
  refine forL0 (L := fun m i (_ : Unit) => X9_takesOf_s3_l2 N (fun v2 σ => X9_takesOf_s3_j38 N v2 σ) m (nI i) σ) (m := k) (a := ()) (fun i _ => i ≤ k) (o := fun x => x = some (nI k, wi σ 149 12 (nI q + 1))) (by omega) (by omega) ?_ ?_
  · intro n i a hi hI
    left
    exact ⟨(), by omega, by rw [step n i (by omega), if_neg (h2 i hi)]⟩
  · intro n a _
    rw [step n k hk, if_pos h1, X9_takesOf_s3_j38, g1]
    rfl
theorem takesN_s3 {N : Nat} (hN : 2 < N) {σ : Sg} {t : List Nat} {m q : Nat} (h : RdR σ t m q) (hl : t.length ≤ 80) (hq : q < 2147483648) (h2 : q < m → ∀ j, j < 2 → ¬ sB3.getD j 0 = nI (t.getD q 0)) : X9_takesOf_s3 N σ = some (-1, σ) := by
  obtain ⟨g1, g2, g3, g4⟩ := h
  unfold X9_takesOf_s3
  by_cases z : q < m
  · have step : ∀ n j, j < 2 → X9_takesOf_s3_l2 N (fun v2 σ => X9_takesOf_s3_j38 N v2 σ) (n + 1) (nI j) σ = X9_takesOf_s3_l2 N (fun v2 σ => X9_takesOf_s3_j38 N v2 σ) n (nI (j + 1)) σ := by
      intro n j hj
      rw [X9_takesOf_s3_l2, len_s3, Option.bind_some, if_neg (nI_ge hj (by omega)), g1, g2, if_neg (nI_ge z (by omega)), chr_s3 N σ j hj, Option.bind_some, g1, inbI (show q < 80 by omega) (by omega), if_pos rfl, clI (by omega), g4 q (by omega), nI1, if_neg (h2 z j hj)]
    refine forL0 (L := fun m i (_ : Unit) => X9_takesOf_s3_l2 N (fun v2 σ => X9_takesOf_s3_j38 N v2 σ) m (nI i) σ) (m := 2) (a := ()) (fun i _ => i ≤ 2) (o := fun x => x = some (-1, σ)) (by omega) (by omega) ?_ ?_
    · intro n i a hi hI
      left
      exact ⟨(), by omega, step n i hi⟩
    · intro n a _
      rw [X9_takesOf_s3_l2, len_s3, Option.bind_some, if_pos (nI_le (Nat.le_refl _) (by omega))]
  · obtain ⟨M, rfl⟩ : ∃ k, N = k + 1 := ⟨N - 1, by omega⟩
    rw [X9_takesOf_s3_l2, len_s3, Option.bind_some, if_neg (show ¬ nI 2 ≤ 0 by decide), g1, g2, if_pos (nI_le (by omega) (by omega))]
theorem chr_s4 (N : Nat) (σ : Sg) : ∀ k, k < 5 → J0_charAt_5068e_s4 N (nI k) σ = some (sB4.getD k 0, σ) := by
  intro k hk
  have : k = 0 ∨ k = 1 ∨ k = 2 ∨ k = 3 ∨ k = 4 := by omega
  rcases this with z | z | z | z | z <;> subst z <;> rfl
theorem len_s4 (N : Nat) (σ : Sg) : J0_length_8abf5_s4 N σ = some (nI 5) := rfl
theorem takes_s4 {N : Nat} (hN : 5 < N) {σ : Sg} {t : List Nat} {m q : Nat} (h : RdR σ t m q) (hl : t.length ≤ 80) {k : Nat} (hk : k < 5) (hq : q < m) (h1 : sB4.getD k 0 = nI (t.getD q 0)) (h2 : ∀ j, j < k → ¬ sB4.getD j 0 = nI (t.getD q 0)) : X9_takesOf_s4 N σ = some (nI k, wi σ 149 12 (nI q + 1)) := by
  obtain ⟨g1, g2, g3, g4⟩ := h
  unfold X9_takesOf_s4
  have step : ∀ n j, j < 5 → X9_takesOf_s4_l2 N (fun v2 σ => X9_takesOf_s4_j38 N v2 σ) (n + 1) (nI j) σ = if sB4.getD j 0 = nI (t.getD q 0) then X9_takesOf_s4_j38 N (nI j) σ else X9_takesOf_s4_l2 N (fun v2 σ => X9_takesOf_s4_j38 N v2 σ) n (nI (j + 1)) σ := by
    intro n j hj
    rw [X9_takesOf_s4_l2, len_s4, Option.bind_some, if_neg (nI_ge hj (by omega)), g1, g2, if_neg (nI_ge hq (by omega)), chr_s4 N σ j hj, Option.bind_some, g1, inbI (show q < 80 by omega) (by omega), if_pos rfl, clI (by omega), g4 q (by omega), nI1]
  refine forL0 (L := fun m i (_ : Unit) => X9_takesOf_s4_l2 N (fun v2 σ => X9_takesOf_s4_j38 N v2 σ) m (nI i) σ) (m := k) (a := ()) (fun i _ => i ≤ k) (o := fun x => x = some (nI k, wi σ 149 12 (nI q + 1))) (by omega) (by omega) ?_ ?_
  · intro n i a hi hI
    left
    exact ⟨(), by omega, by rw [step n i (by omega), if_neg (h2 i hi)]⟩
  · intro n a _
    rw [step n k hk, if_pos h1, X9_takesOf_s4_j38, g1]
    rfl
theorem takesN_s4 {N : Nat} (hN : 5 < N) {σ : Sg} {t : List Nat} {m q : Nat} (h : RdR σ t m q) (hl : t.length ≤ 80) (hq : q < 2147483648) (h2 : q < m → ∀ j, j < 5 → ¬ sB4.getD j 0 = nI (t.getD q 0)) : X9_takesOf_s4 N σ = some (-1, σ) := by
  obtain ⟨g1, g2, g3, g4⟩ := h
  unfold X9_takesOf_s4
  by_cases z : q < m
  · have step : ∀ n j, j < 5 → X9_takesOf_s4_l2 N (fun v2 σ => X9_takesOf_s4_j38 N v2 σ) (n + 1) (nI j) σ = X9_takesOf_s4_l2 N (fun v2 σ => X9_takesOf_s4_j38 N v2 σ) n (nI (j + 1)) σ := by
      intro n j hj
      rw [X9_takesOf_s4_l2, len_s4, Option.bind_some, if_neg (nI_ge hj (by omega)), g1, g2, if_neg (nI_ge z (by omega)), chr_s4 N σ j hj, Option.bind_some, g1, inbI (show q < 80 by omega) (by omega), if_pos rfl, clI (by omega), g4 q (by omega), nI1, if_neg (h2 z j hj)]
    refine forL0 (L := fun m i (_ : Unit) => X9_takesOf_s4_l2 N (fun v2 σ => X9_takesOf_s4_j38 N v2 σ) m (nI i) σ) (m := 5) (a := ()) (fun i _ => i ≤ 5) (o := fun x => x = some (-1, σ)) (by omega) (by omega) ?_ ?_
    · intro n i a hi hI
      left
      exact ⟨(), by omega, step n i hi⟩
    · intro n a _
      rw [X9_takesOf_s4_l2, len_s4, Option.bind_some, if_pos (nI_le (Nat.le_refl _) (by omega))]
  · obtain ⟨M, rfl⟩ : ∃ k, N = k + 1 := ⟨N - 1, by omega⟩
    rw [X9_takesOf_s4_l2, len_s4, Option.bind_some, if_neg (show ¬ nI 5 ≤ 0 by decide), g1, g2, if_pos (nI_le (by omega) (by omega))]
theorem faultOf2_r (N : Nat) {σ : Sg} {t : List Nat} {m q : Nat} (h : RdR σ t m q) {b : Nat} (hb1 : b ≤ 80) (hm : m = min t.length b) (hl : t.length ≤ 80) (hq : q ≤ m) {v : Int32} {ok : Bool} (hv : v = 1 ∨ v = 0) (hok : ok = true ↔ v = 1 ∧ q = t.length ∧ t.length ≤ b) : X9_faultOf N (nI t.length) (nI b) v σ = some (if ok = true then 0 else -1 - nI q) := by
  by_cases hz : v = 0 ∧ q = b ∧ ¬ t.length ≤ b
  · obtain ⟨z1, z2, z3⟩ := hz
    have hno : ¬ ok = true := fun u => z3 (hok.mp u).2.2
    unfold X9_faultOf
    rw [z1, if_pos rfl, X9_faultOf_j20, if_neg (nI_ge (by omega) (by omega)), if_pos rfl, h.1, z2, if_neg (nI_nlt (Nat.le_refl _) (by omega)), if_neg hno]
  · exact faultOf_r N h hb1 hm hl hq hv hok (fun z1 z2 => Decidable.byContradiction (fun z3 => hz ⟨z1, z2, z3⟩))
