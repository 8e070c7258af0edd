/-! ===== ways: the class marks steps ===== -/
def INF : Nat := 1000000
def PD (n : Nat) (f : Nat → Int32) (to : Nat) (D : Nat → Nat) : Prop := D to = 0 ∧ (∀ i, i < n → D i < INF → i ≠ to → ∃ j, j < n ∧ hb (f i) j = true ∧ D j + 1 = D i) ∧ (∀ i j, i < n → j < n → hb (f i) j = true → D i ≤ D j + 1) ∧ (∀ i, D i ≤ INF) ∧ (∀ i, i < n → D i < INF → D i < n)
theorem PD.le {n : Nat} {f : Nat → Int32} {to : Nat} {D D' : Nat → Nat} (h : PD n f to D) (h' : PD n f to D') : ∀ m i, i < n → D' i = m → D i ≤ D' i := by
  intro m
  induction m with
  | zero =>
    intro i hi e
    by_cases z : i = to
    · rw [z, h.1]; omega
    · obtain ⟨j, j1, j2, j3⟩ := h'.2.1 i hi (by rw [e]; decide) z
      omega
  | succ m ih =>
    intro i hi e
    by_cases z : i = to
    · rw [z, h.1]; omega
    · by_cases y : D' i < INF
      · obtain ⟨j, j1, j2, j3⟩ := h'.2.1 i hi y z
        have := ih j j1 (by omega)
        have := h.2.2.1 i j hi j1 j2
        omega
      · have := h.2.2.2.1 i
        omega
theorem PD.uniq {n : Nat} {f : Nat → Int32} {to : Nat} {D D' : Nat → Nat} (h : PD n f to D) (h' : PD n f to D') {i : Nat} (hi : i < n) : D i = D' i := Nat.le_antisymm (h.le h' _ i hi rfl) (h'.le h _ i hi rfl)
def mkI (m : Nat) : Int32 := if m < INF then nI m else -1
theorem mark_l43 {N : Nat} (hN : 8 < N) {σ : Sg} (K : Int32 → Int32 → Int32 → Sg → Option Sg) (V F : Int32) (l : Nat) : ∃ σ', X8_markSteps_l43 N K N V F (nI l) 0 0 σ = K V (nI l) (orB (hb F) (gi σ 23) 8) σ' ∧ (∀ i, i < 8 → gi σ' 142 i = if hb F i = true then nI l else gi σ 142 i) ∧ Fr [142] σ σ' := by
  refine forL0 (L := fun m i (x : Int32 × Sg) => X8_markSteps_l43 N K m V F (nI l) x.1 (nI i) x.2) (m := 8) (a := (0, σ)) (fun i x => x.1 = orB (hb F) (gi σ 23) i ∧ (∀ j, j < 8 → gi x.2 142 j = if j < i ∧ hb F j = true then nI l else gi σ 142 j) ∧ Fr [142] σ x.2) (o := fun x => ∃ σ', x = K V (nI l) (orB (hb F) (gi σ 23) 8) σ' ∧ (∀ i, i < 8 → gi σ' 142 i = if hb F i = true then nI l else gi σ 142 i) ∧ Fr [142] σ σ') (by omega) ⟨rfl, fun j _ => by rw [if_neg (by omega)], Fr.refl _ _⟩ ?_ ?_
  · intro m i x hi hI
    obtain ⟨v, a⟩ := x
    obtain ⟨g1, g2, g3⟩ := hI
    dsimp only at g1 g2 g3
    left
    by_cases z : hb F i = true
    · refine ⟨(v ||| gi σ 23 i, wi a 142 i (nI l)), ⟨by rw [orB, if_pos z, g1], fun j hj => ?_, g3.wi (by simp [pl])⟩, ?_⟩
      · dsimp only
        rw [giw]
        by_cases y : j = i
        · rw [if_pos ⟨rfl, y⟩, if_pos ⟨by omega, by rw [y]; exact z⟩]
        · rw [if_neg (fun u => y u.2), g2 j hj]
          by_cases w : j < i ∧ hb F j = true
          · rw [if_pos w, if_pos ⟨by omega, w.2⟩]
          · rw [if_neg w, if_neg (fun u => w ⟨by omega, u.2⟩)]
      · dsimp only
        rw [X8_markSteps_l43, if_neg (c8 hi), if_pos ((hasT F (by omega)).mpr z), inbI hi (by omega), if_pos rfl, clI (by omega), nI1]
        simp only [bnS]
        rw [if_pos trivial, gi_wi_ne (show (23 : Nat) ≠ 142 by omega), g3.g (k := 23) (by simp [pl])]
    · refine ⟨(v, a), ⟨by rw [orB, if_neg z, g1, or_0], fun j hj => ?_, g3⟩, ?_⟩
      · dsimp only
        rw [g2 j hj]
        by_cases w : j < i ∧ hb F j = true
        · rw [if_pos w, if_pos ⟨by omega, w.2⟩]
        · rw [if_neg w, if_neg]
          intro u
          by_cases y : j = i
          · rw [y] at u; exact z u.2
          · exact w ⟨by omega, u.2⟩
      · dsimp only
        rw [X8_markSteps_l43, if_neg (c8 hi), if_neg (fun u => z ((hasT F (by omega)).mp u)), nI1]
  · intro m x hI
    obtain ⟨v, a⟩ := x
    obtain ⟨g1, g2, g3⟩ := hI
    dsimp only at g1 g2 g3
    refine ⟨a, by dsimp only; rw [X8_markSteps_l43, if_pos c8', g1], fun i hi => ?_, g3⟩
    rw [g2 i hi]
    by_cases z : hb F i = true
    · rw [if_pos ⟨hi, z⟩, if_pos z]
    · rw [if_neg (fun u => z u.2), if_neg z]
/-- what stands when the things at l steps are about to be marked -/
def BI (n : Nat) (f : Nat → Int32) (to l : Nat) (V F : Int32) (M : Nat → Nat) : Prop :=
  (∀ j, hb V j = true → j < n) ∧ (∀ j, hb F j = true → hb V j = true) ∧ (∀ i, (M i < INF ↔ (hb V i = true ∧ hb F i = false)) ∧ M i ≤ INF ∧ (M i < INF → M i < l ∧ M i < n)) ∧
  (∀ i, i < n → M i < INF → i ≠ to → ∃ j, j < n ∧ hb (f i) j = true ∧ M j + 1 = M i) ∧ (∀ i, hb F i = true → i ≠ to → ∃ j, j < n ∧ hb (f i) j = true ∧ M j + 1 = l) ∧
  (∀ i, M i < INF → ∀ j, hb (f i) j = true → hb V j = true ∧ (M j < INF → M j ≤ M i + 1) ∧ (hb F j = true → l ≤ M i + 1)) ∧ ((l = 0 ∧ hb F to = true) ∨ M to = 0) ∧ (∀ i, hb F i = true → l + 1 ≤ cntB (hb V) n)
theorem BI.step {n : Nat} (h8 : n ≤ 8) {f : Nat → Int32} (hf : ∀ i, i < 8 → ∀ j, n ≤ j → hb (f i) j = false) (hs : ∀ i j, i < 8 → j < 8 → hb (f i) j = hb (f j) i) {to l : Nat} (hl : l < INF) {V F : Int32} {M : Nat → Nat} (h : BI n f to l V F M) : BI n f to (l + 1) (V ||| (orB (hb F) f 8 &&& (V ^^^ (-1)))) (orB (hb F) f 8 &&& (V ^^^ (-1))) (fun i => if hb F i = true then l else M i) := by
  obtain ⟨h1, h2, h3, h4, h5, h6, h7, h9⟩ := h
  have F' : ∀ j, hb (orB (hb F) f 8 &&& (V ^^^ (-1))) j = true ↔ (∃ i, hb F i = true ∧ hb (f i) j = true) ∧ hb V j = false := by
    intro j
    rw [hb_and, Bool.and_eq_true, hb_orB]
    rcases Nat.lt_or_ge j 32 with z | z
    · rw [hb_not V z]
      constructor
      · rintro ⟨⟨i, i1, i2, i3⟩, y⟩
        exact ⟨⟨i, i2, i3⟩, by simpa using y⟩
      · rintro ⟨⟨i, i2, i3⟩, y⟩
        exact ⟨⟨i, by have := h1 i (h2 i i2); omega, i2, i3⟩, by simpa using y⟩
    · constructor
      · rintro ⟨_, y⟩
        rw [hb_big z] at y; exact Bool.noConfusion y
      · rintro ⟨⟨i, i2, i3⟩, y⟩
        rw [hb_big z] at i3; exact Bool.noConfusion i3
  have V' : ∀ j, hb (V ||| (orB (hb F) f 8 &&& (V ^^^ (-1)))) j = true ↔ hb V j = true ∨ hb (orB (hb F) f 8 &&& (V ^^^ (-1))) j = true := by
    intro j
    rw [hb_or, Bool.or_eq_true]
  have notF : ∀ i, M i < INF → ¬ hb F i = true := fun i hi u => by have := ((h3 i).1.mp hi).2; rw [u] at this; exact Bool.noConfusion this
  have Fn : ∀ i, hb F i = true → i < n := fun i hi => h1 i (h2 i hi)
  generalize hF : orB (hb F) f 8 &&& (V ^^^ (-1)) = G at *
  generalize hV : V ||| G = W at *
  refine ⟨fun j hj => ?_, fun j hj => (V' j).mpr (Or.inr hj), fun i => ⟨⟨fun z => ?_, fun z => ?_⟩, ?_, fun z => ?_⟩, fun i hi z y => ?_, fun i hi y => ?_, fun i z j hj => ?_, Or.inr ?_, fun i hi => ?_⟩
  · rcases (V' j).mp hj with z | z
    · exact h1 j z
    · obtain ⟨⟨i, i1, i2⟩, _⟩ := (F' j).mp z
      have hi := Fn i i1
      rcases Nat.lt_or_ge j n with y | y
      · exact y
      · rw [hf i (by omega) j y] at i2; exact Bool.noConfusion i2
  · dsimp only at z
    have hVi : hb V i = true := by
      by_cases y : hb F i = true
      · exact h2 i y
      · rw [if_neg y] at z
        exact ((h3 i).1.mp z).1
    refine ⟨(V' i).mpr (Or.inl hVi), ?_⟩
    cases u : hb G i with
    | false => rfl
    | true => have := ((F' i).mp u).2; rw [hVi] at this; exact Bool.noConfusion this
  · dsimp only
    by_cases y : hb F i = true
    · rw [if_pos y]; exact hl
    · rw [if_neg y]
      refine (h3 i).1.mpr ⟨?_, by simpa using y⟩
      rcases (V' i).mp z.1 with u | u
      · exact u
      · rw [z.2] at u; exact Bool.noConfusion u
  · dsimp only
    by_cases y : hb F i = true
    · rw [if_pos y]; omega
    · rw [if_neg y]; exact (h3 i).2.1
  · dsimp only at z ⊢
    by_cases y : hb F i = true
    · rw [if_pos y]
      have := h9 i y
      have := cntB_le (hb V) n
      omega
    · rw [if_neg y] at z ⊢
      have := (h3 i).2.2 z
      omega
  · dsimp only at z ⊢
    by_cases w : hb F i = true
    · obtain ⟨j, j1, j2, j3⟩ := h5 i w y
      refine ⟨j, j1, j2, ?_⟩
      rw [if_pos w, if_neg (notF j (by omega))]; exact j3
    · rw [if_neg w] at z ⊢
      obtain ⟨j, j1, j2, j3⟩ := h4 i hi z y
      refine ⟨j, j1, j2, ?_⟩
      rw [if_neg (notF j (by omega))]; exact j3
  · obtain ⟨⟨k, k1, k2⟩, _⟩ := (F' i).mp hi
    have hkn := Fn k k1
    have hin : i < n := by
      rcases Nat.lt_or_ge i n with u | u
      · exact u
      · rw [hf k (by omega) i u] at k2; exact Bool.noConfusion k2
    refine ⟨k, hkn, by rw [hs i k (by omega) (by omega)]; exact k2, ?_⟩
    dsimp only
    rw [if_pos k1]
  · dsimp only at z ⊢
    by_cases w : hb F i = true
    · rw [if_pos w] at z ⊢
      have hVj : hb V j = true ∨ hb G j = true := by
        cases u : hb V j with
        | true => exact Or.inl rfl
        | false => exact Or.inr ((F' j).mpr ⟨⟨i, w, hj⟩, u⟩)
      refine ⟨(V' j).mpr hVj, fun u => ?_, fun _ => Nat.le_refl _⟩
      by_cases x : hb F j = true
      · rw [if_pos x]; omega
      · rw [if_neg x] at u ⊢
        have := ((h3 j).2.2 u).1
        omega
    · rw [if_neg w] at z ⊢
      have h := h6 i z j hj
      refine ⟨(V' j).mpr (Or.inl h.1), fun u => ?_, fun u => ?_⟩
      · by_cases x : hb F j = true
        · rw [if_pos x]; exact h.2.2 x
        · rw [if_neg x] at u ⊢; exact h.2.1 u
      · have := ((F' j).mp u).2
        rw [h.1] at this; exact Bool.noConfusion this
  · dsimp only
    rcases h7 with ⟨z1, z2⟩ | z
    · rw [if_pos z2]; exact z1
    · rw [if_neg (notF to (by rw [z]; decide))]; exact z
  · obtain ⟨⟨k, k1, k2⟩, hVi⟩ := (F' i).mp hi
    have h10 := h9 k k1
    have hin : i < n := by
      rcases Nat.lt_or_ge i n with u | u
      · exact u
      · rw [hf k (by have := Fn k k1; omega) i u] at k2; exact Bool.noConfusion k2
    have := cntB_lt (f := hb V) (g := hb W) n (fun j _ hj => (V' j).mpr (Or.inl hj)) hin ((V' i).mpr (Or.inr hi)) hVi
    omega
theorem markSteps_c {N : Nat} (hN : 20 < N) {σ : Sg} {n : Nat} (hW : WL n (rC σ 19)) {to : Nat} (hto : to < n) : ∃ σ' D, X8_markSteps N (nI to) σ = some σ' ∧ (∀ i, i < 8 → gi σ' 142 i = mkI (D i)) ∧ PD n (lnk (rC σ 19)) to D ∧ Fr [142] σ σ' := by
  obtain ⟨w1, w2, w3, w4, h8⟩ := hW
  have ef : ∀ i, i < 8 → gi σ 23 i = lnk (rC σ 19) i := fun i hi => by show gi σ (19 + 4) i = rC σ 19 (24 + i); rw [rC_l hi]
  unfold X8_markSteps
  refine forL0 (L := fun m i a => X8_markSteps_l2 N (fun v1 σ => X8_markSteps_j21 N v1 σ) m (nI to) (nI i) a) (m := 8) (N := N) (a := σ) (fun i a => (∀ j, j < i → gi a 142 j = -1) ∧ Fr [142] σ a) (o := fun x => ∃ σ' D, x = some σ' ∧ (∀ i, i < 8 → gi σ' 142 i = mkI (D i)) ∧ PD n (lnk (rC σ 19)) to D ∧ Fr [142] σ σ') (by omega) ⟨fun j hj => absurd hj (Nat.not_lt_zero _), Fr.refl _ _⟩ ?_ ?_
  · intro m i a hi hI
    obtain ⟨g1, g2⟩ := hI
    left
    refine ⟨wi a 142 i (-1), ⟨fun j hj => ?_, g2.wi (by simp [pl])⟩, ?_⟩
    · rw [giw]
      by_cases z : j = i
      · rw [if_pos ⟨rfl, z⟩]
      · rw [if_neg (fun y => z y.2)]; exact g1 j (by omega)
    · rw [X8_markSteps_l2, if_neg (c8 hi), inbI hi (by omega), if_pos rfl, clI (by omega), nI1]
      rfl
  · intro m a hI
    obtain ⟨g1, g2⟩ := hI
    rw [X8_markSteps_l2, if_pos c8', X8_markSteps_j21]
    refine forL0 (L := fun m i (x : Int32 × Int32 × (Nat → Nat) × Sg) => X8_markSteps_l30 N m x.1 x.2.1 (nI i) x.2.2.2) (m := 8) (N := N) (a := (1 <<< (nI to &&& 31), 1 <<< (nI to &&& 31), (fun _ => INF), a)) (fun i x => BI n (lnk (rC σ 19)) to i x.1 x.2.1 x.2.2.1 ∧ (∀ j, j < 8 → gi x.2.2.2 142 j = mkI (x.2.2.1 j)) ∧ Fr [142] σ x.2.2.2) (o := fun x => ∃ σ' D, x = some σ' ∧ (∀ i, i < 8 → gi σ' 142 i = mkI (D i)) ∧ PD n (lnk (rC σ 19)) to D ∧ Fr [142] σ σ') (by omega) ⟨?_, fun j hj => by dsimp only; rw [g1 j hj]; rfl, g2⟩ ?_ ?_
    · have hone : ∀ i, hb (1 <<< (nI to &&& 31)) i = true ↔ i = to := by
        intro i
        rcases Nat.lt_or_ge i 32 with z | z
        · rw [hb_one to (by omega) i z, decide_eq_true_eq]
        · rw [hb_big z]
          constructor
          · intro u; exact Bool.noConfusion u
          · intro u; omega
      refine ⟨fun j hj => by rw [(hone j).mp hj]; exact hto, fun j hj => hj, fun i => ⟨⟨fun z => absurd z (Nat.lt_irrefl _), fun z => ?_⟩, Nat.le_refl _, fun z => absurd z (Nat.lt_irrefl _)⟩, fun i _ z => absurd z (Nat.lt_irrefl _), fun i hi z => absurd ((hone i).mp hi) z, fun i z => absurd z (Nat.lt_irrefl _), Or.inl ⟨rfl, (hone to).mpr rfl⟩, fun i hi => ?_⟩
      · have := z.1
        dsimp only at this z
        rw [z.2] at this; exact Bool.noConfusion this
      · have := cntB_lt (f := fun _ => false) (g := hb (1 <<< (nI to &&& 31))) n (fun j _ hj => Bool.noConfusion hj) hto ((hone to).mpr rfl) rfl
        dsimp only
        omega
    · intro m i x hi hI
      obtain ⟨V, F, M, b⟩ := x
      obtain ⟨b1, b2, b3⟩ := hI
      dsimp only at b1 b2 b3
      left
      have eo : orB (hb F) (gi b 23) 8 = orB (hb F) (lnk (rC σ 19)) 8 := by
        apply hb_ext
        intro j hj
        apply Bool.eq_iff_iff.mpr
        rw [hb_orB, hb_orB]
        constructor
        · rintro ⟨k, k1, k2, k3⟩
          exact ⟨k, k1, k2, by rw [← ef k k1, ← b3.g (k := 23) (by simp [pl])]; exact k3⟩
        · rintro ⟨k, k1, k2, k3⟩
          exact ⟨k, k1, k2, by rw [b3.g (k := 23) (by simp [pl]), ef k k1]; exact k3⟩
      obtain ⟨b', d1, d2, d3⟩ := mark_l43 (N := N) (by omega) (σ := b) (fun v2 v4 v5 σ => X8_markSteps_j90 N (fun v2 v3 v4 σ => X8_markSteps_l30 N m v2 v3 v4 σ) v2 v4 v5 σ) V F i
      rw [eo] at d1
      refine ⟨(V ||| (orB (hb F) (lnk (rC σ 19)) 8 &&& (V ^^^ (-1))), orB (hb F) (lnk (rC σ 19)) 8 &&& (V ^^^ (-1)), (fun j => if hb F j = true then i else M j), b'), ⟨BI.step (l := i) h8 w1 w2 (by unfold INF; omega) b1, fun j hj => ?_, b3.trans d3⟩, ?_⟩
      · dsimp only
        rw [d2 j hj]
        by_cases z : hb F j = true
        · rw [if_pos z, if_pos z]
          unfold mkI
          rw [if_pos (by unfold INF; omega)]
        · rw [if_neg z, if_neg z]; exact b2 j hj
      · dsimp only
        rw [X8_markSteps_l30, if_neg (c8 hi), d1, X8_markSteps_j90, nI1]
    · intro m x hI
      obtain ⟨V, F, M, b⟩ := x
      obtain ⟨⟨h1, h2, h3, h4, h5, h6, h7, h9⟩, b2, b3⟩ := hI
      dsimp only at h1 h2 h3 h4 h5 h6 h7 h9 b2 b3
      have Fe : ∀ j, hb F j = false := by
        intro j
        cases u : hb F j with
        | false => rfl
        | true =>
          have := h9 j u
          have := cntB_le (hb V) n
          omega
      refine ⟨b, M, by dsimp only; rw [X8_markSteps_l30, if_pos c8'], b2, ⟨?_, h4, fun i j hi hj hij => ?_, fun i => (h3 i).2.1, fun i hi z => ((h3 i).2.2 z).2⟩, b3⟩
      · rcases h7 with z | z
        · omega
        · exact z
      · rcases Nat.lt_or_ge (M j) INF with z | z
        · have hji : hb (lnk (rC σ 19) j) i = true := by
            have := w2 j i (by omega) (by omega)
            show hb (rC σ 19 (24 + j)) i = true
            rw [this]; exact hij
          have h10 := h6 j z i hji
          rcases Nat.lt_or_ge (M i) INF with y | y
          · exact h10.2.1 y
          · exfalso
            exact absurd ((h3 i).1.mpr ⟨h10.1, Fe i⟩) (by omega)
        · have := (h3 i).2.1
          omega
