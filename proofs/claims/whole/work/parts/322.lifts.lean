/-! ===== lifts, just, evens ===== -/
theorem stones_c {N : Nat} (hN : 8 < N) {σ : Sg} {n S H : Nat} {r : Nat → Int32} (hr : rC σ 19 = r) (hW : WF n S H r) (s : Int32) : X5_stonesOf N 19 s σ = some (sumB (hb s) r n) := by
  have h8 := hW.1.2.2.2.2
  rw [stonesOf_b hN, ← sumB_8 h8 (f := hb s) (g := r) (fun i hi hi8 _ => (hW.2.2.2.2.1 i hi hi8).1)]
  rw [sumB_congr (g' := r) 8 (fun _ _ => rfl) (fun i hi _ => by rw [← hr, rC_s hi])]
def fewB (s c : Int32) : Bool := if c < 0 then true else !decide (popI c ≤ popI s)
theorem fewer_c (N : Nat) (s c : Int32) (σ : Sg) : X8_isFewer N s c σ = some (if fewB s c = true then 1 else 0) := by
  unfold X8_isFewer fewB
  by_cases h : c < 0
  · rw [if_pos h, if_pos h, if_pos rfl]
  · rw [if_neg h, if_neg h, bitCount_eq, Option.bind_some, bitCount_eq, Option.bind_some]
    by_cases h2 : popI c ≤ popI s
    · rw [if_pos h2, decide_eq_true h2]; rfl
    · rw [if_neg h2, decide_eq_false h2]; rfl
theorem fewer_r (N : Nat) (s c : Int32) (σ : Sg) : X9_isFewer N s c σ = some (if fewB s c = true then 1 else 0) := fewer_c N s c σ
theorem all_nlt : ∀ n, n < 9 → ∀ i, i < 257 → i < 2 ^ n → ¬ allI n < nI i := by decide +kernel
theorem all_lt : ∀ n, n < 9 → allI n < nI (2 ^ n) := by decide +kernel
theorem pow8 {n : Nat} (h : n ≤ 8) : 1 ≤ 2 ^ n ∧ 2 ^ n ≤ 256 := ⟨Nat.one_le_two_pow, Nat.pow_le_pow_right (n := 2) (by omega) h⟩
theorem every_c (N : Nat) {σ : Sg} {n : Nat} (hn : gi σ 5 1 = nI n) : X0_everything N σ = some (allI n) := by unfold X0_everything; rw [hn]; rfl
def lfS (n : Nat) (r : Nat → Int32) (v : Int32) : Nat → Int32
  | 0 => -1
  | i + 1 => if ¬ sumB (hb (nI i)) r n < v ∧ fewB (nI i) (lfS n r v i) = true then nI i else lfS n r v i
theorem lifts_op {N : Nat} (hN : 555 < N) {H : Nat} {A : Ab} (hA : OkA H A) (v : Int32) : OpB (X8_lifts N v) (X9_lifts N v) H A := by
  have h8 := hA.1.1.2.2.2.2
  have hp := pow8 h8
  by_cases h : v < 1 ∨ 72 < v
  · refine OpB.no hA (-1) (fun σ _ => ?_) (fun σ _ => ?_)
    · unfold X8_lifts
      by_cases q : v < 1
      · rw [if_pos q]
      · rw [if_neg q, if_neg (fun z => h.elim q (fun y => absurd y (Int32.not_lt.mpr z)))]
    · unfold X9_lifts
      simp only [bnS]
      rw [show (1 : Int64) = (1 : Int32).toInt64 from rfl, show (72 : Int64) = (72 : Int32).toInt64 from rfl, in_f N h, Option.bind_some, if_pos rfl]
  · have h1 : ¬ v < 1 := fun q => h (Or.inl q)
    have h2 : v ≤ 72 := Int32.not_lt.mp (fun q => h (Or.inr q))
    refine OpB.told hA (if 0 ≤ lfS A.1.1 A.2.1 v (2 ^ A.1.1) then popI (lfS A.1.1 A.2.1 v (2 ^ A.1.1)) else -2) (if 0 ≤ lfS A.1.1 A.2.1 v (2 ^ A.1.1) then [(lfS A.1.1 A.2.1 v (2 ^ A.1.1)).toInt64] else A.2.2.2.1) (by split; simp; exact hA.2.2.1) (fun σ hσ => ?_) (fun σ hσ => ?_)
    · have n1 := hσ.1.n.1
      unfold X8_lifts
      rw [if_neg h1, if_pos h2]
      refine forL0 (L := fun m i a => X8_lifts_l17 N (fun v2 σ => X8_lifts_j56 N v2 σ) m v a (nI i) σ) (m := 2 ^ A.1.1) (fun i a => a = lfS A.1.1 A.2.1 v i) (o := fun x => ∃ σ', x = some (if 0 ≤ lfS A.1.1 A.2.1 v (2 ^ A.1.1) then popI (lfS A.1.1 A.2.1 v (2 ^ A.1.1)) else -2, σ') ∧ ToC σ' (if 0 ≤ lfS A.1.1 A.2.1 v (2 ^ A.1.1) then [(lfS A.1.1 A.2.1 v (2 ^ A.1.1)).toInt64] else A.2.2.2.1) ∧ Fr scrC σ σ') (by omega) rfl ?_ ?_
      · intro m i a hi ha
        subst ha
        left
        refine ⟨_, rfl, ?_⟩
        rw [X8_lifts_l17, every_c N n1, Option.bind_some, if_neg (all_nlt _ (by omega) i (by omega) hi), stones_c (by omega) hσ.2.1 hA.1, Option.bind_some, fewer_c, nI1]
        show _ = X8_lifts_l17 N _ m v (if _ then _ else _) _ σ
        by_cases q : sumB (hb (nI i)) A.2.1 A.1.1 < v
        · rw [if_pos q, if_neg (fun z => z.1 q)]
        · rw [if_neg q, Option.bind_some]
          by_cases q2 : fewB (nI i) (lfS A.1.1 A.2.1 v i) = true
          · rw [if_pos q2, if_neg oneF, if_pos ⟨q, q2⟩]
          · rw [if_neg q2, if_pos rfl, if_neg (fun z => q2 z.2)]
      · intro m a ha
        subst ha
        rw [X8_lifts_l17, every_c N n1, Option.bind_some, if_pos (all_lt _ (by omega)), X8_lifts_j56]
        by_cases q : 0 ≤ lfS A.1.1 A.2.1 v (2 ^ A.1.1)
        · rw [if_pos q, if_pos q, if_pos q]
          obtain ⟨σ2, g1, g2, g3⟩ := tell1_c N (lfS A.1.1 A.2.1 v (2 ^ A.1.1)).toInt64 σ
          exact ⟨σ2, by rw [g1, Option.bind_some, bitCount_eq]; rfl, g2, g3.mono (by decide)⟩
        · rw [if_neg q, if_neg q, if_neg q]
          exact ⟨σ, rfl, hσ.2.2.2.1, Fr.refl _ _⟩
    · have f0 := thrown_f σ 0
      have c1 := hσ.1.fr f0 (by decide)
      have r0' : rR (wi σ 149 0 0) 153 = A.2.1 := (rR_congr (f0.r (by simp [pl]))).trans hσ.2.1
      unfold X9_lifts
      simp only [bnS]
      rw [show (1 : Int64) = (1 : Int32).toInt64 from rfl, show (72 : Int64) = (72 : Int32).toInt64 from rfl, in_t N (Int32.not_lt.mp h1) h2, Option.bind_some, if_neg oneF]
      refine forL0 (L := fun m i a => X9_lifts_l23 N (fun v2 σ => X9_lifts_j65 N v2 σ) m v a (nI i) (wi σ 149 0 0)) (m := 2 ^ A.1.1) (fun i a => a = lfS A.1.1 A.2.1 v i) (o := fun x => ∃ σ', x = some (if 0 ≤ lfS A.1.1 A.2.1 v (2 ^ A.1.1) then popI (lfS A.1.1 A.2.1 v (2 ^ A.1.1)) else -2, σ') ∧ ToR σ' (if 0 ≤ lfS A.1.1 A.2.1 v (2 ^ A.1.1) then [(lfS A.1.1 A.2.1 v (2 ^ A.1.1)).toInt64] else A.2.2.2.1) ∧ Fr scrR σ σ') (by omega) rfl ?_ ?_
      · intro m i a hi ha
        subst ha
        left
        refine ⟨_, rfl, ?_⟩
        rw [X9_lifts_l23, all_r N c1.1, Option.bind_some, if_neg (all_nlt _ (by omega) i (by omega) hi), fewer_r, Option.bind_some, sumOf_0 (by omega) 153 _ c1.1 h8, r0', nI1]
        show _ = X9_lifts_l23 N _ m v (if _ then _ else _) _ _
        by_cases q2 : fewB (nI i) (lfS A.1.1 A.2.1 v i) = true
        · rw [if_pos q2, if_neg oneF, Option.bind_some]
          by_cases q : sumB (hb (nI i)) A.2.1 A.1.1 < v
          · rw [if_pos q, if_neg (fun z => z.1 q)]
          · rw [if_neg q, if_pos ⟨q, q2⟩]
        · rw [if_neg q2, if_pos rfl, if_neg (fun z => q2 z.2)]
      · intro m a ha
        subst ha
        rw [X9_lifts_l23, all_r N c1.1, Option.bind_some, if_pos (all_lt _ (by omega)), X9_lifts_j65]
        by_cases q : 0 ≤ lfS A.1.1 A.2.1 v (2 ^ A.1.1)
        · rw [if_pos q, if_pos q, if_pos q]
          have tf := told0_f (wi σ 149 0 0)
          obtain ⟨σ2, g1, g2, g3⟩ := enters_r N (told0_r (wi σ 149 0 0)) (by decide) (lfS A.1.1 A.2.1 v (2 ^ A.1.1)).toInt64
          exact ⟨σ2, by simp only [bnS]; rw [g1, Option.bind_some, bitCount_eq]; rfl, g2, ((f0.mono (by decide)).trans (tf.mono (by decide))).trans (g3.mono (by decide))⟩
        · rw [if_neg q, if_neg q, if_neg q]
          exact ⟨_, rfl, hσ.2.2.2.1.fr f0 (by decide), f0.mono (by decide)⟩
def jfS (n : Nat) (r : Nat → Int32) (v : Int32) : Nat → Int32 × Int32
  | 0 => (-1, 0)
  | i + 1 => (if sumB (hb (nI i)) r n = v ∧ fewB (nI i) (jfS n r v i).1 = true then nI i else (jfS n r v i).1, if sumB (hb (nI i)) r n = v then (jfS n r v i).2 + 1 else (jfS n r v i).2)
theorem just_op {N : Nat} (hN : 555 < N) {H : Nat} {A : Ab} (hA : OkA H A) (v : Int32) : OpB (X8_just N v) (X9_just N v) H A := by
  have h8 := hA.1.1.2.2.2.2
  have hp := pow8 h8
  rcases upto 72 (by omega) v with ⟨u, hu, rfl⟩ | h
  · refine OpB.told hA (if 0 ≤ (jfS A.1.1 A.2.1 (nI u) (2 ^ A.1.1)).1 then popI (jfS A.1.1 A.2.1 (nI u) (2 ^ A.1.1)).1 else -2) (if 0 ≤ (jfS A.1.1 A.2.1 (nI u) (2 ^ A.1.1)).1 then [(jfS A.1.1 A.2.1 (nI u) (2 ^ A.1.1)).1.toInt64, (jfS A.1.1 A.2.1 (nI u) (2 ^ A.1.1)).2.toInt64] else A.2.2.2.1) (by split; simp; exact hA.2.2.1) (fun σ hσ => ?_) (fun σ hσ => ?_)
    · have n1 := hσ.1.n.1
      unfold X8_just
      rw [if_neg (nI_pos (by omega)), if_pos (show nI u ≤ 72 from nI_le (b := 72) hu (by decide))]
      refine forL0 (L := fun m i (a : Int32 × Int32) => X8_just_l19 N (fun v2 v3 σ => X8_just_j65 N v2 v3 σ) m (nI u) a.1 a.2 (nI i) σ) (m := 2 ^ A.1.1) (a := (-1, 0)) (fun i a => a = jfS A.1.1 A.2.1 (nI u) i) (o := fun x => ∃ σ', x = some (if 0 ≤ (jfS A.1.1 A.2.1 (nI u) (2 ^ A.1.1)).1 then popI (jfS A.1.1 A.2.1 (nI u) (2 ^ A.1.1)).1 else -2, σ') ∧ ToC σ' (if 0 ≤ (jfS A.1.1 A.2.1 (nI u) (2 ^ A.1.1)).1 then [(jfS A.1.1 A.2.1 (nI u) (2 ^ A.1.1)).1.toInt64, (jfS A.1.1 A.2.1 (nI u) (2 ^ A.1.1)).2.toInt64] else A.2.2.2.1) ∧ Fr scrC σ σ') (by omega) rfl ?_ ?_
      · intro m i a hi ha
        subst ha
        left
        refine ⟨_, rfl, ?_⟩
        rw [X8_just_l19, every_c N n1, Option.bind_some, if_neg (all_nlt _ (by omega) i (by omega) hi), stones_c (by omega) hσ.2.1 hA.1, Option.bind_some, fewer_c, nI1]
        show _ = X8_just_l19 N _ m _ (if _ then _ else _) (if _ then _ else _) _ σ
        by_cases q : sumB (hb (nI i)) A.2.1 A.1.1 = nI u
        · rw [if_pos q, Option.bind_some, if_pos q]
          by_cases q2 : fewB (nI i) (jfS A.1.1 A.2.1 (nI u) i).1 = true
          · rw [if_pos q2, if_neg oneF, if_pos ⟨q, q2⟩]
          · rw [if_neg q2, if_pos rfl, if_neg (fun z => q2 z.2)]
        · rw [if_neg q, if_neg q, if_neg (fun z => q z.1)]
      · intro m a ha
        subst ha
        rw [X8_just_l19, every_c N n1, Option.bind_some, if_pos (all_lt _ (by omega)), X8_just_j65]
        by_cases q : 0 ≤ (jfS A.1.1 A.2.1 (nI u) (2 ^ A.1.1)).1
        · rw [if_pos q, if_pos q, if_pos q]
          obtain ⟨σ2, g1, g2, g3⟩ := tell2_c N (jfS A.1.1 A.2.1 (nI u) (2 ^ A.1.1)).1.toInt64 (jfS A.1.1 A.2.1 (nI u) (2 ^ A.1.1)).2.toInt64 σ
          exact ⟨σ2, by rw [g1, Option.bind_some, bitCount_eq]; rfl, g2, g3.mono (by decide)⟩
        · rw [if_neg q, if_neg q, if_neg q]
          exact ⟨σ, rfl, hσ.2.2.2.1, Fr.refl _ _⟩
    · have f0 := thrown_f σ 0
      have c1 := hσ.1.fr f0 (by decide)
      have r0' : rR (wi σ 149 0 0) 153 = A.2.1 := (rR_congr (f0.r (by simp [pl]))).trans hσ.2.1
      unfold X9_just
      simp only [bnS]
      rw [in11 N (hi := 72) (h64 := 72) rfl (nI_pos (by omega)) (nI_le (b := 72) hu (by decide)), Option.bind_some, if_neg oneF]
      refine forL0 (L := fun m i (a : Int32 × Int32) => X9_just_l26 N (fun v2 v3 σ => X9_just_j92 N v2 v3 σ) m (nI u) a.1 a.2 (nI i) (wi σ 149 0 0)) (m := 2 ^ A.1.1) (a := (-1, 0)) (fun i a => a = jfS A.1.1 A.2.1 (nI u) i) (o := fun x => ∃ σ', x = some (if 0 ≤ (jfS A.1.1 A.2.1 (nI u) (2 ^ A.1.1)).1 then popI (jfS A.1.1 A.2.1 (nI u) (2 ^ A.1.1)).1 else -2, σ') ∧ ToR σ' (if 0 ≤ (jfS A.1.1 A.2.1 (nI u) (2 ^ A.1.1)).1 then [(jfS A.1.1 A.2.1 (nI u) (2 ^ A.1.1)).1.toInt64, (jfS A.1.1 A.2.1 (nI u) (2 ^ A.1.1)).2.toInt64] else A.2.2.2.1) ∧ Fr scrR σ σ') (by omega) rfl ?_ ?_
      · intro m i a hi ha
        subst ha
        left
        refine ⟨_, rfl, ?_⟩
        rw [X9_just_l26, all_r N c1.1, Option.bind_some, if_neg (all_nlt _ (by omega) i (by omega) hi), sumOf_0 (by omega) 153 _ c1.1 h8, Option.bind_some, r0']
        show _ = X9_just_l26 N _ m _ (if _ then _ else _) (if _ then _ else _) _ _
        by_cases q : sumB (hb (nI i)) A.2.1 A.1.1 = nI u
        · rw [if_pos q, if_pos q, X9_just_j55, if_neg oneF, fewer_r, Option.bind_some]
          by_cases q2 : fewB (nI i) (jfS A.1.1 A.2.1 (nI u) i).1 = true
          · rw [if_pos q2, if_neg oneF, if_pos ⟨q, q2⟩, X9_just_j77, show X9_flag N 1 (wi σ 149 0 0) = some 1 from rfl, Option.bind_some, nI1]
          · rw [if_neg q2, if_pos rfl, if_neg (fun z => q2 z.2), X9_just_j77, show X9_flag N 1 (wi σ 149 0 0) = some 1 from rfl, Option.bind_some, nI1]
        · rw [if_neg q, if_neg q, if_neg (fun z => q z.1), X9_just_j55, if_pos rfl, X9_just_j77, show X9_flag N 0 (wi σ 149 0 0) = some 0 from rfl, Option.bind_some, nI1]
          simp
      · intro m a ha
        subst ha
        rw [X9_just_l26, all_r N c1.1, Option.bind_some, if_pos (all_lt _ (by omega)), X9_just_j92]
        by_cases q : 0 ≤ (jfS A.1.1 A.2.1 (nI u) (2 ^ A.1.1)).1
        · rw [if_pos q, if_pos q, if_pos q]
          have tf := told0_f (wi σ 149 0 0)
          obtain ⟨σ2, g1, g2, g3⟩ := enters_r N (told0_r (wi σ 149 0 0)) (by decide) (jfS A.1.1 A.2.1 (nI u) (2 ^ A.1.1)).1.toInt64
          obtain ⟨σ3, i1, i2, i3⟩ := enters_r N g2 (by simp) (jfS A.1.1 A.2.1 (nI u) (2 ^ A.1.1)).2.toInt64
          exact ⟨σ3, by simp only [bnS]; rw [g1, Option.bind_some, i1, Option.bind_some, bitCount_eq]; rfl, i2, (((f0.mono (by decide)).trans (tf.mono (by decide))).trans (g3.mono (by decide))).trans (i3.mono (by decide))⟩
        · rw [if_neg q, if_neg q, if_neg q]
          exact ⟨_, rfl, hσ.2.2.2.1.fr f0 (by decide), f0.mono (by decide)⟩
  · refine OpB.no hA (-1) (fun σ _ => ?_) (fun σ _ => ?_)
    · unfold X8_just
      by_cases z : v < 0
      · rw [if_pos z]
      · rw [if_neg z, if_neg (show ¬ v ≤ 72 from fun y => h.elim z (fun u => absurd u (Int32.not_lt.mpr y)))]
    · unfold X9_just
      simp only [bnS]
      rw [in01 N (hi := 72) (h64 := 72) rfl h, Option.bind_some, if_pos rfl]
/-! ===== evens ===== -/
def absI (x : Int32) : Int32 := if 0 ≤ x then x else -x
theorem abs_b (N : Nat) (x : Int32) (σ : Sg) : J9_abs_0f7a4 N x σ = some (absI x) := by unfold J9_abs_0f7a4 absI; split <;> rfl
theorem sum_nI {f : Nat → Bool} {g : Nat → Int32} {S : Nat} (n : Nat) (h : ∀ i, i < n → ∃ s, s ≤ S ∧ g i = nI s) : ∃ x, x ≤ S * n ∧ sumB f g n = nI x := by
  induction n with
  | zero => exact ⟨0, by omega, rfl⟩
  | succ n ih =>
    obtain ⟨x, hx, ex⟩ := ih (fun i hi => h i (by omega))
    obtain ⟨s, hs, es⟩ := h n (by omega)
    unfold sumB
    rw [ex]
    cases f n
    · exact ⟨x, by rw [Nat.mul_succ]; omega, by simp⟩
    · exact ⟨x + s, by rw [Nat.mul_succ]; omega, by rw [if_pos rfl, es, nI_add]⟩
def efS (n : Nat) (r : Nat → Int32) : Nat → Int32
  | 0 => 0
  | i + 1 => if absI (sumB (hb (allI n)) r n - 2 * sumB (hb (efS n r i)) r n) ≤ absI (sumB (hb (allI n)) r n - 2 * sumB (hb (nI i)) r n) then efS n r i else nI i
theorem evens_op {N : Nat} (hN : 555 < N) {H : Nat} {A : Ab} (hA : OkA H A) : OpB (X8_evens N) (X9_evens N) H A := by
  have h8 := hA.1.1.2.2.2.2
  have hp := pow8 h8
  have e1 : efS A.1.1 A.2.1 1 = 0 := by
    unfold efS
    unfold efS
    split <;> rfl
  have z0 : sumB (hb 0) A.2.1 A.1.1 = 0 := by
    have : ∀ m, sumB (hb 0) A.2.1 m = 0 := by
      intro m
      induction m with
      | zero => rfl
      | succ m ih => unfold sumB; rw [ih, hb_0]; rfl
    exact this _
  have habs : absI (sumB (hb (allI A.1.1)) A.2.1 A.1.1 - 2 * sumB (hb 0) A.2.1 A.1.1) = sumB (hb (allI A.1.1)) A.2.1 A.1.1 := by
    obtain ⟨x, hx, ex⟩ := sum_nI (f := hb (allI A.1.1)) (g := A.2.1) (S := 9) A.1.1 (fun i hi => (hA.1.2.2.1 i (by omega)).1)
    rw [z0, ex, show nI x - 2 * 0 = nI x by simp]
    unfold absI
    rw [if_pos (nI_pos' (by omega))]
  refine OpB.told hA (absI (sumB (hb (allI A.1.1)) A.2.1 A.1.1 - 2 * sumB (hb (efS A.1.1 A.2.1 (2 ^ A.1.1))) A.2.1 A.1.1)) [(efS A.1.1 A.2.1 (2 ^ A.1.1)).toInt64, (sumB (hb (efS A.1.1 A.2.1 (2 ^ A.1.1))) A.2.1 A.1.1).toInt64] (by simp) (fun σ hσ => ?_) (fun σ hσ => ?_)
  · have n1 := hσ.1.n.1
    unfold X8_evens
    rw [every_c N n1, Option.bind_some, stones_c (by omega) hσ.2.1 hA.1, Option.bind_some]
    refine forL (L := fun m i (a : Int32 × Int32) => X8_evens_l22 N (fun v2 v3 σ => X8_evens_j70 N v2 v3 σ) m (sumB (hb (allI A.1.1)) A.2.1 A.1.1) a.1 a.2 (nI i) σ) (m := 2 ^ A.1.1) (I := fun i a => a.1 = efS A.1.1 A.2.1 i ∧ a.2 = absI (sumB (hb (allI A.1.1)) A.2.1 A.1.1 - 2 * sumB (hb a.1) A.2.1 A.1.1)) (o := fun x => ∃ σ', x = some (absI (sumB (hb (allI A.1.1)) A.2.1 A.1.1 - 2 * sumB (hb (efS A.1.1 A.2.1 (2 ^ A.1.1))) A.2.1 A.1.1), σ') ∧ ToC σ' [(efS A.1.1 A.2.1 (2 ^ A.1.1)).toInt64, (sumB (hb (efS A.1.1 A.2.1 (2 ^ A.1.1))) A.2.1 A.1.1).toInt64] ∧ Fr scrC σ σ') ?_ ?_ (2 ^ A.1.1 - 1) N 1 (0, sumB (hb (allI A.1.1)) A.2.1 A.1.1) (by omega) (by omega) ⟨e1.symm, habs.symm⟩
    · intro m i a hi hI
      obtain ⟨b, u⟩ := a
      obtain ⟨i1, i2⟩ := hI
      dsimp only at i1 i2 ⊢
      left
      by_cases q : u ≤ absI (sumB (hb (allI A.1.1)) A.2.1 A.1.1 - 2 * sumB (hb (nI i)) A.2.1 A.1.1)
      · refine ⟨(b, u), ⟨?_, i2⟩, ?_⟩
        · show b = efS _ _ (i + 1)
          unfold efS
          rw [← i1, ← i2, if_pos q]
        · rw [X8_evens_l22, every_c N n1, Option.bind_some, if_neg (all_nlt _ (by omega) i (by omega) hi), stones_c (by omega) hσ.2.1 hA.1, Option.bind_some, abs_b, Option.bind_some, if_pos q, nI1]
      · refine ⟨(nI i, absI (sumB (hb (allI A.1.1)) A.2.1 A.1.1 - 2 * sumB (hb (nI i)) A.2.1 A.1.1)), ⟨?_, rfl⟩, ?_⟩
        · show nI i = efS _ _ (i + 1)
          unfold efS
          rw [← i1, ← i2, if_neg q]
        · rw [X8_evens_l22, every_c N n1, Option.bind_some, if_neg (all_nlt _ (by omega) i (by omega) hi), stones_c (by omega) hσ.2.1 hA.1, Option.bind_some, abs_b, Option.bind_some, if_neg q, nI1]
    · intro m a hI
      obtain ⟨b, u⟩ := a
      obtain ⟨i1, i2⟩ := hI
      dsimp only at i1 i2 ⊢
      subst i1
      subst i2
      obtain ⟨σ2, g1, g2, g3⟩ := tell2_c N (efS A.1.1 A.2.1 (2 ^ A.1.1)).toInt64 (sumB (hb (efS A.1.1 A.2.1 (2 ^ A.1.1))) A.2.1 A.1.1).toInt64 σ
      refine ⟨σ2, ?_, g2, g3.mono (by decide)⟩
      rw [X8_evens_l22, every_c N n1, Option.bind_some, if_pos (all_lt _ (by omega)), X8_evens_j70, stones_c (by omega) hσ.2.1 hA.1, Option.bind_some, g1]
      rfl
  · have f0 := thrown_f σ 0
    have c1 := hσ.1.fr f0 (by decide)
    have r0' : rR (wi σ 149 0 0) 153 = A.2.1 := (rR_congr (f0.r (by simp [pl]))).trans hσ.2.1
    unfold X9_evens
    simp only [bnS]
    rw [all_r N c1.1, Option.bind_some, sumOf_0 (by omega) 153 _ c1.1 h8, Option.bind_some, r0']
    refine forL (L := fun m i a => X9_evens_l23 N (fun v1 v2 σ => X9_evens_j80 N v1 v2 σ) m (sumB (hb (allI A.1.1)) A.2.1 A.1.1) a (nI i) (wi σ 149 0 0)) (m := 2 ^ A.1.1) (I := fun i a => a = efS A.1.1 A.2.1 i) (o := fun x => ∃ σ', x = some (absI (sumB (hb (allI A.1.1)) A.2.1 A.1.1 - 2 * sumB (hb (efS A.1.1 A.2.1 (2 ^ A.1.1))) A.2.1 A.1.1), σ') ∧ ToR σ' [(efS A.1.1 A.2.1 (2 ^ A.1.1)).toInt64, (sumB (hb (efS A.1.1 A.2.1 (2 ^ A.1.1))) A.2.1 A.1.1).toInt64] ∧ Fr scrR σ σ') ?_ ?_ (2 ^ A.1.1 - 1) N 1 0 (by omega) (by omega) e1.symm
    · intro m i a hi ha
      subst ha
      left
      refine ⟨_, rfl, ?_⟩
      rw [X9_evens_l23, all_r N c1.1, Option.bind_some, if_neg (all_nlt _ (by omega) i (by omega) hi), sumOf_0 (by omega) 153 _ c1.1 h8, Option.bind_some, abs_b, Option.bind_some, sumOf_0 (by omega) 153 _ c1.1 h8, Option.bind_some, abs_b, Option.bind_some, r0', nI1]
      show _ = X9_evens_l23 N _ m _ (if _ then _ else _) _ _
      by_cases q : absI (sumB (hb (allI A.1.1)) A.2.1 A.1.1 - 2 * sumB (hb (efS A.1.1 A.2.1 i)) A.2.1 A.1.1) ≤ absI (sumB (hb (allI A.1.1)) A.2.1 A.1.1 - 2 * sumB (hb (nI i)) A.2.1 A.1.1)
      · rw [if_pos q, if_pos q]
      · rw [if_neg q, if_neg q]
    · intro m a ha
      subst ha
      rw [X9_evens_l23, all_r N c1.1, Option.bind_some, if_pos (all_lt _ (by omega)), X9_evens_j80]
      have tf := told0_f (wi σ 149 0 0)
      obtain ⟨σ2, g1, g2, g3⟩ := enters_r N (told0_r (wi σ 149 0 0)) (by decide) (efS A.1.1 A.2.1 (2 ^ A.1.1)).toInt64
      obtain ⟨σ3, i1, i2, i3⟩ := enters_r N g2 (by simp) (sumB (hb (efS A.1.1 A.2.1 (2 ^ A.1.1))) A.2.1 A.1.1).toInt64
      have n2 : gi σ2 149 3 = nI A.1.1 := ((tf.trans g3).g (k := 149) (j := 3) (by decide)).trans c1.1
      have r2 : rR σ2 153 = A.2.1 := (rR_congr ((tf.trans g3).r (by simp [pl]))).trans r0'
      have n3 : gi σ3 149 3 = nI A.1.1 := (i3.g (k := 149) (j := 3) (by decide)).trans n2
      have r3 : rR σ3 153 = A.2.1 := (rR_congr (i3.r (by simp [pl]))).trans r2
      refine ⟨σ3, ?_, i2, (((f0.mono (by decide)).trans (tf.mono (by decide))).trans (g3.mono (by decide))).trans (i3.mono (by decide))⟩
      simp only [bnS]
      rw [g1, Option.bind_some, sumOf_0 (by omega) 153 _ n2 h8, Option.bind_some, r2, i1, Option.bind_some, sumOf_0 (by omega) 153 _ n3 h8, Option.bind_some, r3, abs_b]
      rfl
