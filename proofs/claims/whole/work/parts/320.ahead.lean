/-! ===== ahead, owes, gone, spare ===== -/
def listS (r : Nat → Int32) (n : Nat) : List Int64 := (List.range n).map (fun i => (r i).toInt64)
theorem listS_len (r : Nat → Int32) (n : Nat) : (listS r n).length = n := by unfold listS; simp
theorem listS_s (r : Nat → Int32) (n : Nat) : listS r (n + 1) = listS r n ++ [(r n).toInt64] := by unfold listS; rw [List.range_succ, List.map_append]; rfl
theorem sum_all {n : Nat} (h8 : n ≤ 8) (g : Nat → Int32) : sumB (hb (allI n)) g n = sumB (fun _ => true) g n := sumB_congr n (fun i hi => by rw [hb_allI n (by omega) i (by omega)]; exact decide_eq_true hi) (fun _ _ _ => rfl)
theorem all_r (N : Nat) {σ : Sg} {n : Nat} (hn : gi σ 149 3 = nI n) : X9_all N σ = some (allI n) := by unfold X9_all; rw [hn]; rfl
theorem ahead_op {N : Nat} (hN : 555 < N) {H : Nat} {A : Ab} (hA : OkA H A) (hH : H < 1000000) (v : Int32) : OpB (X8_ahead N v) (X9_ahead N v) H A := by
  have h8 := hA.1.1.2.2.2.2
  rcases upto 99 (by omega) v with ⟨q, hq, rfl⟩ | h
  · refine OpB.told hA (sumB (fun _ => true) (hrS A.1 A.2.1 q) A.1.1) (listS (hrS A.1 A.2.1 q) A.1.1) (by rw [listS_len]; omega) (fun σ hσ => ?_) (fun σ hσ => ?_)
    · obtain ⟨σ1, e1, e2, e3⟩ := foresee_c (N := N) (by omega) hσ hA hH hq
      obtain ⟨σ2, g1, g2, g3⟩ := tclear_c N σ1
      have n2 : gi σ2 5 1 = nI A.1.1 := ((e3.mono (l' := scrC) (by decide)).trans (g3.mono (by decide))).g (k := 5) (j := 1) (by decide) |>.trans hσ.1.n.1
      unfold X8_ahead
      rw [if_neg (nI_pos (by omega)), if_pos (show nI q ≤ 99 from nI_le (b := 99) hq (by decide)), e1, Option.bind_some, g1, Option.bind_some]
      refine forL0 (L := fun m i (a : Int32 × Sg) => X8_ahead_l28 N m a.1 (nI i) a.2) (m := A.1.1) (a := (0, σ2)) (fun i a => a.1 = sumB (fun _ => true) (hrS A.1 A.2.1 q) i ∧ ToC a.2 (listS (hrS A.1 A.2.1 q) i) ∧ Fr [3, 4] σ1 a.2) (o := fun x => ∃ σ', x = some (sumB (fun _ => true) (hrS A.1 A.2.1 q) A.1.1, σ') ∧ ToC σ' (listS (hrS A.1 A.2.1 q) A.1.1) ∧ Fr scrC σ σ') (by omega) ⟨rfl, g2, g3⟩ ?_ ?_
      · intro m i a hi hI
        obtain ⟨v, τ⟩ := a
        obtain ⟨i1, i2, i3⟩ := hI
        dsimp only at i1 i2 i3 ⊢
        left
        have es : ∀ a, Fr [3, 4] σ1 a → gi a 25 i = hrS A.1 A.2.1 q i := fun a f => by rw [f.g (k := 25) (by simp [pl]), ← e2, rC_s (show i < 8 by omega)]
        obtain ⟨σ3, a1, a2, a3⟩ := tadd_c N i2 (by rw [listS_len]; omega) (hrS A.1 A.2.1 q i).toInt64
        refine ⟨(v + hrS A.1 A.2.1 q i, σ3), ⟨?_, by rw [listS_s]; exact a2, i3.trans a3⟩, ?_⟩
        · show v + _ = sumB _ _ i + _; rw [i1]; rfl
        · rw [X8_ahead_l28, (i3.g (k := 5) (j := 1) (by decide)).trans ((g3.g (k := 5) (j := 1) (by decide)).symm.trans n2), if_neg (n_le hi (by omega)), inbI (show i < 8 by omega) (by omega), clI (by omega), es τ i3, a1, if_pos rfl, Option.bind_some, es σ3 (i3.trans a3), if_pos rfl, nI1]
      · intro m a hI
        obtain ⟨v, τ⟩ := a
        obtain ⟨i1, i2, i3⟩ := hI
        dsimp only at i1 i2 i3 ⊢
        refine ⟨τ, ?_, i2, (e3.mono (by decide)).trans (i3.mono (by decide))⟩
        rw [X8_ahead_l28, (i3.g (k := 5) (j := 1) (by decide)).trans ((g3.g (k := 5) (j := 1) (by decide)).symm.trans n2), if_pos (nI_le (Nat.le_refl _) (by omega)), i1]
    · have f0 := thrown_f σ 0
      have c1 := hσ.1.fr f0 (by decide)
      obtain ⟨σ1, σ2, e1, e2, e3, e4⟩ := foresee_r (N := N) (A := A) (by omega) c1 ((rR_congr (f0.r (by simp [pl]))).trans hσ.2.1) hA hH hq
      have tf := told0_f σ2
      have n2 : gi σ2 149 3 = nI A.1.1 := (e4.g (k := 149) (j := 3) (by decide)).trans c1.1
      unfold X9_ahead
      simp only [bnS]
      rw [in11 N (hi := 99) (h64 := 99) rfl (nI_pos (by omega)) (nI_le (b := 99) hq (by decide)), Option.bind_some, if_neg oneF, e1, Option.bind_some, e2, Option.bind_some]
      refine forL0 (L := fun m i a => X9_ahead_l39 N (fun σ => X9_ahead_j64 N σ) m (nI i) a) (m := A.1.1) (a := wi σ2 149 1 0) (fun i a => ToR a (listS (hrS A.1 A.2.1 q) i) ∧ Fr [3001, 150] σ2 a) (o := fun x => ∃ σ', x = some (sumB (fun _ => true) (hrS A.1 A.2.1 q) A.1.1, σ') ∧ ToR σ' (listS (hrS A.1 A.2.1 q) A.1.1) ∧ Fr scrR σ σ') (by omega) ⟨told0_r σ2, tf⟩ ?_ ?_
      · intro m i a hi hI
        obtain ⟨i2, i3⟩ := hI
        left
        have es : gi a 154 i = hrS A.1 A.2.1 q i := by rw [i3.g (k := 154) (by simp [pl]), ← e3, rR_j (by omega)]
        obtain ⟨σ3, a1, a2, a3⟩ := enters_r N i2 (by rw [listS_len]; omega) (hrS A.1 A.2.1 q i).toInt64
        refine ⟨σ3, ⟨by rw [listS_s]; exact a2, i3.trans a3⟩, ?_⟩
        rw [X9_ahead_l39, (i3.g (k := 149) (j := 3) (by decide)).trans n2, if_neg (n_le hi (by omega)), inbI (show i < 37 by omega) (by omega), clI (by omega), es, a1, if_pos rfl, Option.bind_some, nI1]
      · intro m a hI
        obtain ⟨i2, i3⟩ := hI
        have na := (i3.g (k := 149) (j := 3) (by decide)).trans n2
        refine ⟨a, ?_, i2, ((f0.mono (by decide)).trans (e4.mono (by decide))).trans (i3.mono (by decide))⟩
        rw [X9_ahead_l39, na, if_pos (nI_le (Nat.le_refl _) (by omega)), X9_ahead_j64, all_r N na, Option.bind_some, show (0 : Int32) = nI 0 from rfl, sumOf_b (by omega) 154 0 _ na h8 (by omega), Option.bind_some, sum_all h8, sumB_congr (g' := hrS A.1 A.2.1 q) A.1.1 (fun _ _ => rfl) (fun i hi _ => by rw [Nat.zero_add, i3.g (k := 154) (by simp [pl]), ← e3, rR_j (by omega)])]
  · refine OpB.no hA (-1) (fun σ hσ => ?_) (fun σ hσ => ?_)
    · unfold X8_ahead
      by_cases z : v < 0
      · rw [if_pos z]
      · rw [if_neg z, if_neg (show ¬ v ≤ 99 from fun y => h.elim z (fun u => absurd u (Int32.not_lt.mpr y)))]
    · unfold X9_ahead
      simp only [bnS]
      rw [in01 N (hi := 99) (h64 := 99) rfl h, Option.bind_some, if_pos rfl]
def bestD (r : Nat → Int32) : Nat → Nat
  | 0 => 0
  | i + 1 => if r (16 + i) ≤ r (16 + bestD r i) then bestD r i else i
theorem bestD_lt (r : Nat → Int32) (n : Nat) (h : 0 < n) : bestD r n < n := by
  induction n with
  | zero => omega
  | succ n ih =>
    unfold bestD
    split
    · cases n with
      | zero => unfold bestD; omega
      | succ n => have := ih (by omega); omega
    · omega
theorem bestD_le (r : Nat → Int32) (n : Nat) : bestD r n ≤ n := by
  cases n with
  | zero => exact Nat.le_refl _
  | succ n => exact Nat.le_of_lt (bestD_lt r _ (by omega))
theorem owes_op {N : Nat} (hN : 555 < N) {H : Nat} {A : Ab} (hA : OkA H A) (hH : H < 1000000) (v : Int32) : OpB (X8_owes N v) (X9_owes N v) H A := by
  have h8 := hA.1.1.2.2.2.2
  rcases upto 99 (by omega) v with ⟨q, hq, rfl⟩ | h
  · by_cases hn0 : A.1.1 = 0
    · refine OpB.no hA (-2) (fun σ hσ => ?_) (fun σ hσ => ?_)
      · unfold X8_owes
        rw [if_neg (nI_pos (by omega)), if_pos (show nI q ≤ 99 from nI_le (b := 99) hq (by decide)), hσ.1.n.1, hn0, if_pos nI_0]
      · have c1 := hσ.1.fr (thrown_f σ 0) (by decide)
        unfold X9_owes
        simp only [bnS]
        rw [in11 N (hi := 99) (h64 := 99) rfl (nI_pos (by omega)) (nI_le (b := 99) hq (by decide)), Option.bind_some, if_neg oneF, c1.1, hn0, if_pos nI_0]
    · have hb8 := bestD_lt (hrS A.1 A.2.1 q) A.1.1 (by omega)
      refine OpB.told hA (nI (bestD (hrS A.1 A.2.1 q) A.1.1)) [(hrS A.1 A.2.1 q (16 + bestD (hrS A.1 A.2.1 q) A.1.1)).toInt64, (sumB (fun _ => true) (fun i => hrS A.1 A.2.1 q (16 + i)) A.1.1).toInt64] (by simp) (fun σ hσ => ?_) (fun σ hσ => ?_)
      · obtain ⟨σ1, e1, e2, e3⟩ := foresee_c (N := N) (by omega) hσ hA hH hq
        have n1 : gi σ1 5 1 = nI A.1.1 := (e3.g (k := 5) (j := 1) (by decide)).trans hσ.1.n.1
        have ed : ∀ i, i < 8 → gi σ1 27 i = hrS A.1 A.2.1 q (16 + i) := fun i hi => by rw [← e2, rC_d hi]
        unfold X8_owes
        rw [if_neg (nI_pos (by omega)), if_pos (show nI q ≤ 99 from nI_le (b := 99) hq (by decide)), hσ.1.n.1, if_neg (nI_ne0 (by omega) (by omega)), e1, Option.bind_some]
        refine forL0 (L := fun m i (a : Nat × Int32) => X8_owes_l37 N (fun v2 v3 σ => X8_owes_j93 N v2 v3 σ) m (nI a.1) a.2 (nI i) σ1) (m := A.1.1) (a := (0, 0)) (fun i a => a.1 = bestD (hrS A.1 A.2.1 q) i ∧ a.2 = sumB (fun _ => true) (fun i => hrS A.1 A.2.1 q (16 + i)) i) (o := fun x => ∃ σ', x = some (nI (bestD (hrS A.1 A.2.1 q) A.1.1), σ') ∧ ToC σ' [(hrS A.1 A.2.1 q (16 + bestD (hrS A.1 A.2.1 q) A.1.1)).toInt64, (sumB (fun _ => true) (fun i => hrS A.1 A.2.1 q (16 + i)) A.1.1).toInt64] ∧ Fr scrC σ σ') (by omega) ⟨rfl, rfl⟩ ?_ ?_
        · intro m i a hi hI
          obtain ⟨b, u⟩ := a
          obtain ⟨i1, i2⟩ := hI
          dsimp only at i1 i2 ⊢
          subst i1
          subst i2
          left
          have hbi := bestD_le (hrS A.1 A.2.1 q) i
          refine ⟨(bestD (hrS A.1 A.2.1 q) (i + 1), sumB (fun _ => true) (fun i => hrS A.1 A.2.1 q (16 + i)) i + hrS A.1 A.2.1 q (16 + i)), ⟨rfl, rfl⟩, ?_⟩
          dsimp only
          rw [X8_owes_l37, n1, if_neg (n_le hi (by omega)), inbI (show i < 8 by omega) (by omega), inbI (show bestD (hrS A.1 A.2.1 q) i < 8 by omega) (by omega), clI (show i < 2147483648 by omega), clI (show bestD (hrS A.1 A.2.1 q) i < 2147483648 by omega), ed i (by omega), ed _ (by omega), nI1]
          simp only [if_true]
          show _ = X8_owes_l37 N _ m (nI (if _ then _ else _)) _ _ _
          by_cases z : hrS A.1 A.2.1 q (16 + i) ≤ hrS A.1 A.2.1 q (16 + bestD (hrS A.1 A.2.1 q) i)
          · rw [if_pos z, if_pos z]
          · rw [if_neg z, if_neg z]
        · intro m a hI
          obtain ⟨b, u⟩ := a
          obtain ⟨i1, i2⟩ := hI
          dsimp only at i1 i2 ⊢
          subst i1
          subst i2
          obtain ⟨σ2, g1, g2, g3⟩ := tell2_c N (hrS A.1 A.2.1 q (16 + bestD (hrS A.1 A.2.1 q) A.1.1)).toInt64 (sumB (fun _ => true) (fun i => hrS A.1 A.2.1 q (16 + i)) A.1.1).toInt64 σ1
          refine ⟨σ2, ?_, g2, (e3.mono (by decide)).trans (g3.mono (by decide))⟩
          rw [X8_owes_l37, n1, if_pos (nI_le (Nat.le_refl _) (by omega)), X8_owes_j93, inbI (show bestD (hrS A.1 A.2.1 q) A.1.1 < 8 by omega) (by omega), clI (by omega), ed _ (by omega), g1]
          rfl
      · have f0 := thrown_f σ 0
        have c1 := hσ.1.fr f0 (by decide)
        obtain ⟨σ1, σ2, e1, e2, e3, e4⟩ := foresee_r (N := N) (A := A) (by omega) c1 ((rR_congr (f0.r (by simp [pl]))).trans hσ.2.1) hA hH hq
        have n2 : gi σ2 149 3 = nI A.1.1 := (e4.g (k := 149) (j := 3) (by decide)).trans c1.1
        have ed : ∀ i, i < 8 → gi σ2 154 (16 + i) = hrS A.1 A.2.1 q (16 + i) := fun i hi => by rw [← e3, rR_j (by omega)]
        unfold X9_owes
        simp only [bnS]
        rw [in11 N (hi := 99) (h64 := 99) rfl (nI_pos (by omega)) (nI_le (b := 99) hq (by decide)), Option.bind_some, if_neg oneF, c1.1, if_neg (nI_ne0 (by omega) (by omega)), e1, Option.bind_some, e2, Option.bind_some]
        refine forL (L := fun m i a => X9_owes_l46 N (fun v2 σ => X9_owes_j87 N v2 σ) m (nI a) (nI i) σ2) (m := A.1.1) (I := fun i a => a = bestD (hrS A.1 A.2.1 q) i) (o := fun x => ∃ σ', x = some (nI (bestD (hrS A.1 A.2.1 q) A.1.1), σ') ∧ ToR σ' [(hrS A.1 A.2.1 q (16 + bestD (hrS A.1 A.2.1 q) A.1.1)).toInt64, (sumB (fun _ => true) (fun i => hrS A.1 A.2.1 q (16 + i)) A.1.1).toInt64] ∧ Fr scrR σ σ') ?_ ?_ (A.1.1 - 1) N 1 0 (by omega) (by omega) ?_
        · intro m i a hi hI
          subst hI
          left
          have hbi := bestD_le (hrS A.1 A.2.1 q) i
          refine ⟨bestD (hrS A.1 A.2.1 q) (i + 1), rfl, ?_⟩
          rw [X9_owes_l46, n2, if_neg (n_le hi (by omega)), show (16 : Int32) + nI i = nI (16 + i) from nI_add 16 i, show (16 : Int32) + nI (bestD (hrS A.1 A.2.1 q) i) = nI (16 + bestD (hrS A.1 A.2.1 q) i) from nI_add 16 _, inbI (show 16 + i < 37 by omega) (by omega), inbI (show 16 + bestD (hrS A.1 A.2.1 q) i < 37 by omega) (by omega), clI (show 16 + i < 2147483648 by omega), clI (show 16 + bestD (hrS A.1 A.2.1 q) i < 2147483648 by omega), ed i (by omega), ed _ (by omega), nI1]
          simp only [if_true]
          show _ = X9_owes_l46 N _ m (nI (if _ then _ else _)) _ _
          by_cases z : hrS A.1 A.2.1 q (16 + i) ≤ hrS A.1 A.2.1 q (16 + bestD (hrS A.1 A.2.1 q) i)
          · rw [if_pos z, if_pos z]
          · rw [if_neg z, if_neg z]
        · intro m a hI
          subst hI
          have tf := told0_f σ2
          obtain ⟨σ4, g1, g2, g3⟩ := enters_r N (told0_r σ2) (by decide) (hrS A.1 A.2.1 q (16 + bestD (hrS A.1 A.2.1 q) A.1.1)).toInt64
          obtain ⟨σ5, i1, i2, i3⟩ := enters_r N g2 (by simp) (sumB (fun _ => true) (fun i => hrS A.1 A.2.1 q (16 + i)) A.1.1).toInt64
          have n4 : gi σ4 149 3 = nI A.1.1 := ((tf.trans g3).g (k := 149) (j := 3) (by decide)).trans n2
          refine ⟨σ5, ?_, i2, ((f0.mono (by decide)).trans (e4.mono (by decide))).trans (((tf.trans g3).trans i3).mono (by decide))⟩
          rw [X9_owes_l46, n2, if_pos (nI_le (Nat.le_refl _) (by omega)), X9_owes_j87, show (16 : Int32) + nI (bestD (hrS A.1 A.2.1 q) A.1.1) = nI (16 + bestD (hrS A.1 A.2.1 q) A.1.1) from nI_add 16 _, inbI (show 16 + bestD (hrS A.1 A.2.1 q) A.1.1 < 37 by omega) (by omega), clI (by omega)]
          simp only [bnS, if_true]
          rw [tf.g (k := 154) (by simp [pl]), ed _ (by omega), g1, Option.bind_some, all_r N n4, Option.bind_some, show (16 : Int32) = nI 16 from rfl, sumOf_b (by omega) 154 16 _ n4 h8 (by omega), Option.bind_some, sum_all h8, sumB_congr (g' := fun i => hrS A.1 A.2.1 q (16 + i)) A.1.1 (fun _ _ => rfl) (fun i hi _ => by rw [(tf.trans g3).g (k := 154) (by simp [pl]), ed i (by omega)]), i1]
          rfl
        · show 0 = bestD _ 1
          unfold bestD
          unfold bestD
          simp
  · refine OpB.no hA (-1) (fun σ hσ => ?_) (fun σ hσ => ?_)
    · unfold X8_owes
      by_cases z : v < 0
      · rw [if_pos z]
      · rw [if_neg z, if_neg (show ¬ v ≤ 99 from fun y => h.elim z (fun u => absurd u (Int32.not_lt.mpr y)))]
    · unfold X9_owes
      simp only [bnS]
      rw [in01 N (hi := 99) (h64 := 99) rfl h, Option.bind_some, if_pos rfl]
