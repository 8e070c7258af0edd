/-! ===== fits, looks: the reference; both ===== -/
def lkR : List Nat := [154, 159, 160, 172, 3025, 3026]
theorem seen_r {N : Nat} (hN : 100 < N) {σ : Sg} {A : Ab} {H : Nat} (hL : LR σ A.1) (hr : rR σ 153 = A.2.1) (hno : NoR σ A.2.2.2.2.2.2) (hA : OkA H A) (hH : H < 1000000) {x : Nat} (hx : x = 8 ∨ (x < A.1.1 ∧ hb (A.2.1 32) x = false)) :
    ∃ σ', X9_isAsSeen N (nI x) σ = some (if agB A.1 A.2.1 A.2.2.2.2.2.2 x A.2.2.2.2.2.2.length = true then 1 else 0, σ') ∧ (∀ h, h < 21 → gi σ' 172 (21 * x + h) = flx A.1 A.2.1 x h) ∧ (∀ y, y < 21 * x ∨ 21 * x + 21 ≤ y → gi σ' 172 y = gi σ 172 y) ∧ Fr lkR σ σ' := by
  have h8 := hA.1.1.2.2.2.2
  have hx9 : x < 9 := by omega
  have hW1 := ro1_wf hA.1 hx
  have hnote : ∀ y ∈ A.2.2.2.2.2.2, y.1 < 8 ∧ y.2.1 ≤ 20 := fun y hy => by have := hA.2.2.2.2.2.2 y hy; omega
  have hl10 := hA.2.2.2.2.2.1
  obtain ⟨σ1, b1, b2, b3⟩ := copies_r (N := N) (by omega) σ
  rw [hr] at b2
  have f1 : Fr lkR σ σ1 := b3.mono (by decide)
  have t1 : gi σ1 172 = gi σ 172 := b3.r (by simp [pl])
  -- the notes
  have fin : ∀ a, (∀ h, h < 21 → gi a 172 (21 * x + h) = flx A.1 A.2.1 x h) → Fr lkR σ a → X9_isAsSeen_l64 N N (nI x) 1 0 a = some (if agB A.1 A.2.1 A.2.2.2.2.2.2 x A.2.2.2.2.2.2.length = true then 1 else 0, a) := by
    intro a ht hf
    have hn := hno.fr hf (by decide)
    refine forL0 (L := fun m i (b : Bool) => X9_isAsSeen_l64 N m (nI x) (if b = true then 1 else 0) (nI i) a) (m := A.2.2.2.2.2.2.length) (a := true) (fun i b => b = agB A.1 A.2.1 A.2.2.2.2.2.2 x i) (o := fun y => y = some (if agB A.1 A.2.1 A.2.2.2.2.2.2 x A.2.2.2.2.2.2.length = true then 1 else 0, a)) (by omega) rfl ?_ ?_
    · intro m i b hi hI
      subst hI
      left
      refine ⟨_, rfl, ?_⟩
      obtain ⟨w1, w2, w3⟩ := hn.2 i hi
      have hm := hnote _ (getD_mem hi (0, 0, 0))
      show _ = X9_isAsSeen_l64 N m (nI x) (if (agB A.1 A.2.1 A.2.2.2.2.2.2 x i && decide (bitI (flx A.1 A.2.1 x (A.2.2.2.2.2.2.getD i (0, 0, 0)).2.1) (A.2.2.2.2.2.2.getD i (0, 0, 0)).1 = nI (A.2.2.2.2.2.2.getD i (0, 0, 0)).2.2)) = true then 1 else 0) _ a
      rw [X9_isAsSeen_l64, hn.1, if_neg (n_le hi (by omega))]
      cases hb1 : agB A.1 A.2.1 A.2.2.2.2.2.2 x i
      · rw [if_pos (show (if false = true then (1 : Int32) else 0) = 0 from rfl), nI1]
        rfl
      · rw [if_pos rfl, if_neg oneF, inbI (show i < 10 by omega) (by omega), clI (show i < 2147483648 by omega), w1, w2, w3, show X9_place N (nI x) (nI (A.2.2.2.2.2.2.getD i (0, 0, 0)).2.1) a = some (21 * nI x + nI (A.2.2.2.2.2.2.getD i (0, 0, 0)).2.1) from rfl, if_pos rfl, Option.bind_some, show (21 : Int32) * nI x = nI (21 * x) from pk_mul 21 _, nI_add, inbI (show 21 * x + (A.2.2.2.2.2.2.getD i (0, 0, 0)).2.1 < 189 by omega) (by omega), clI (show 21 * x + (A.2.2.2.2.2.2.getD i (0, 0, 0)).2.1 < 2147483648 by omega), if_pos rfl, if_pos rfl, ht _ (by omega), has_b N _ (by omega), Option.bind_some]
        have hfl : ∀ z : Int32, z = 0 ∨ z = 1 → X9_flag N z a = some z := by rintro z (rfl | rfl) <;> rfl
        rw [show (if hb (flx A.1 A.2.1 x (A.2.2.2.2.2.2.getD i (0, 0, 0)).2.1) (A.2.2.2.2.2.2.getD i (0, 0, 0)).1 = true then (1 : Int32) else 0) = bitI (flx A.1 A.2.1 x (A.2.2.2.2.2.2.getD i (0, 0, 0)).2.1) (A.2.2.2.2.2.2.getD i (0, 0, 0)).1 from rfl, hfl _ (by unfold bitI; split <;> simp), Option.bind_some, if_pos rfl]
        by_cases q : bitI (flx A.1 A.2.1 x (A.2.2.2.2.2.2.getD i (0, 0, 0)).2.1) (A.2.2.2.2.2.2.getD i (0, 0, 0)).1 = nI (A.2.2.2.2.2.2.getD i (0, 0, 0)).2.2
        · rw [if_pos q, if_pos (by rw [decide_eq_true q]; rfl), nI1]
        · rw [if_neg q, if_neg (by rw [decide_eq_false q]; simp), nI1]
    · intro m b hI
      subst hI
      rw [X9_isAsSeen_l64, hn.1, if_pos (nI_le (Nat.le_refl _) (by omega))]
      cases agB A.1 A.2.1 A.2.2.2.2.2.2 x A.2.2.2.2.2.2.length <;> rfl
  have key : ∀ σ2, rR σ2 154 = ro1 A.2.1 x → gi σ2 172 = gi σ 172 → Fr lkR σ σ2 → ∃ σ', X9_isAsSeen_l22 N (fun v1 σ => X9_isAsSeen_j60 N v1 σ) N (nI x) 0 σ2 = some (if agB A.1 A.2.1 A.2.2.2.2.2.2 x A.2.2.2.2.2.2.length = true then 1 else 0, σ') ∧ (∀ h, h < 21 → gi σ' 172 (21 * x + h) = flx A.1 A.2.1 x h) ∧ (∀ y, y < 21 * x ∨ 21 * x + 21 ≤ y → gi σ' 172 y = gi σ 172 y) ∧ Fr lkR σ σ' := by
    intro σ2 hr2 h172 hf2
    refine forL0 (L := fun m i a => X9_isAsSeen_l22 N (fun v1 σ => X9_isAsSeen_j60 N v1 σ) m (nI x) (nI i) a) (m := 21) (a := σ2) (fun i a => rR a 154 = hrS A.1 (ro1 A.2.1 x) i ∧ (∀ h, h < i → gi a 172 (21 * x + h) = flx A.1 A.2.1 x h) ∧ (∀ y, y < 21 * x ∨ 21 * x + 21 ≤ y → gi a 172 y = gi σ 172 y) ∧ Fr lkR σ a) (o := fun y => ∃ σ', y = some (if agB A.1 A.2.1 A.2.2.2.2.2.2 x A.2.2.2.2.2.2.length = true then 1 else 0, σ') ∧ (∀ h, h < 21 → gi σ' 172 (21 * x + h) = flx A.1 A.2.1 x h) ∧ (∀ y, y < 21 * x ∨ 21 * x + 21 ≤ y → gi σ' 172 y = gi σ 172 y) ∧ Fr lkR σ σ') (by omega) ⟨hr2, fun h hh => absurd hh (Nat.not_lt_zero _), fun y _ => by rw [h172], hf2⟩ ?_ ?_
    · intro m i a hi hI
      obtain ⟨i1, i2, i3, i4⟩ := hI
      left
      have hWi := hrS_wf (by omega) hW1 i
      obtain ⟨h36, hh, e36⟩ := hWi.h36
      obtain ⟨σ3, e1, e2⟩ := floating_r (N := N) (by omega) (Or.inr rfl : (154 : Nat) = 153 ∨ (154 : Nat) = 154) (hL.fr i4 (by decide)) (show h36 < 2147483648 by omega) (by rw [i1]; exact e36) (by rw [i1]; exact hWi.1)
      rw [i1] at e1
      have fw : Fr [172] σ3 (wi σ3 172 (21 * x + i) (floatS A.1 (hrS A.1 (ro1 A.2.1 x) i))) := (Fr.refl _ _).wi (by simp [pl])
      have f4 : Fr lkR σ (wi σ3 172 (21 * x + i) (floatS A.1 (hrS A.1 (ro1 A.2.1 x) i))) := (i4.trans (e2.mono (by decide))).trans (fw.mono (by decide))
      have r4 : rR (wi σ3 172 (21 * x + i) (floatS A.1 (hrS A.1 (ro1 A.2.1 x) i))) 154 = hrS A.1 (ro1 A.2.1 x) i := by rw [rR_congr (fw.r (by simp [pl])), rR_congr (e2.r (by simp [pl])), i1]
      obtain ⟨σ5, p1, p2, p3, p4, p5⟩ := hourGoes_b (N := N) (by omega) (Or.inr rfl) (hL.fr f4 (by decide)) (S := 10) (H := H + i) (by omega) (by rw [r4]; exact hWi)
      rw [r4] at p2
      have g5 : ∀ y, gi σ5 172 y = gi (wi σ3 172 (21 * x + i) (floatS A.1 (hrS A.1 (ro1 A.2.1 x) i))) 172 y := fun y => p5.g (by simp [pl])
      have g3 : ∀ y, gi σ3 172 y = gi a 172 y := fun y => e2.g (by simp [pl])
      refine ⟨σ5, ⟨p2, fun h hh => ?_, fun y hy => ?_, f4.trans (p5.mono (by decide))⟩, ?_⟩
      · rw [g5, giw]
        by_cases z : h = i
        · rw [if_pos ⟨rfl, by omega⟩, z]; rfl
        · rw [if_neg (by omega), g3]; exact i2 h (by omega)
      · rw [g5, giw, if_neg (by omega), g3]; exact i3 y hy
      · rw [X9_isAsSeen_l22, if_neg (show ¬ (20 : Int32) < nI i from nI_nlt (a := 20) (by omega) (by decide)), show X9_place N (nI x) (nI i) a = some (21 * nI x + nI i) from rfl, Option.bind_some, e1, Option.bind_some, show (21 : Int32) * nI x = nI (21 * x) from pk_mul 21 _, nI_add, inbI (show 21 * x + i < 189 by omega) (by omega), clI (show 21 * x + i < 2147483648 by omega), if_pos rfl]
        simp only [bnS]
        rw [p1, Option.bind_some, nI1]
    · intro m a hI
      obtain ⟨i1, i2, i3, i4⟩ := hI
      refine ⟨a, ?_, i2, i3, i4⟩
      rw [X9_isAsSeen_l22, if_pos (by decide), X9_isAsSeen_j60]
      exact fin a i2 i4
  unfold X9_isAsSeen
  rw [b1, Option.bind_some]
  rcases hx with rfl | ⟨hx, hg⟩
  · rw [if_pos c8']
    exact key σ1 (by rw [b2]; rfl) t1 f1
  · rw [if_neg (c8 (by omega)), inbI (show x < 37 by omega) (by omega), clI (by omega), if_pos rfl, if_pos rfl]
    refine key (wi σ1 154 x (gi σ1 154 x + 1)) ?_ (by rw [gi_wi_ne (by omega)]; exact t1) (f1.wi (by simp [pl, lkR]))
    rw [rR_w (by omega), ← rR_j (k := 154) (show x < 37 by omega), b2]
    unfold ro1
    rw [if_pos (by omega)]
theorem fit_r {N : Nat} (hN : 100 < N) {σ : Sg} {A : Ab} {H : Nat} (hL : LR σ A.1) (hr : rR σ 153 = A.2.1) (hno : NoR σ A.2.2.2.2.2.2) (hA : OkA H A) (hH : H < 1000000) : ∃ σ', X9_fitting N σ = some (mkB (fiP A) A.1.1, σ') ∧ (∀ i, i < A.1.1 → hb (A.2.1 32) i = false → ∀ h, h < 21 → gi σ' 172 (21 * i + h) = flx A.1 A.2.1 i h) ∧ Fr lkR σ σ' := by
  have h8 := hA.1.1.2.2.2.2
  unfold X9_fitting
  refine forL0 (L := fun m i (a : Int32 × Sg) => X9_fitting_l4 N m a.1 (nI i) a.2) (m := A.1.1) (a := (0, σ)) (fun i a => a.1 = mkB (fiP A) i ∧ (∀ j, j < i → hb (A.2.1 32) j = false → ∀ h, h < 21 → gi a.2 172 (21 * j + h) = flx A.1 A.2.1 j h) ∧ Fr lkR σ a.2) (o := fun x => ∃ σ', x = some (mkB (fiP A) A.1.1, σ') ∧ (∀ i, i < A.1.1 → hb (A.2.1 32) i = false → ∀ h, h < 21 → gi σ' 172 (21 * i + h) = flx A.1 A.2.1 i h) ∧ Fr lkR σ σ') (by omega) ⟨rfl, fun j hj => absurd hj (Nat.not_lt_zero _), Fr.refl _ _⟩ ?_ ?_
  · intro m i a hi hI
    obtain ⟨v, τ⟩ := a
    obtain ⟨i1, i2, i3⟩ := hI
    dsimp only at i1 i2 i3 ⊢
    left
    have Lt := hL.fr i3 (by decide)
    have rt : rR τ 153 = A.2.1 := (rR_congr (i3.r (by intro j; simp [pl, lkR]))).trans hr
    have hst : mkB (fiP A) (i + 1) = v ||| (if fiP A i then 1 <<< (nI i &&& 31) else 0) := by rw [i1]; rfl
    by_cases g : hb (A.2.1 32) i = true
    · refine ⟨(v, τ), ⟨?_, fun j hj hg => ?_, i3⟩, ?_⟩
      · dsimp only
        rw [hst]
        unfold fiP
        rw [g]; simp
      · by_cases z : j = i
        · subst z; rw [g] at hg; cases hg
        · exact i2 j (by omega) hg
      · rw [X9_fitting_l4, Lt.1, if_neg (n_le hi (by omega)), isHere_b N Lt.1 h8 hi, Option.bind_some, rt, if_pos g, if_pos rfl, nI1]
        simp
    · have g' : hb (A.2.1 32) i = false := by simpa using g
      obtain ⟨σ3, l1, l2, l3, l4⟩ := seen_r (N := N) hN Lt rt (hno.fr i3 (by decide)) hA hH (x := i) (Or.inr ⟨hi, g'⟩)
      have htab : ∀ j, j < i + 1 → hb (A.2.1 32) j = false → ∀ h, h < 21 → gi σ3 172 (21 * j + h) = flx A.1 A.2.1 j h := by
        intro j hj hg h hh
        by_cases z : j = i
        · subst z; exact l2 h hh
        · rw [l3 _ (Or.inl (by have := Nat.mul_le_mul_left 21 (show j + 1 ≤ i by omega); omega))]
          exact i2 j (by omega) hg h hh
      by_cases q : agB A.1 A.2.1 A.2.2.2.2.2.2 i A.2.2.2.2.2.2.length = true
      · refine ⟨(v ||| (1 <<< (nI i &&& 31)), σ3), ⟨?_, htab, i3.trans l4⟩, ?_⟩
        · dsimp only
          rw [hst]
          unfold fiP
          rw [g', q]; rfl
        · rw [X9_fitting_l4, Lt.1, if_neg (n_le hi (by omega)), isHere_b N Lt.1 h8 hi, Option.bind_some, rt, if_neg g, if_neg oneF, l1, Option.bind_some, if_pos q, if_neg oneF, nI1]
      · refine ⟨(v, σ3), ⟨?_, htab, i3.trans l4⟩, ?_⟩
        · dsimp only
          rw [hst]
          unfold fiP
          rw [g', show agB A.1 A.2.1 A.2.2.2.2.2.2 i A.2.2.2.2.2.2.length = false by simpa using q]; simp
        · rw [X9_fitting_l4, Lt.1, if_neg (n_le hi (by omega)), isHere_b N Lt.1 h8 hi, Option.bind_some, rt, if_neg g, if_neg oneF, l1, Option.bind_some, if_neg q, if_pos rfl, nI1]
          simp
  · intro m a hI
    obtain ⟨v, τ⟩ := a
    obtain ⟨i1, i2, i3⟩ := hI
    dsimp only at i1 i2 i3 ⊢
    refine ⟨τ, ?_, i2, i3⟩
    rw [X9_fitting_l4, (hL.fr i3 (by decide)).1, if_pos (nI_le (Nat.le_refl _) (by omega)), i1]
theorem fits_op {N : Nat} (hN : 555 < N) {H : Nat} {A : Ab} (hA : OkA H A) (hH : H < 1000000) : OpB (X8_fits N) (X9_fits N) H A := by
  have h8 := hA.1.1.2.2.2.2
  have hnote : ∀ y ∈ A.2.2.2.2.2.2, y.1 < 8 ∧ y.2.1 ≤ 20 := fun y hy => by have := hA.2.2.2.2.2.2 y hy; omega
  refine OpB.told hA (mkB (fiP A) A.1.1) [(popI (mkB (fiP A) A.1.1)).toInt64, b64 (agB A.1 A.2.1 A.2.2.2.2.2.2 8 A.2.2.2.2.2.2.length)] (by simp) (fun σ hσ => ?_) (fun σ hσ => ?_)
  · obtain ⟨σ1, a1, a2, a3⟩ := fit_c (N := N) (by omega) hσ hA hH
    have r1 : rC σ1 19 = A.2.1 := (a3.row19 (by decide)).trans hσ.2.1
    obtain ⟨σ2, l1, l2, l3, l4⟩ := look_c (N := N) (by omega) (hσ.1.fr a3 (by decide)) r1 hA.1 hH (x := 8) (Or.inl rfl)
    have f2 : Fr scrC σ σ2 := (a3.mono (by decide)).trans (l4.mono (by decide))
    have ag := agrees_c (N := N) (by omega) (hσ.2.2.2.2.2.2.fr f2 (by decide)) hA.2.2.2.2.2.1 hnote (show 8 < 9 by omega) l3 l2
    obtain ⟨σ3, g1, g2, g3⟩ := tell2_c N (popI (mkB (fiP A) A.1.1)).toInt64 (b64 (agB A.1 A.2.1 A.2.2.2.2.2.2 8 A.2.2.2.2.2.2.length)) σ2
    refine ⟨σ3, ?_, g2, f2.trans (g3.mono (by decide))⟩
    unfold X8_fits
    rw [a1, Option.bind_some, show X7_look N 19 24 8 σ1 = some σ2 from l1, Option.bind_some, bitCount_eq, Option.bind_some, ag, Option.bind_some]
    by_cases q : agB A.1 A.2.1 A.2.2.2.2.2.2 8 A.2.2.2.2.2.2.length = true
    · rw [q] at g1
      rw [if_pos q, if_neg oneF, show (1 : Int64) = b64 true from rfl, g1]
      rfl
    · have q' : agB A.1 A.2.1 A.2.2.2.2.2.2 8 A.2.2.2.2.2.2.length = false := by simpa using q
      rw [q'] at g1
      rw [if_neg q, if_pos rfl, show (0 : Int64) = b64 false from rfl, g1]
      rfl
  · have f0 := thrown_f σ 0
    have c1 := hσ.1.fr f0 (by decide)
    have r0' : rR (wi σ 149 0 0) 153 = A.2.1 := (rR_congr (f0.r (by simp [pl]))).trans hσ.2.1
    have no0 := hσ.2.2.2.2.2.2.fr f0 (by decide)
    obtain ⟨σ1, a1, a2, a3⟩ := fit_r (N := N) (by omega) c1 r0' no0 hA hH
    have tf := told0_f σ1
    obtain ⟨σ4, g1, g2, g3⟩ := enters_r N (told0_r σ1) (by decide) (popI (mkB (fiP A) A.1.1)).toInt64
    have f4 : Fr (lkR ++ [3001, 150]) (wi σ 149 0 0) σ4 := (a3.mono (by decide)).trans ((tf.trans g3).mono (by decide))
    obtain ⟨σ5, l1, l2, l3, l4⟩ := seen_r (N := N) (by omega) (c1.fr f4 (by decide)) ((rR_congr (f4.r (by intro j; simp [pl, lkR]))).trans r0') (no0.fr f4 (by decide)) hA hH (x := 8) (Or.inl rfl)
    obtain ⟨σ6, j1, j2, j3⟩ := enters_r N (g2.fr l4 (by decide)) (by simp) (b64 (agB A.1 A.2.1 A.2.2.2.2.2.2 8 A.2.2.2.2.2.2.length))
    refine ⟨σ6, ?_, j2, (((f0.mono (by decide)).trans (f4.mono (by decide))).trans (l4.mono (by decide))).trans (j3.mono (by decide))⟩
    unfold X9_fits
    simp only [bnS]
    rw [a1, Option.bind_some, bitCount_eq, Option.bind_some, g1, Option.bind_some, show X9_isAsSeen N 8 σ4 = _ from l1, Option.bind_some]
    by_cases q : agB A.1 A.2.1 A.2.2.2.2.2.2 8 A.2.2.2.2.2.2.length = true
    · rw [q] at j1
      rw [if_pos q, show X9_flag N 1 σ5 = some 1 from rfl, Option.bind_some, show ((1 : Int32).toInt64) = b64 true from rfl, j1]
      rfl
    · have q' : agB A.1 A.2.1 A.2.2.2.2.2.2 8 A.2.2.2.2.2.2.length = false := by simpa using q
      rw [q'] at j1
      rw [if_neg q, show X9_flag N 0 σ5 = some 0 from rfl, Option.bind_some, show ((0 : Int32).toInt64) = b64 false from rfl, j1]
      rfl
