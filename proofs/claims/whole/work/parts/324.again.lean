/-! ===== again, count ===== -/
theorem gt2 {v : Int32} (h : nI 2 < v) : (3 : Int32) ≤ v := by
  rw [Int32.le_iff_toInt_le]
  have e1 : (3 : Int32).toInt = 3 := by decide
  have e2 : (nI 2).toInt = 2 := by decide
  rw [Int32.lt_iff_toInt_lt, e2] at h
  omega
theorem again_op {N : Nat} (hN : 555 < N) {H : Nat} {A : Ab} (hA : OkA H A) (v : Int32) : OpB (X8_again N v) (X9_again N v) H A := by
  obtain ⟨L, now, t, to, p, s, w⟩ := A
  have hA0 := hA
  obtain ⟨k1, k2, k3, ⟨k4, k4'⟩, k5, k6⟩ := hA
  dsimp only at k1 k2 k3 k4 k4' k5 k6
  rcases upto 2 (by omega) v with ⟨q, hq, rfl⟩ | h
  · cases hs : s q with
    | none =>
      refine OpB.no hA0 0 (fun σ hσ => ?_) (fun σ hσ => ?_)
      · have hbit := (hσ.2.2.2.2.2.1 q (by omega)).1
        dsimp only at hbit
        rw [hs] at hbit
        unfold X8_again X4_fetch
        rw [if_neg (nI_pos (by omega)), if_neg (show ¬ (3 : Int32) ≤ nI q from nI_ge (b := 3) (by omega) (by decide)), if_pos ((hasF _ (by omega)).mpr hbit)]
        rfl
      · obtain ⟨ch, d1, d2, d3⟩ := hσ.2.2.2.2.2.1
        obtain ⟨y1, y2, y3, y4⟩ := d3 q (by omega)
        dsimp only at y1 y2
        rw [hs] at y2
        have e4 : gi (wi σ 149 0 0) 149 4 = nI ch := by rw [giw, if_neg (by omega)]; exact d2
        unfold X9_again
        simp only [bnS]
        rw [in11 N (hi := 2) (h64 := 2) rfl (nI_pos (by omega)) (nI_le (b := 2) hq (by decide)), Option.bind_some, if_neg oneF, inbI (show q < 3 by omega) (by omega), clI (by omega), gi_wi_ne (show (177 : Nat) ≠ 149 by omega), gi_wi_ne (show (178 : Nat) ≠ 149 by omega), e4]
        rcases y1 with z | z
        · rw [z]; rfl
        · have hne : ¬ gi σ 178 q = nI ch := fun y => by have := y2.mpr ⟨z, y⟩; simp at this
          rw [z, if_pos rfl, if_neg oneF, if_pos rfl, if_neg hne]
    | some r =>
      refine ⟨1, (L, r, t, to, [], s, w), ?_, ?_, (k5 q r (by omega) hs).mono (by omega), k2, k3, ⟨by show 0 ≤ 15; omega, fun q hq => by cases hq⟩, fun i r hi hr => (k5 i r hi hr).mono (by omega), k6⟩
      · rintro σ ⟨c1, c2, c3, c4, ⟨x, c5⟩, c6, c7⟩
        dsimp only at c1 c2 c3 c4 c5 c6 c7
        have hbit := (c6 q (by omega)).1
        rw [hs] at hbit
        obtain ⟨σ1, b1, b2, b3⟩ := become_c (N := N) (by omega) (k0 := 19) (k1 := 113 + 5 * q) (by omega) (by omega) σ
        have f1 : Fr [19, 20, 21, 22, 23] σ σ1 := b3
        have f2 : Fr [29] σ1 (wi σ1 29 2 0) := (Fr.refl _ _).wi (by simp [pl])
        have f : Fr [19, 20, 21, 22, 23, 29] σ (wi σ1 29 2 0) := (f1.mono (by decide)).trans (f2.mono (by decide))
        refine ⟨wi σ1 29 2 0, ?_, ⟨c1.fr f (by decide), ?_, c3.fr f (by decide), c4.fr f (by decide), ⟨x, c5.1, ?_, ?_, fun i hi => absurd hi (Nat.not_lt_zero _)⟩, c6.fr f (by decide +kernel), c7.fr f (by decide)⟩, fun B hB => hB.fr f (by decide)⟩
        · unfold X8_again X4_fetch
          rw [if_neg (nI_pos (by omega)), if_neg (show ¬ (3 : Int32) ≤ nI q from nI_ge (b := 3) (by omega) (by decide)), if_neg (fun z => by rw [(hasF _ (by omega)).mp z] at hbit; cases hbit), inbI (show q < 3 by omega) (by omega), clI (by omega), (l112 q (by omega)).1, Option.bind_some, (l112 q (by omega)).2, b1]
          rfl
        · rw [f2.row19 (by decide), b2]; exact (c6 q (by omega)).2 r hs
        · rw [giw, if_neg (by omega), f1.g (by simp [pl])]; exact c5.2.1
        · rw [giw, if_pos ⟨rfl, rfl⟩]; rfl
      · rintro σ ⟨c1, c2, c3, c4, c5, c6, c7⟩
        dsimp only at c1 c2 c3 c4 c5 c6 c7
        have c6' := c6
        obtain ⟨ch, d1, d2, d3⟩ := c6'
        obtain ⟨y1, y2, y3, y4⟩ := d3 q (by omega)
        have y5 := y2.mp (by rw [hs]; rfl)
        have f0 := thrown_f σ 0
        have e4 : gi (wi σ 149 0 0) 149 4 = nI ch := by rw [giw, if_neg (by omega)]; exact d2
        have est : X9_again N (nI q) σ = X9_again_l43 N N (nI q) 0 (wi σ 149 0 0) := by
          unfold X9_again
          simp only [bnS]
          rw [in11 N (hi := 2) (h64 := 2) rfl (nI_pos (by omega)) (nI_le (b := 2) hq (by decide)), Option.bind_some, if_neg oneF, inbI (show q < 3 by omega) (by omega), clI (by omega), gi_wi_ne (show (177 : Nat) ≠ 149 by omega), gi_wi_ne (show (178 : Nat) ≠ 149 by omega), e4, y5.1, y5.2, if_pos rfl, if_neg oneF, if_pos rfl, if_pos rfl]
        rw [est]
        refine forL0 (L := fun m i a => X9_again_l43 N m (nI q) (nI i) a) (m := 37) (a := wi σ 149 0 0) (fun i a => Fr [3000, 153] σ a ∧ ∀ j, j < i → gi a 153 j = gi σ 179 (37 * q + j)) (o := fun x => ∃ σ', x = some (1, σ') ∧ InvR σ' (L, r, t, to, [], s, w) ∧ ∀ B, InvC σ B → InvC σ' B) (by omega) ⟨f0.mono (by decide), fun j hj => absurd hj (Nat.not_lt_zero _)⟩ ?_ ?_
        · intro m i a hi hI
          obtain ⟨g0, g1⟩ := hI
          left
          refine ⟨wi a 153 i (gi σ 179 (37 * q + i)), ⟨g0.wi (by simp [pl]), fun j hj => ?_⟩, ?_⟩
          · rw [giw]
            by_cases z : j = i
            · rw [if_pos ⟨rfl, z⟩, z]
            · rw [if_neg (fun y => z y.2)]; exact g1 j (by omega)
          · rw [X9_again_l43, if_neg (c37 hi), show (37 : Int32) * nI q = nI (37 * q) from pk_mul 37 _, nI_add, inbI hi (by omega), inbI (show 37 * q + i < 111 by omega) (by omega), clI (show i < 2147483648 by omega), clI (by omega), g0.g (k := 179) (by simp [pl]), nI1]
            rfl
        · intro m a hI
          obtain ⟨g0, g1⟩ := hI
          have f : Fr [3000, 153, 3023] σ (wi a 149 23 0) := (g0.mono (l' := [3000, 153, 3023]) (by decide)).wi (by simp [pl])
          refine ⟨wi a 149 23 0, by rw [X9_again_l43, if_pos c37']; rfl, ⟨c1.fr f (by decide), ?_, c3.fr f (by decide), c4.fr f (by decide), ⟨?_, fun i hi => absurd hi (Nat.not_lt_zero _)⟩, c6.fr f (by decide), c7.fr f (by decide)⟩, fun B hB => hB.fr f (by decide +kernel)⟩
          · rw [rR_congr (gi_wi_ne (by omega))]
            dsimp only
            rw [← y4 r hs]
            funext j
            unfold rW rR
            by_cases y : j < 37
            · rw [if_pos y, if_pos y]; exact g1 j y
            · rw [if_neg y, if_neg y]
          · rw [giw, if_pos ⟨rfl, rfl⟩]; rfl
  · refine OpB.no hA0 0 (fun σ _ => ?_) (fun σ _ => ?_)
    · unfold X8_again X4_fetch
      by_cases z : v < 0
      · rw [if_pos z]; rfl
      · rw [if_neg z, if_pos (gt2 (h.resolve_left z))]; rfl
    · unfold X9_again
      simp only [bnS]
      rw [in01 N (hi := 2) (h64 := 2) rfl h, Option.bind_some, if_pos rfl]
theorem count_op {N : Nat} (hN : 555 < N) {H : Nat} {A : Ab} (hA : OkA H A) (hH : H < 1000000) (v : Int32) : OpB (fun σ => (X8_count N v σ).bind fun r => some (r, σ)) (X9_count N v) H A := by
  have h8 := hA.1.1.2.2.2.2
  obtain ⟨h, hh, e36⟩ := hA.1.h36
  have key : ∀ r, (∀ σ, InvC σ A → X8_count N v σ = some r) → (∀ σ, InvR σ A → X9_count N v σ = some (r, wi σ 149 0 0)) → OpB (fun σ => (X8_count N v σ).bind fun r => some (r, σ)) (X9_count N v) H A := fun r h1 h2 => OpB.no hA r (fun σ hσ => by show (X8_count N v σ).bind _ = _; rw [h1 σ hσ]; rfl) h2
  have f0 := fun σ => thrown_f σ 0
  have r9 : ∀ σ, InvR σ A → rR (wi σ 149 0 0) 153 = A.2.1 := fun σ hσ => (rR_congr ((f0 σ).r (by simp [pl]))).trans hσ.2.1
  have n9 : ∀ σ, InvR σ A → gi (wi σ 149 0 0) 149 3 = nI A.1.1 := fun σ hσ => (hσ.1.fr (f0 σ) (by decide)).1
  have g9 : ∀ σ j, j ≠ 0 → gi (wi σ 149 0 0) 149 j = gi σ 149 j := fun σ j hj => by rw [giw, if_neg (fun z => hj z.2)]
  by_cases c0 : v = 0
  · subst c0
    exact key (nI A.1.1) (fun σ hσ => hσ.1.n.1 ▸ rfl) (fun σ hσ => (n9 σ hσ) ▸ rfl)
  by_cases c1 : v = 1
  · subst c1
    refine key (hereS A.1 A.2.1) (fun σ hσ => ?_) (fun σ hσ => ?_)
    · show (X0_present N 19 σ).bind (fun r3 => some r3) = _
      rw [present_c N hσ.1.n.1, hσ.2.1]; rfl
    · show (X9_here N 153 (wi σ 149 0 0)).bind (fun r5 => some (r5, wi σ 149 0 0)) = _
      rw [here_r N (n9 σ hσ), r9 σ hσ]; rfl
  by_cases c2 : v = 2
  · subst c2
    refine key (cntL A.2.1) (fun σ hσ => ?_) (fun σ hσ => ?_)
    · show (X5_stringCount N 19 σ).bind (fun r3 => some r3) = _
      rw [stringCount_s (by omega), hσ.2.1]; rfl
    · show (X9_stringMany N 153 (wi σ 149 0 0)).bind (fun r5 => some (r5, wi σ 149 0 0)) = _
      rw [stringMany_s (by omega) (n9 σ hσ) (by rw [r9 σ hσ]; exact hA.1.1), r9 σ hσ]; rfl
  by_cases c3 : v = 3
  · subst c3
    refine key (A.2.1 33) (fun σ hσ => ?_) (fun σ hσ => ?_)
    · show some (gi σ 19 5) = _
      rw [show gi σ 19 5 = A.2.1 33 from congrFun hσ.2.1 33]
    · show some (gi (wi σ 149 0 0) 153 33, wi σ 149 0 0) = _
      rw [show gi (wi σ 149 0 0) 153 33 = A.2.1 33 from congrFun (r9 σ hσ) 33]
  by_cases c4 : v = 4
  · subst c4
    refine key (A.2.1 34) (fun σ hσ => ?_) (fun σ hσ => ?_)
    · show some (gi σ 19 6) = _
      rw [show gi σ 19 6 = A.2.1 34 from congrFun hσ.2.1 34]
    · show some (gi (wi σ 149 0 0) 153 34, wi σ 149 0 0) = _
      rw [show gi (wi σ 149 0 0) 153 34 = A.2.1 34 from congrFun (r9 σ hσ) 34]
  by_cases c5 : v = 5
  · subst c5
    refine key (A.2.1 35) (fun σ hσ => ?_) (fun σ hσ => ?_)
    · show some (gi σ 19 7) = _
      rw [show gi σ 19 7 = A.2.1 35 from congrFun hσ.2.1 35]
    · show some (gi (wi σ 149 0 0) 153 35, wi σ 149 0 0) = _
      rw [show gi (wi σ 149 0 0) 153 35 = A.2.1 35 from congrFun (r9 σ hσ) 35]
  by_cases c6 : v = 6
  · subst c6
    refine key (A.2.1 36) (fun σ hσ => ?_) (fun σ hσ => ?_)
    · show some (gi σ 19 8) = _
      rw [show gi σ 19 8 = A.2.1 36 from congrFun hσ.2.1 36]
    · show some (gi (wi σ 149 0 0) 153 36, wi σ 149 0 0) = _
      rw [show gi (wi σ 149 0 0) 153 36 = A.2.1 36 from congrFun (r9 σ hσ) 36]
  by_cases c7 : v = 7
  · subst c7
    refine key (A.1.2.2.1 (h % A.1.2.2.2.1)) (fun σ hσ => ?_) (fun σ hσ => ?_)
    · obtain ⟨k2, m1, m2, m3, m4⟩ := hσ.1.rule
      show (X0_windAt N (gi σ 19 8) σ).bind (fun r13 => some r13) = _
      rw [show gi σ 19 8 = nI h from (congrFun hσ.2.1 36).trans e36, windAt_b N (by omega) m4.2.2.2.1 m4.2.2.2.2.1 m4.2.2.2.2.2.1, m4.2.2.2.2.2.2.1 _ (Nat.mod_lt _ m4.2.2.2.2.1)]; rfl
    · have m4 := hσ.1.fr (f0 σ) (by decide)
      show (X9_windOn N (gi (wi σ 149 0 0) 153 36) (wi σ 149 0 0)).bind (fun r20 => some (r20, wi σ 149 0 0)) = _
      rw [show gi (wi σ 149 0 0) 153 36 = nI h from (congrFun (r9 σ hσ) 36).trans e36, windOn_b N (by omega) m4.2.2.2.1 m4.2.2.2.2.1 m4.2.2.2.2.2.1, m4.2.2.2.2.2.2.1 _ (Nat.mod_lt _ m4.2.2.2.2.1)]; rfl
  by_cases c8' : v = 8
  · subst c8'
    refine key (sumB (hb (allI A.1.1)) A.2.1 A.1.1) (fun σ hσ => ?_) (fun σ hσ => ?_)
    · show (X0_everything N σ).bind (fun r16 => (X5_stonesOf N 19 r16 σ).bind (fun r18 => some r18)) = _
      rw [every_c N hσ.1.n.1, Option.bind_some, stones_c (by omega) hσ.2.1 hA.1]; rfl
    · show (X9_all N (wi σ 149 0 0)).bind (fun r23 => (X9_sumOf N 153 0 r23 (wi σ 149 0 0)).bind (fun r25 => some (r25, wi σ 149 0 0))) = _
      rw [all_r N (n9 σ hσ), Option.bind_some, sumOf_0 (by omega) 153 _ (n9 σ hσ) h8, r9 σ hσ]; rfl
  by_cases c9 : v = 9
  · subst c9
    refine key (nI A.2.2.2.2.2.2.length) (fun σ hσ => ?_) (fun σ hσ => ?_)
    · show some (gi σ 128 3) = _
      rw [hσ.2.2.2.2.2.2.1]
    · show some (gi (wi σ 149 0 0) 149 35, wi σ 149 0 0) = _
      rw [g9 σ 35 (by omega), hσ.2.2.2.2.2.2.1]
  by_cases c10 : v = 10
  · subst c10
    refine key (nI A.2.2.2.2.1.length) (fun σ hσ => ?_) (fun σ hσ => ?_)
    · obtain ⟨x, hx⟩ := hσ.2.2.2.2.1
      show some (gi σ 29 2) = _
      rw [hx.2.2.1]
    · show some (gi (wi σ 149 0 0) 149 23, wi σ 149 0 0) = _
      rw [g9 σ 23 (by omega), hσ.2.2.2.2.1.1]
  by_cases c11 : v = 11
  · subst c11
    refine key (nI A.2.2.2.1.length) (fun σ hσ => ?_) (fun σ hσ => ?_)
    · show some (gi σ 3 1) = _
      rw [hσ.2.2.2.1.1]
    · show some (gi (wi σ 149 0 0) 149 1, wi σ 149 0 0) = _
      rw [g9 σ 1 (by omega), hσ.2.2.2.1.1]
  by_cases c12 : v = 12
  · subst c12
    refine key (nI A.2.2.1.length) (fun σ hσ => ?_) (fun σ hσ => ?_)
    · show some (gi σ 1 1) = _
      rw [hσ.2.2.1.1]
    · show some (gi (wi σ 149 0 0) 149 11, wi σ 149 0 0) = _
      rw [g9 σ 11 (by omega), hσ.2.2.1.1]
  refine key (-100) (fun σ hσ => ?_) (fun σ hσ => ?_)
  · unfold X8_count
    rw [if_neg c0, if_neg c1, if_neg c2, if_neg c3, if_neg c4, if_neg c5, if_neg c6, if_neg c7, if_neg c8', if_neg c9, if_neg c10, if_neg c11, if_neg c12]
  · unfold X9_count
    simp only [bnS]
    rw [if_neg c0, if_neg c1, if_neg c2, if_neg c3, if_neg c4, if_neg c5, if_neg c6, if_neg c7, if_neg c8', if_neg c9, if_neg c10, if_neg c11, if_neg c12]
