/-! ===== gone, spare ===== -/
theorem isGone_t (N k : Nat) {i : Nat} (hi : i < 32) {σ : Sg} (h : hb (gi σ k 4) i = true) : X5_isGone N k (nI i) σ = some 1 := by rw [isGone_b N k hi, if_pos h]
theorem isGone_f (N k : Nat) {i : Nat} (hi : i < 32) {σ : Sg} (h : hb (gi σ k 4) i = false) : X5_isGone N k (nI i) σ = some 0 := by rw [isGone_b N k hi, h]; rfl
theorem sumOf_0 {N : Nat} (hN : 8 < N) (k1 : Nat) (s : Int32) {σ : Sg} {n : Nat} (hn : gi σ 149 3 = nI n) (h8 : n ≤ 8) : X9_sumOf N k1 0 s σ = some (sumB (hb s) (rR σ k1) n) := by
  have := sumOf_b hN k1 0 s hn h8 (by omega)
  rw [show nI 0 = (0 : Int32) from rfl] at this
  rw [this, sumB_congr (g' := rR σ k1) n (fun _ _ => rfl) (fun i hi _ => by rw [Nat.zero_add, rR_j (by omega)])]
theorem gone_op {N : Nat} (hN : 555 < N) {H : Nat} {A : Ab} (hA : OkA H A) (hH : H < 1000000) (a : Int32) : OpB (X8_gone N a) (X9_gone N a) H A := by
  have h8 := hA.1.1.2.2.2.2
  rcases thing_or h8 a with ⟨k, hk, rfl⟩ | hno
  · have hk8 : k < 8 := by omega
    -- both loops, up to an hour e at which it is told
    have key : ∀ (e : Nat) (v : Int32) (l : List Int64), e ≤ 100 → (∀ h, h < e → hb (hrS A.1 A.2.1 h 32) k = false) → l.length ≤ 10 →
        ((e = 100 ∧ v = -2 ∧ l = A.2.2.2.1) ∨ (e < 100 ∧ hb (hrS A.1 A.2.1 e 32) k = true ∧ v = nI e ∧ l = [(popI (hrS A.1 A.2.1 e 32) - 1).toInt64])) → OpB (X8_gone N (nI k)) (X9_gone N (nI k)) H A := by
      intro e v l he hbefore hl hend
      refine OpB.told hA v l hl (fun σ hσ => ?_) (fun σ hσ => ?_)
      · obtain ⟨σ1, e1, e2, e3⟩ := foresee_c (N := N) (by omega) hσ hA hH (q := 0) (by omega)
        unfold X8_gone
        rw [isThing_t N hσ.1.n.1 h8 hk, Option.bind_some, if_neg oneF, show (0 : Int32) = nI 0 from rfl, e1, Option.bind_some]
        refine forL0 (L := fun m i a => X8_gone_l20 N (fun v2 σ => X8_gone_j37 N v2 σ) m (nI k) (nI i) a) (m := e) (a := σ1) (fun i a => rC a 24 = hrS A.1 A.2.1 i ∧ Fr (HK 24) σ a) (o := fun x => ∃ σ', x = some (v, σ') ∧ ToC σ' l ∧ Fr scrC σ σ') (by omega) ⟨e2, e3⟩ ?_ ?_
        · intro m i a hi hI
          obtain ⟨i1, i2⟩ := hI
          left
          obtain ⟨kk, m1, m2, m3⟩ := hσ.1.fr i2 (by decide)
          obtain ⟨σ3, q1, q2, q3⟩ := passHours_c (N := N) (by omega) (Or.inr rfl) m3 m1 (S := 9) (H := H + i) (by omega) (by rw [i1]; exact hrS_wf (by omega) hA.1 i) (q := 1) (by omega) (by omega)
          rw [i1] at q1 q2
          refine ⟨σ3, ⟨q2, i2.trans q3⟩, ?_⟩
          rw [X8_gone_l20, if_neg (show ¬ (99 : Int32) < nI i from nI_nlt (a := 99) (by omega) (by decide)), isGone_f N 24 (by omega) (by rw [show gi a 24 4 = hrS A.1 A.2.1 i 32 from congrFun i1 32]; exact hbefore i hi), Option.bind_some, if_pos rfl, show (1 : Int32) = nI 1 from rfl, q1, Option.bind_some, nI_add]
        · intro m a hI
          obtain ⟨i1, i2⟩ := hI
          rcases hend with ⟨rfl, rfl, rfl⟩ | ⟨z1, z2, rfl, rfl⟩
          · refine ⟨a, ?_, hσ.2.2.2.1.fr i2 (by decide), i2.mono (by decide)⟩
            rw [X8_gone_l20, if_pos (by decide)]
          · obtain ⟨σ2, g1, g2, g3⟩ := tell1_c N (popI (hrS A.1 A.2.1 e 32) - 1).toInt64 a
            refine ⟨σ2, ?_, g2, (i2.mono (by decide)).trans (g3.mono (by decide))⟩
            rw [X8_gone_l20, if_neg (show ¬ (99 : Int32) < nI e from nI_nlt (a := 99) (by omega) (by decide)), isGone_b N 24 (by omega), Option.bind_some, show gi a 24 4 = hrS A.1 A.2.1 e 32 from congrFun i1 32, if_pos z2, if_neg oneF, X8_gone_j37, bitCount_eq, Option.bind_some, show gi a 24 4 = hrS A.1 A.2.1 e 32 from congrFun i1 32, g1]
            rfl
      · have f0 := thrown_f σ 0
        have c1 := hσ.1.fr f0 (by decide)
        obtain ⟨σ1, b1, b2, b3⟩ := copies_r (N := N) (by omega) (wi σ 149 0 0)
        have r1 : rR σ1 154 = A.2.1 := b2.trans ((rR_congr (f0.r (by simp [pl]))).trans hσ.2.1)
        unfold X9_gone
        simp only [bnS]
        rw [isThingR_t N c1.1 h8 hk, Option.bind_some, if_neg oneF, b1, Option.bind_some]
        refine forL0 (L := fun m i a => X9_gone_l21 N (fun v2 σ => X9_gone_j41 N v2 σ) m (nI k) (nI i) a) (m := e) (a := σ1) (fun i a => rR a 154 = hrS A.1 A.2.1 i ∧ Fr (HR' 154) (wi σ 149 0 0) a) (o := fun x => ∃ σ', x = some (v, σ') ∧ ToR σ' l ∧ Fr scrR σ σ') (by omega) ⟨r1, b3.mono (by decide)⟩ ?_ ?_
        · intro m i a hi hI
          obtain ⟨i1, i2⟩ := hI
          left
          obtain ⟨σ3, q1, q2, q3, q4, q5⟩ := hourGoes_b (N := N) (by omega) (Or.inr rfl) (c1.fr i2 (by decide)) (S := 9) (H := H + i) (by omega) (by rw [i1]; exact hrS_wf (by omega) hA.1 i)
          rw [i1] at q2
          refine ⟨σ3, ⟨q2, i2.trans q5⟩, ?_⟩
          rw [X9_gone_l21, if_neg (show ¬ (99 : Int32) < nI i from nI_nlt (a := 99) (by omega) (by decide)), if_pos i37_32, cl32, show gi a 154 32 = hrS A.1 A.2.1 i 32 from congrFun i1 32, has_f N (by omega) (hbefore i hi), Option.bind_some, if_pos rfl, q1, Option.bind_some, nI1]
        · intro m a hI
          obtain ⟨i1, i2⟩ := hI
          rcases hend with ⟨rfl, rfl, rfl⟩ | ⟨z1, z2, rfl, rfl⟩
          · refine ⟨a, ?_, (hσ.2.2.2.1.fr f0 (by decide)).fr i2 (by decide), (f0.mono (by decide)).trans (i2.mono (by decide))⟩
            rw [X9_gone_l21, if_pos (by decide)]
          · have tf := told0_f a
            obtain ⟨σ4, g1, g2, g3⟩ := enters_r N (told0_r a) (by decide) (popI (hrS A.1 A.2.1 e 32) - 1).toInt64
            refine ⟨σ4, ?_, g2, ((f0.mono (by decide)).trans (i2.mono (by decide))).trans ((tf.trans g3).mono (by decide))⟩
            rw [X9_gone_l21, if_neg (show ¬ (99 : Int32) < nI e from nI_nlt (a := 99) (by omega) (by decide)), if_pos i37_32, cl32, show gi a 154 32 = hrS A.1 A.2.1 e 32 from congrFun i1 32, has_t N (by omega) z2, Option.bind_some, if_neg oneF, X9_gone_j41]
            simp only [bnS]
            rw [if_pos i37_32, cl32, bitCount_eq, Option.bind_some, (tf.g (k := 154) (by simp [pl])).trans (congrFun i1 32 : gi a 154 32 = _), g1]
            rfl
    by_cases hx : ∃ h, h < 100 ∧ hb (hrS A.1 A.2.1 h 32) k = true
    · obtain ⟨h, hh, hg⟩ := hx
      obtain ⟨e, q1, q2, q3⟩ := least_of (p := fun h => hb (hrS A.1 A.2.1 h 32) k) h hg
      exact key e (nI e) _ (by omega) (fun j hj => q3 j hj) (by simp) (Or.inr ⟨by omega, q2, rfl, rfl⟩)
    · refine key 100 (-2) A.2.2.2.1 (by omega) (fun h hh => ?_) hA.2.2.1 (Or.inl ⟨rfl, rfl, rfl⟩)
      cases hz : hb (hrS A.1 A.2.1 h 32) k
      · rfl
      · exact absurd ⟨h, hh, hz⟩ hx
  · refine OpB.no hA (-1) (fun σ hσ => ?_) (fun σ hσ => ?_)
    · unfold X8_gone
      rw [isThing_f N hσ.1.n.1 hno, Option.bind_some, if_pos rfl]
    · have c1 := hσ.1.fr (thrown_f σ 0) (by decide)
      unfold X9_gone
      simp only [bnS]
      rw [isThingR_f N c1.1 h8 hno, Option.bind_some, if_pos rfl]
theorem RuC.rule {σ : Sg} {L : Ld} (h : RuC σ L) : ∃ k2, gi σ 5 2 = nI k2 ∧ (gi σ 5 2).toNatClampNeg = k2 ∧ isRule k2 = true ∧ LC σ k2 L := by
  obtain ⟨k2, a, b, c⟩ := h
  have hk := c.2.2.2.2.2.2.2.2.2
  exact ⟨k2, a, by rw [a, clI (by omega)], by rcases hk with rfl | rfl <;> decide, c⟩
theorem WF.h36 {n S H : Nat} {r : Nat → Int32} (h : WF n S H r) : ∃ t, t ≤ H ∧ r 36 = nI t := h.2.2.2.2.2.2.2
theorem bun_ne0 {n : Nat} {r : Nat → Int32} (h : WL n r) {k : Nat} (hk : k < 8) : ¬ bun r k = 0 := by
  intro q
  have := (bun_is h hk).1
  rw [q, hb_0] at this; cases this
theorem spare_op {N : Nat} (hN : 555 < N) {H : Nat} {A : Ab} (hA : OkA H A) (hH : H < 1000000) (a : Int32) : OpB (X8_spare N a) (X9_spare N a) H A := by
  have h8 := hA.1.1.2.2.2.2
  have hW := hA.1.1
  obtain ⟨h, hh, e36⟩ := hA.1.h36
  rcases thing_or h8 a with ⟨k, hk, rfl⟩ | hno
  · have hk8 : k < 8 := by omega
    by_cases g : hb (A.2.1 32) k = true
    · refine OpB.no hA (-2) (fun σ hσ => ?_) (fun σ hσ => ?_)
      · unfold X8_spare
        rw [isThing_t N hσ.1.n.1 h8 hk, Option.bind_some, if_neg oneF, isGone_b N 19 (by omega), Option.bind_some, show gi σ 19 4 = A.2.1 32 from congrFun hσ.2.1 32, if_pos g, if_neg oneF]
      · have f0 := thrown_f σ 0
        have c1 := hσ.1.fr f0 (by decide)
        have r0' : rR (wi σ 149 0 0) 153 = A.2.1 := (rR_congr (f0.r (by simp [pl]))).trans hσ.2.1
        unfold X9_spare
        simp only [bnS]
        rw [isThingR_t N c1.1 h8 hk, Option.bind_some, if_neg oneF, bundle_r (by omega) c1.1 (by rw [r0']; exact hW) hk, Option.bind_some, r0', if_pos g, if_pos rfl]
    · refine OpB.told hA (1000 + exS A.1 A.2.1 (bun A.2.1 k)) [(sumB (hb (bun A.2.1 k)) A.2.1 A.1.1).toInt64, (sumB (hb (bun A.2.1 k)) (needS A.1 A.2.1) A.1.1).toInt64] (by simp) (fun σ hσ => ?_) (fun σ hσ => ?_)
      · obtain ⟨k2, m1, m2, m3, m4⟩ := hσ.1.rule
        obtain ⟨σ1, e1, e2, e3⟩ := weigh_b (N := N) (by omega) (Or.inl rfl : (19 : Nat) = 19 ∨ (19 : Nat) = 24) m4 (show h < 2147483648 by omega) (by rw [hσ.2.1]; exact e36)
        have r1 : rC σ1 19 = A.2.1 := (e3.row19 (by decide)).trans hσ.2.1
        rw [hσ.2.1] at e2
        have hbo := bun_out hW hk
        obtain ⟨σ2, g1, g2, g3⟩ := tell2_c N (sumB (hb (bun A.2.1 k)) A.2.1 A.1.1).toInt64 (sumB (hb (bun A.2.1 k)) (needS A.1 A.2.1) A.1.1).toInt64 σ1
        refine ⟨σ2, ?_, g2, (e3.mono (by decide)).trans (g3.mono (by decide))⟩
        have s1 : sumB (hb (bun A.2.1 k)) (gi σ1 (19 + 1)) 8 = sumB (hb (bun A.2.1 k)) A.2.1 A.1.1 := by
          rw [sumB_8 h8 (fun i hi _ hx => by rw [hbo i hi] at hx; cases hx)]
          exact sumB_congr _ (fun _ _ => rfl) (fun i hi _ => by rw [← r1, rC_s (by omega)])
        have s2 : sumB (hb (bun A.2.1 k)) (gi σ1 15) 8 = sumB (hb (bun A.2.1 k)) (needS A.1 A.2.1) A.1.1 := by
          rw [sumB_8 h8 (fun i hi _ hx => by rw [hbo i hi] at hx; cases hx)]
          exact sumB_congr _ (fun _ _ => rfl) (fun i hi _ => e2 i hi)
        unfold X8_spare
        rw [isThing_t N hσ.1.n.1 h8 hk, Option.bind_some, if_neg oneF, isGone_b N 19 (by omega), Option.bind_some, show gi σ 19 4 = A.2.1 32 from congrFun hσ.2.1 32, if_neg g, if_pos rfl, m2, m3, if_pos rfl, e1, Option.bind_some, bundleOf_s (by omega) (by rw [r1]; exact hW) hk8, Option.bind_some, r1, stonesOf_b (by omega), Option.bind_some, needOf_b (by omega), Option.bind_some, s1, s2, g1, Option.bind_some]
        unfold exS
        rw [Int32.sub_eq_add_neg, Int32.sub_eq_add_neg, Int32.add_assoc]
      · have f0 := thrown_f σ 0
        have c1 := hσ.1.fr f0 (by decide)
        have r0' : rR (wi σ 149 0 0) 153 = A.2.1 := (rR_congr (f0.r (by simp [pl]))).trans hσ.2.1
        have tf := told0_f (wi σ 149 0 0)
        have n9 : gi (wi (wi σ 149 0 0) 149 1 0) 149 3 = nI A.1.1 := (tf.g (k := 149) (j := 3) (by decide)).trans c1.1
        have r9 : rR (wi (wi σ 149 0 0) 149 1 0) 153 = A.2.1 := (rR_congr (tf.r (by simp [pl]))).trans r0'
        obtain ⟨σ2, g1, g2, g3⟩ := enters_r N (told0_r (wi σ 149 0 0)) (by decide) (sumB (hb (bun A.2.1 k)) A.2.1 A.1.1).toInt64
        have L2 := (c1.fr tf (by decide)).fr g3 (by decide)
        have r2 : rR σ2 153 = A.2.1 := (rR_congr (g3.r (by simp [pl]))).trans r9
        obtain ⟨σ3, p1, p2⟩ := needOf_r (N := N) (by omega) (Or.inl rfl : (153 : Nat) = 153 ∨ (153 : Nat) = 154) L2 (show h < 2147483648 by omega) (by rw [r2]; exact e36) (bun A.2.1 k)
        rw [r2] at p1
        obtain ⟨σ4, q1, q2, q3⟩ := enters_r N (g2.fr p2 (by decide)) (by simp) (sumB (hb (bun A.2.1 k)) (needS A.1 A.2.1) A.1.1).toInt64
        have L4 := (L2.fr p2 (by decide)).fr q3 (by decide)
        have r4 : rR σ4 153 = A.2.1 := (rR_congr (q3.r (by simp [pl]))).trans ((rR_congr (p2.r (by simp [pl]))).trans r2)
        obtain ⟨σ5, u1, u2⟩ := above_r (N := N) (by omega) (Or.inl rfl : (153 : Nat) = 153 ∨ (153 : Nat) = 154) L4 (show h < 2147483648 by omega) (by rw [r4]; exact e36) (bun A.2.1 k)
        rw [r4] at u1
        refine ⟨σ5, ?_, q2.fr u2 (by decide), (((((f0.mono (by decide)).trans (tf.mono (by decide))).trans (g3.mono (by decide))).trans (p2.mono (by decide))).trans (q3.mono (by decide))).trans (u2.mono (by decide))⟩
        unfold X9_spare
        simp only [bnS]
        rw [isThingR_t N c1.1 h8 hk, Option.bind_some, if_neg oneF, bundle_r (by omega) c1.1 (by rw [r0']; exact hW) hk, Option.bind_some, r0', if_neg g, if_neg (bun_ne0 hW hk8), sumOf_0 (by omega) 153 _ n9 h8, Option.bind_some, r9, g1, Option.bind_some, p1, Option.bind_some, q1, Option.bind_some, u1, Option.bind_some]
  · refine OpB.no hA (-1) (fun σ hσ => ?_) (fun σ hσ => ?_)
    · unfold X8_spare
      rw [isThing_f N hσ.1.n.1 hno, Option.bind_some, if_pos rfl]
    · have c1 := hσ.1.fr (thrown_f σ 0) (by decide)
      unfold X9_spare
      simp only [bnS]
      rw [isThingR_f N c1.1 h8 hno, Option.bind_some, if_pos rfl]
