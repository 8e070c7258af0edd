/-! ===== least, order ===== -/
def lsP (L : Ld) (r : Nat → Int32) (v : Int32) (k : Nat) : Bool := isF r k && hb (floatS L r) k && !decide (bun r k &&& v = 0)
def lsG (L : Ld) (r : Nat → Int32) (k : Nat) (s : Int32 × Int32 × Int32) : Int32 × Int32 × Int32 := (s.1 - exS L r (bun r k), s.2.1 + 1, s.2.2 ||| bun r k)
theorem least_op {N : Nat} (hN : 555 < N) {H : Nat} {A : Ab} (hA : OkA H A) (hH : H < 1000000) (v : Int32) : OpB (X8_least N v) (X9_least N v) H A := by
  have h8 := hA.1.1.2.2.2.2
  have hW := hA.1.1
  by_cases h : v &&& (allI A.1.1 ^^^ (-1)) = 0
  · obtain ⟨v1, v2⟩ := (within_n h8 v).mp h
    by_cases h2 : v &&& A.2.1 32 = 0
    · refine OpB.told hA (foldF (lsP A.1 A.2.1 v) (lsG A.1 A.2.1) A.1.1 (0, 0, 0)).1 [(foldF (lsP A.1 A.2.1 v) (lsG A.1 A.2.1) A.1.1 (0, 0, 0)).2.1.toInt64, (foldF (lsP A.1 A.2.1 v) (lsG A.1 A.2.1) A.1.1 (0, 0, 0)).2.2.toInt64] (by simp) (fun σ hσ => ?_) (fun σ hσ => ?_)
      · obtain ⟨k2, σ1, m2, m3, e1, e2, e3, e4⟩ := float19 (N := N) (by omega) hσ hA hH
        have r1 : rC σ1 19 = A.2.1 := (e4.row19 (by decide)).trans hσ.2.1
        have hc := cntB_le (isF A.2.1) A.1.1
        obtain ⟨σ2, g1, g2, g3⟩ := tell2_c N (foldF (lsP A.1 A.2.1 v) (lsG A.1 A.2.1) A.1.1 (0, 0, 0)).2.1.toInt64 (foldF (lsP A.1 A.2.1 v) (lsG A.1 A.2.1) A.1.1 (0, 0, 0)).2.2.toInt64 σ1
        refine ⟨σ2, ?_, g2, (e4.mono (by decide)).trans (g3.mono (by decide))⟩
        unfold X8_least
        rw [every_c N hσ.1.n.1, Option.bind_some, if_pos h, show gi σ 19 4 = A.2.1 32 from congrFun hσ.2.1 32, if_pos h2, m2, m3, if_pos rfl, e1, Option.bind_some]
        refine forB (L := fun m b (a : Int32 × Int32 × Int32) => X8_least_l61 N (fun v3 v4 v5 σ => X8_least_j131 N v3 v4 v5 σ) m v (floatS A.1 A.2.1) a.1 a.2.1 a.2.2 (nI b) σ1) (isF A.2.1) (fun k a => if bun A.2.1 k &&& v = 0 then a else if bun A.2.1 k &&& floatS A.1 A.2.1 = 0 then a else lsG A.1 A.2.1 k a) (n := A.1.1) (a0 := (0, 0, 0)) (o := fun x => x = some ((foldF (lsP A.1 A.2.1 v) (lsG A.1 A.2.1) A.1.1 (0, 0, 0)).1, σ2)) (by omega) ?_ ?_
        · intro m k hk2 hkF
          have hlt := cntB_lt_of hk2 hkF
          generalize foldF (isF A.2.1) (fun k a => if bun A.2.1 k &&& v = 0 then a else if bun A.2.1 k &&& floatS A.1 A.2.1 = 0 then a else lsG A.1 A.2.1 k a) k (0, 0, 0) = st
          rw [X8_least_l61, e3.1, if_neg (n_le hlt (by omega)), inbI (show cntB (isF A.2.1) k < 8 by omega) (by omega), clI (by omega), e3.2 k hk2 hkF, nI1]
          simp only [if_true]
          by_cases q : bun A.2.1 k &&& v = 0
          · rw [if_pos q, if_pos q]
          · rw [if_neg q, if_neg q]
            by_cases q2 : bun A.2.1 k &&& floatS A.1 A.2.1 = 0
            · rw [if_pos q2, if_pos q2]
            · rw [if_neg q2, if_neg q2, excess_s (by omega) h8 r1 e2 (bun_out hW hk2), Option.bind_some]
              rfl
        · intro m
          have e : foldF (isF A.2.1) (fun k a => if bun A.2.1 k &&& v = 0 then a else if bun A.2.1 k &&& floatS A.1 A.2.1 = 0 then a else lsG A.1 A.2.1 k a) A.1.1 (0, 0, 0) = foldF (lsP A.1 A.2.1 v) (lsG A.1 A.2.1) A.1.1 (0, 0, 0) := by
            apply foldF_congr
            intro k hk a
            unfold lsP
            cases hF : isF A.2.1 k
            · rfl
            · rw [if_pos rfl, Int32.and_comm (bun A.2.1 k) (floatS A.1 A.2.1)]
              by_cases q : bun A.2.1 k &&& v = 0
              · rw [if_pos q, decide_eq_true q]; simp
              · rw [if_neg q, decide_eq_false q]
                by_cases q2 : floatS A.1 A.2.1 &&& bun A.2.1 k = 0
                · rw [if_pos q2, (float_bun hW hk hF).mp q2]; rfl
                · rw [if_neg q2]
                  have : hb (floatS A.1 A.2.1) k = true := by
                    cases hx : hb (floatS A.1 A.2.1) k
                    · exact absurd ((float_bun hW hk hF).mpr hx) q2
                    · rfl
                  rw [this]; rfl
          rw [e, X8_least_l61, e3.1, if_pos (nI_le (Nat.le_refl _) (by omega)), X8_least_j131, g1]
          rfl
      · have f0 := thrown_f σ 0
        have c1 := hσ.1.fr f0 (by decide)
        have r0' : rR (wi σ 149 0 0) 153 = A.2.1 := (rR_congr (f0.r (by simp [pl]))).trans hσ.2.1
        obtain ⟨σ1, e1, e2⟩ := float153 (N := N) (by omega) c1 r0' hA hH
        obtain ⟨h36, hh, e36⟩ := hA.1.h36
        unfold X9_least
        simp only [bnS]
        rw [all_r N c1.1, Option.bind_some, in11 N (hi := allI A.1.1) rfl v1 v2, Option.bind_some, if_neg oneF, if_pos i37_32, cl32, show gi (wi σ 149 0 0) 153 32 = A.2.1 32 from congrFun r0' 32, if_pos h2, firstOnes_r (by omega) c1.1 r0' hW, Option.bind_some, e1, Option.bind_some, mkB_and h8]
        refine forL0 (L := fun m i (a : (Int32 × Int32 × Int32) × Sg) => X9_least_l65 N (fun v3 v4 v5 σ => X9_least_j168 N v3 v4 v5 σ) m v (mkB (fun k => isF A.2.1 k && hb (floatS A.1 A.2.1) k) A.1.1) a.1.1 a.1.2.1 a.1.2.2 (nI i) a.2) (m := A.1.1) (a := ((0, 0, 0), σ1)) (fun i a => a.1 = foldF (lsP A.1 A.2.1 v) (lsG A.1 A.2.1) i (0, 0, 0) ∧ Fr [159, 160] (wi σ 149 0 0) a.2) (o := fun x => ∃ σ', x = some ((foldF (lsP A.1 A.2.1 v) (lsG A.1 A.2.1) A.1.1 (0, 0, 0)).1, σ') ∧ ToR σ' [(foldF (lsP A.1 A.2.1 v) (lsG A.1 A.2.1) A.1.1 (0, 0, 0)).2.1.toInt64, (foldF (lsP A.1 A.2.1 v) (lsG A.1 A.2.1) A.1.1 (0, 0, 0)).2.2.toInt64] ∧ Fr scrR σ σ') (by omega) ⟨rfl, e2⟩ ?_ ?_
        · intro m i a hi hI
          obtain ⟨st, τ⟩ := a
          obtain ⟨i1, i2⟩ := hI
          dsimp only at i1 i2 ⊢
          left
          have Lt := c1.fr i2 (by decide)
          have rt : rR τ 153 = A.2.1 := (rR_congr (i2.r (by simp [pl]))).trans r0'
          have hst : foldF (lsP A.1 A.2.1 v) (lsG A.1 A.2.1) (i + 1) (0, 0, 0) = if lsP A.1 A.2.1 v i then lsG A.1 A.2.1 i st else st := by rw [i1]; rfl
          have hbit : hb (mkB (fun k => isF A.2.1 k && hb (floatS A.1 A.2.1) k) A.1.1) i = (isF A.2.1 i && hb (floatS A.1 A.2.1) i) := by rw [hb_n _ h8, decide_eq_true hi]; rfl
          have fl0 : ∀ τ', X9_flag N 0 τ' = some 0 := fun _ => rfl
          have fl1 : ∀ τ', X9_flag N 1 τ' = some 1 := fun _ => rfl
          by_cases q : (isF A.2.1 i && hb (floatS A.1 A.2.1) i) = true
          · have hgi : hb (A.2.1 32) i = false := by
              rw [Bool.and_eq_true] at q
              exact (isF_iff.mp q.1).1
            by_cases q2 : bun A.2.1 i &&& v = 0
            · refine ⟨(st, τ), ⟨?_, i2⟩, ?_⟩
              · dsimp only
                rw [hst]
                unfold lsP
                rw [q, decide_eq_true q2]; rfl
              · rw [X9_least_l65, Lt.1, if_neg (n_le hi (by omega)), has_t N (by omega) (hbit.trans q), Option.bind_some, if_neg oneF, bundle_r (by omega) Lt.1 (by rw [rt]; exact hW) hi, Option.bind_some, rt, if_neg (by rw [hgi]; simp), X9_least_j97, if_pos q2, X9_least_j111, if_pos rfl, X9_least_j134, fl0, Option.bind_some, if_pos rfl, nI1]
                simp
            · obtain ⟨σ3, u1, u2⟩ := above_r (N := N) (by omega) (Or.inl rfl : (153 : Nat) = 153 ∨ (153 : Nat) = 154) Lt (show h36 < 2147483648 by omega) (by rw [rt]; exact e36) (bun A.2.1 i)
              rw [rt] at u1
              refine ⟨(lsG A.1 A.2.1 i st, σ3), ⟨?_, i2.trans u2⟩, ?_⟩
              · dsimp only
                rw [hst]
                unfold lsP
                rw [q, decide_eq_false q2]; rfl
              · rw [X9_least_l65, Lt.1, if_neg (n_le hi (by omega)), has_t N (by omega) (hbit.trans q), Option.bind_some, if_neg oneF, bundle_r (by omega) Lt.1 (by rw [rt]; exact hW) hi, Option.bind_some, rt, if_neg (by rw [hgi]; simp), X9_least_j97, if_neg q2, X9_least_j111, if_neg oneF, u1, Option.bind_some, X9_least_j134, fl1, Option.bind_some, if_neg oneF, nI1]
                unfold lsG
                rw [Int32.sub_eq_add_neg]
          · have q' : (isF A.2.1 i && hb (floatS A.1 A.2.1) i) = false := by simpa using q
            refine ⟨(st, τ), ⟨?_, i2⟩, ?_⟩
            · dsimp only
              rw [hst]
              unfold lsP
              rw [q']; rfl
            · rw [X9_least_l65, Lt.1, if_neg (n_le hi (by omega)), has_f N (by omega) (hbit.trans q'), Option.bind_some, if_pos rfl, X9_least_j97, if_pos (by simp), X9_least_j111, if_pos rfl, X9_least_j134, fl0, Option.bind_some, if_pos rfl, nI1]
              simp
        · intro m a hI
          obtain ⟨st, τ⟩ := a
          obtain ⟨i1, i2⟩ := hI
          dsimp only at i1 i2 ⊢
          subst i1
          have tf := told0_f τ
          obtain ⟨σ4, g1, g2, g3⟩ := enters_r N (told0_r τ) (by decide) (foldF (lsP A.1 A.2.1 v) (lsG A.1 A.2.1) A.1.1 (0, 0, 0)).2.1.toInt64
          obtain ⟨σ5, j1, j2, j3⟩ := enters_r N g2 (by simp) (foldF (lsP A.1 A.2.1 v) (lsG A.1 A.2.1) A.1.1 (0, 0, 0)).2.2.toInt64
          refine ⟨σ5, ?_, j2, ((f0.mono (by decide)).trans (i2.mono (by decide))).trans (((tf.trans g3).trans j3).mono (by decide))⟩
          rw [X9_least_l65, (c1.fr i2 (by decide)).1, if_pos (nI_le (Nat.le_refl _) (by omega)), X9_least_j168]
          simp only [bnS]
          rw [g1, Option.bind_some, j1]
          rfl
    · refine OpB.no hA (-2) (fun σ hσ => ?_) (fun σ hσ => ?_)
      · unfold X8_least
        rw [every_c N hσ.1.n.1, Option.bind_some, if_pos h, show gi σ 19 4 = A.2.1 32 from congrFun hσ.2.1 32, if_neg h2]
      · have f0 := thrown_f σ 0
        have c1 := hσ.1.fr f0 (by decide)
        have r0' : rR (wi σ 149 0 0) 153 = A.2.1 := (rR_congr (f0.r (by simp [pl]))).trans hσ.2.1
        unfold X9_least
        simp only [bnS]
        rw [all_r N c1.1, Option.bind_some, in11 N (hi := allI A.1.1) rfl v1 v2, Option.bind_some, if_neg oneF, if_pos i37_32, cl32, show gi (wi σ 149 0 0) 153 32 = A.2.1 32 from congrFun r0' 32, if_neg h2]
  · refine OpB.no hA (-1) (fun σ hσ => ?_) (fun σ hσ => ?_)
    · unfold X8_least
      rw [every_c N hσ.1.n.1, Option.bind_some, if_neg h]
    · have c1 := hσ.1.fr (thrown_f σ 0) (by decide)
      have : v < 0 ∨ allI A.1.1 < v := by
        by_cases z : v < 0
        · exact Or.inl z
        · right
          apply Int32.not_le.mp
          intro y
          exact h ((within_n h8 v).mpr ⟨z, y⟩)
      unfold X9_least
      simp only [bnS]
      rw [all_r N c1.1, Option.bind_some, in01 N (hi := allI A.1.1) rfl this, Option.bind_some, if_pos rfl]
