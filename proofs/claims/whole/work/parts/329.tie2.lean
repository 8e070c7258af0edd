/-! ===== tie ===== -/
abbrev Ts : Type := Option (Nat × Nat × Int32)
def teC (r : Nat → Int32) (a b : Nat) : Bool := !hb (r 32) a && !hb (r 32) b && !hb (r (24 + a)) b
def teM (a b : Nat) (v : Int32) : Ts → Ts
  | none => some (a, b, v)
  | some x => if x.2.2 ≤ v then some x else some (a, b, v)
def teF (L : Ld) (r : Nat → Int32) (a b : Nat) (s : Ts) : Ts := if teC r a b then teM a b (popI (floatS L (togS r a b))) s else s
def te9 (d : Int32) : Ts → Int32
  | none => d
  | some x => x.2.2
def te1 : Ts → Int32
  | none => -1
  | some x => nI x.1
def te2 : Ts → Int32
  | none => -1
  | some x => nI x.2.1
def teL (l : List Int64) (w : Int64) : Ts → List Int64
  | none => l
  | some x => [(nI x.1).toInt64, (nI x.2.1).toInt64, w]
def teO (n : Nat) (s : Ts) : Prop := ∀ x, s = some x → x.1 < n ∧ x.2.1 < n ∧ ∃ u, u ≤ 8 ∧ x.2.2 = nI u
theorem pop_float {L : Ld} (h8 : L.1 ≤ 8) (r : Nat → Int32) : ∃ u, u ≤ 8 ∧ popI (floatS L r) = nI u := by
  refine ⟨cntB (hb (floatS L r)) 8, cntB_le _ _, popI_eq (fun i hi => ?_)⟩
  cases hx : hb (floatS L r) i
  · rfl
  · have := ((hb_floatS h8 i).mp hx).1; omega
theorem teO_step {L : Ld} {r : Nat → Int32} (h8 : L.1 ≤ 8) {a b : Nat} (ha : a < L.1) (hb1 : b < L.1) {s : Ts} (h : teO L.1 s) : teO L.1 (teF L r a b s) := by
  unfold teF
  by_cases q : teC r a b = true
  · rw [if_pos q]
    have hnew : teO L.1 (some (a, b, popI (floatS L (togS r a b)))) := by
      intro x hx
      cases hx
      exact ⟨ha, hb1, pop_float h8 _⟩
    cases s with
    | none => exact hnew
    | some y =>
      unfold teM
      dsimp only
      by_cases z : y.2.2 ≤ popI (floatS L (togS r a b))
      · rw [if_pos z]; exact h
      · rw [if_neg z]; exact hnew
  · rw [if_neg q]; exact h
theorem tie_op {N : Nat} (hN : 555 < N) {H : Nat} {A : Ab} (hA : OkA H A) (hH : H < 1000000) : OpB (X8_tie N) (X9_tie N) H A := by
  have h8 := hA.1.1.2.2.2.2
  have hW := hA.1.1
  have hans : ∀ s : Ts, teO A.1.1 s → (if te9 9 s ≤ 8 then te9 9 s else -2) = te9 (-2) s := by
    intro s hs
    cases s with
    | none => rfl
    | some x =>
      obtain ⟨_, _, u, hu, eu⟩ := hs x rfl
      show (if x.2.2 ≤ 8 then x.2.2 else -2) = x.2.2
      rw [eu, if_pos (show nI u ≤ 8 from nI_le (b := 8) hu (by decide))]
  refine OpB.told hA (te9 (-2) (prS (teF A.1 A.2.1) A.1.1 none A.1.1 (A.1.1 + 1))) (teL A.2.2.2.1 (popI (floatS A.1 A.2.1)).toInt64 (prS (teF A.1 A.2.1) A.1.1 none A.1.1 (A.1.1 + 1))) (by cases prS (teF A.1 A.2.1) A.1.1 none A.1.1 (A.1.1 + 1) with | none => exact hA.2.2.1 | some x => simp [teL]) (fun σ hσ => ?_) (fun σ hσ => ?_)
  · obtain ⟨k2, σ1, m2, m3, e1, e2, e3, e4⟩ := float19 (N := N) (by omega) hσ hA hH
    have r1 : rC σ1 19 = A.2.1 := (e4.row19 (by decide)).trans hσ.2.1
    obtain ⟨σ2, b1, b2, b3⟩ := become_c (N := N) (by omega) (k0 := 24) (k1 := 19) (by omega) (by omega) σ1
    rw [r1] at b2
    have f2 : Fr scrC σ σ2 := (e4.mono (by decide)).trans (b3.mono (by decide))
    unfold X8_tie
    rw [m2, m3, if_pos rfl, e1, Option.bind_some, bitCount_eq, Option.bind_some, b1, Option.bind_some]
    refine pairL (n := A.1.1) (N := N) (Lo := fun m a (s : Ts × Sg) => X8_tie_l38 N (fun v2 σ => X8_tie_j156 N v2 σ) m (popI (floatS A.1 A.2.1)) (te9 9 s.1) (nI a) s.2)
      (Li := fun m a f b s => X8_tie_l54 N (fun v1 v2 v3 σ => X8_tie_j150 N (fun v1 v2 v3 σ => X8_tie_l38 N (fun v2 σ => X8_tie_j156 N v2 σ) m v1 v2 v3 σ) v1 v2 v3 σ) f (popI (floatS A.1 A.2.1)) (te9 9 s.1) (nI a) (nI b) s.2)
      (fun a b s => s.1 = prS (teF A.1 A.2.1) A.1.1 none a b ∧ teO A.1.1 s.1 ∧ ToC s.2 (teL A.2.2.2.1 (popI (floatS A.1 A.2.1)).toInt64 s.1) ∧ rC s.2 24 = A.2.1 ∧ Fr scrC σ s.2) (o := fun x => ∃ σ', x = some (te9 (-2) (prS (teF A.1 A.2.1) A.1.1 none A.1.1 (A.1.1 + 1)), σ') ∧ ToC σ' (teL A.2.2.2.1 (popI (floatS A.1 A.2.1)).toInt64 (prS (teF A.1 A.2.1) A.1.1 none A.1.1 (A.1.1 + 1))) ∧ Fr scrC σ σ') (by omega) ?_ ?_ ?_ ?_ ?_ (s0 := (none, σ2)) ⟨rfl, (fun x hx => by cases hx), (hσ.2.2.2.1.fr e4 (by decide)).fr b3 (by decide), b2, f2⟩
    · rintro m a ⟨s, τ⟩ ha ⟨_, _, _, _, fI⟩
      dsimp only at fI ⊢
      rw [X8_tie_l38, (fI.g (k := 5) (j := 1) (by decide)).trans hσ.1.n.1, if_neg (n_le ha (by omega)), nI1]
    · rintro m a f b ⟨s, τ⟩ ha hb1 hab ⟨i1, i2, i3, i4, i5⟩
      dsimp only at i1 i2 i3 i4 i5 ⊢
      have nt := (i5.g (k := 5) (j := 1) (by decide)).trans hσ.1.n.1
      have rt : rC τ 19 = A.2.1 := (i5.row19 (by decide)).trans hσ.2.1
      have hl : gi τ (19 + 4) a = A.2.1 (24 + a) := by rw [← rC_l (show a < 8 by omega), rt]
      have hg : gi τ 19 4 = A.2.1 32 := congrFun rt 32
      have hnx : prS (teF A.1 A.2.1) A.1.1 none a (b + 1) = teF A.1 A.2.1 a b s := by rw [prS_s _ _ _ hab, i1]
      have ho := teO_step (r := A.2.1) h8 ha hb1 i2
      have skip : teC A.2.1 a b = false → X8_tie_l54 N (fun v1 v2 v3 σ => X8_tie_j150 N (fun v1 v2 v3 σ => X8_tie_l38 N (fun v2 σ => X8_tie_j156 N v2 σ) m v1 v2 v3 σ) v1 v2 v3 σ) (f + 1) (popI (floatS A.1 A.2.1)) (te9 9 s) (nI a) (nI b) τ = X8_tie_l54 N (fun v1 v2 v3 σ => X8_tie_j150 N (fun v1 v2 v3 σ => X8_tie_l38 N (fun v2 σ => X8_tie_j156 N v2 σ) m v1 v2 v3 σ) v1 v2 v3 σ) f (popI (floatS A.1 A.2.1)) (te9 9 s) (nI a) (nI (b + 1)) τ := by
        intro hc
        rw [X8_tie_l54, nt, if_neg (n_le hb1 (by omega)), isGone_b N 19 (by omega), Option.bind_some, hg]
        by_cases ga : hb (A.2.1 32) a = true
        · rw [if_pos ga, if_neg oneF, nI1]
        · rw [if_neg ga, if_pos rfl, isGone_b N 19 (by omega), Option.bind_some, hg]
          by_cases gb : hb (A.2.1 32) b = true
          · rw [if_pos gb, if_neg oneF, nI1]
          · rw [if_neg gb, if_pos rfl, isTied_b N 19 (by omega) (by omega), Option.bind_some, hl]
            by_cases q : hb (A.2.1 (24 + a)) b = true
            · rw [if_pos q, if_neg oneF, nI1]
            · exfalso
              unfold teC at hc
              simp [ga, gb, q] at hc
      by_cases q : teC A.2.1 a b = true
      · have q0 := q
        unfold teC at q0
        simp only [Bool.and_eq_true, Bool.not_eq_true'] at q0
        obtain ⟨⟨ga, gb⟩, gt⟩ := q0
        obtain ⟨τ1, kk, τ2, τ3, t1, t2, t3, t4, t5, t6, t7⟩ := try_c (N := N) (by omega) (hσ.1.fr i5 (by decide)) i4 hA.1 hH ha hb1 (by omega) ga gb
        have hfw : X8_floatingWith N (nI a) (nI b) τ = some (popI (floatS A.1 (togS A.2.1 a b)), τ3) := by
          unfold X8_floatingWith
          rw [t1, Option.bind_some, t2, t3, if_pos rfl, t4, Option.bind_some, bitCount_eq, Option.bind_some, t5]
          rfl
        have f3 : Fr scrC σ τ3 := i5.trans (t7.mono (by decide))
        have to3 := i3.fr t7 (by decide)
        have hpre : X8_tie_l54 N (fun v1 v2 v3 σ => X8_tie_j150 N (fun v1 v2 v3 σ => X8_tie_l38 N (fun v2 σ => X8_tie_j156 N v2 σ) m v1 v2 v3 σ) v1 v2 v3 σ) (f + 1) (popI (floatS A.1 A.2.1)) (te9 9 s) (nI a) (nI b) τ = (if te9 9 s ≤ popI (floatS A.1 (togS A.2.1 a b)) then (X8_tie_l54 N (fun v1 v2 v3 σ => X8_tie_j150 N (fun v1 v2 v3 σ => X8_tie_l38 N (fun v2 σ => X8_tie_j156 N v2 σ) m v1 v2 v3 σ) v1 v2 v3 σ) f (popI (floatS A.1 A.2.1)) (te9 9 s) (nI a) (nI (b + 1)) τ3) else ((X2_tell_ N (nI a).toInt64 (nI b).toInt64 τ3).bind fun r22 => ((X2_add N (popI (floatS A.1 A.2.1)).toInt64 r22).bind fun r24 => (X8_tie_l54 N (fun v1 v2 v3 σ => X8_tie_j150 N (fun v1 v2 v3 σ => X8_tie_l38 N (fun v2 σ => X8_tie_j156 N v2 σ) m v1 v2 v3 σ) v1 v2 v3 σ) f (popI (floatS A.1 A.2.1)) (popI (floatS A.1 (togS A.2.1 a b))) (nI a) (nI (b + 1)) r24)))) := by
          rw [X8_tie_l54, nt, if_neg (n_le hb1 (by omega)), isGone_f N 19 (by omega) (by rw [hg]; exact ga), Option.bind_some, if_pos rfl, isGone_f N 19 (by omega) (by rw [hg]; exact gb), Option.bind_some, if_pos rfl, isTied_b N 19 (by omega) (by omega), Option.bind_some, hl, if_neg (show ¬ hb (A.2.1 (24 + a)) b = true by rw [gt]; simp), if_pos rfl, hfw, Option.bind_some, nI1]
        have hs : teF A.1 A.2.1 a b s = teM a b (popI (floatS A.1 (togS A.2.1 a b))) s := by unfold teF; rw [if_pos q]
        by_cases z : te9 9 s ≤ popI (floatS A.1 (togS A.2.1 a b))
        · have hs2 : teF A.1 A.2.1 a b s = s := by
            rw [hs]
            cases s with
            | none =>
              exfalso
              obtain ⟨u, hu, eu⟩ := pop_float h8 (togS A.2.1 a b)
              have z : (9 : Int32) ≤ popI (floatS A.1 (togS A.2.1 a b)) := z
              rw [eu] at z
              exact absurd z (nI_ge (b := 9) (by omega) (by decide))
            | some x => exact if_pos z
          rw [hs2] at hnx
          refine ⟨(s, τ3), ⟨hnx.symm, i2, to3, t6, f3⟩, ?_⟩
          rw [hpre, if_pos z]
        · have hs2 : teF A.1 A.2.1 a b s = some (a, b, popI (floatS A.1 (togS A.2.1 a b))) := by
            rw [hs]
            cases s with
            | none => rfl
            | some x => exact if_neg z
          rw [hs2] at hnx ho
          obtain ⟨τ4, a1, a2, a3⟩ := tell2_c N (nI a).toInt64 (nI b).toInt64 τ3
          obtain ⟨τ5, b1, b2, b3⟩ := tadd_c N a2 (by simp) (popI (floatS A.1 A.2.1)).toInt64
          refine ⟨(some (a, b, popI (floatS A.1 (togS A.2.1 a b))), τ5), ⟨hnx.symm, ho, b2, (b3.row24 (by decide)).trans ((a3.row24 (by decide)).trans t6), (f3.trans (a3.mono (by decide))).trans (b3.mono (by decide))⟩, ?_⟩
          rw [hpre, if_neg z, a1, Option.bind_some, b1, Option.bind_some]
          rfl
      · have q' : teC A.2.1 a b = false := by simpa using q
        have hs : teF A.1 A.2.1 a b s = s := by unfold teF; rw [q']; rfl
        rw [hs] at hnx
        exact ⟨(s, τ), ⟨hnx.symm, i2, i3, i4, i5⟩, skip q'⟩
    · rintro m a f ⟨s, τ⟩ ha ⟨_, _, _, _, fI⟩
      dsimp only at fI ⊢
      rw [X8_tie_l54, (fI.g (k := 5) (j := 1) (by decide)).trans hσ.1.n.1, if_pos (nI_le (Nat.le_refl _) (by omega)), X8_tie_j150, nI1]
    · rintro a ⟨s, τ⟩ ha ⟨i1, i2, i3, i4, i5⟩
      exact ⟨by rw [prS_n]; exact i1, i2, i3, i4, i5⟩
    · rintro m ⟨s, τ⟩ ⟨i1, i2, i3, i4, i5⟩
      dsimp only at i1 i2 i3 i4 i5 ⊢
      subst i1
      refine ⟨τ, ?_, i3, i5⟩
      rw [X8_tie_l38, (i5.g (k := 5) (j := 1) (by decide)).trans hσ.1.n.1, if_pos (nI_le (Nat.le_refl _) (by omega)), X8_tie_j156, ← hans _ i2]
      split <;> rfl
  · have f0 := thrown_f σ 0
    have c1 := hσ.1.fr f0 (by decide)
    have r0' : rR (wi σ 149 0 0) 153 = A.2.1 := (rR_congr (f0.r (by simp [pl]))).trans hσ.2.1
    unfold X9_tie
    simp only [bnS]
    refine pairL (n := A.1.1) (N := N) (Lo := fun m a (s : Ts × Sg) => X9_tie_l16 N (fun v1 v2 v3 σ => X9_tie_j157 N v1 v2 v3 σ) m (te1 s.1) (te2 s.1) (te9 1000000 s.1) (nI a) s.2)
      (Li := fun m a f b s => X9_tie_l31 N (fun v1 v2 v3 v4 σ => X9_tie_j151 N (fun v1 v2 v3 v4 σ => X9_tie_l16 N (fun v1 v2 v3 σ => X9_tie_j157 N v1 v2 v3 σ) m v1 v2 v3 v4 σ) v1 v2 v3 v4 σ) f (te1 s.1) (te2 s.1) (te9 1000000 s.1) (nI a) (nI b) s.2)
      (fun a b s => s.1 = prS (teF A.1 A.2.1) A.1.1 none a b ∧ teO A.1.1 s.1 ∧ Fr [154, 159, 160] (wi σ 149 0 0) s.2) (o := fun x => ∃ σ', x = some (te9 (-2) (prS (teF A.1 A.2.1) A.1.1 none A.1.1 (A.1.1 + 1)), σ') ∧ ToR σ' (teL A.2.2.2.1 (popI (floatS A.1 A.2.1)).toInt64 (prS (teF A.1 A.2.1) A.1.1 none A.1.1 (A.1.1 + 1))) ∧ Fr scrR σ σ') (by omega) ?_ ?_ ?_ ?_ ?_ (s0 := (none, wi σ 149 0 0)) ⟨rfl, (fun x hx => by cases hx), Fr.refl _ _⟩
    · rintro m a ⟨s, τ⟩ ha ⟨_, _, fI⟩
      dsimp only at fI ⊢
      rw [X9_tie_l16, (fI.g (k := 149) (j := 3) (by decide)).trans c1.1, if_neg (n_le ha (by omega)), nI1]
    · rintro m a f b ⟨s, τ⟩ ha hb1 hab ⟨i1, i2, i3⟩
      dsimp only at i1 i2 i3 ⊢
      have Lt := c1.fr i3 (by decide)
      have rt : rR τ 153 = A.2.1 := (rR_congr (i3.r (by simp [pl]))).trans r0'
      have hl : gi τ 153 (24 + a) = A.2.1 (24 + a) := by rw [← rt, rR_j (by omega)]
      have e24 : (24 : Int32) + nI a = nI (24 + a) := nI_add 24 a
      have hnx : prS (teF A.1 A.2.1) A.1.1 none a (b + 1) = teF A.1 A.2.1 a b s := by rw [prS_s _ _ _ hab, i1]
      have ho := teO_step (r := A.2.1) h8 ha hb1 i2
      by_cases ga : hb (A.2.1 32) a = true
      · have hs : teF A.1 A.2.1 a b s = s := by unfold teF teC; rw [ga]; rfl
        rw [hs] at hnx
        refine ⟨(s, τ), ⟨hnx.symm, i2, i3⟩, ?_⟩
        dsimp only
        rw [X9_tie_l31, Lt.1, if_neg (n_le hb1 (by omega)), isHere_b N Lt.1 h8 ha, Option.bind_some, rt, if_pos ga, if_pos rfl, nI1]
      · by_cases gb : hb (A.2.1 32) b = true
        · have hs : teF A.1 A.2.1 a b s = s := by unfold teF teC; rw [gb]; simp
          rw [hs] at hnx
          refine ⟨(s, τ), ⟨hnx.symm, i2, i3⟩, ?_⟩
          dsimp only
          rw [X9_tie_l31, Lt.1, if_neg (n_le hb1 (by omega)), isHere_b N Lt.1 h8 ha, Option.bind_some, rt, if_neg ga, if_neg oneF, isHere_b N Lt.1 h8 hb1, Option.bind_some, rt, if_pos gb, if_pos rfl, nI1]
        · by_cases q : hb (A.2.1 (24 + a)) b = true
          · have hs : teF A.1 A.2.1 a b s = s := by unfold teF teC; rw [q]; simp
            rw [hs] at hnx
            refine ⟨(s, τ), ⟨hnx.symm, i2, i3⟩, ?_⟩
            dsimp only
            rw [X9_tie_l31, Lt.1, if_neg (n_le hb1 (by omega)), isHere_b N Lt.1 h8 ha, Option.bind_some, rt, if_neg ga, if_neg oneF, isHere_b N Lt.1 h8 hb1, Option.bind_some, rt, if_neg gb, if_neg oneF, e24, inbI (show 24 + a < 37 by omega) (by omega), clI (by omega), hl, if_pos rfl, has_t N (by omega) q, Option.bind_some, if_neg oneF, nI1]
          · have ga' : hb (A.2.1 32) a = false := by simpa using ga
            have gb' : hb (A.2.1 32) b = false := by simpa using gb
            have q' : hb (A.2.1 (24 + a)) b = false := by simpa using q
            have qc : teC A.2.1 a b = true := by unfold teC; rw [ga', gb', q']; rfl
            have hs : teF A.1 A.2.1 a b s = teM a b (popI (floatS A.1 (togS A.2.1 a b))) s := by unfold teF; rw [if_pos qc]
            obtain ⟨τ1, τ2, τ3, t1, t2, t3, t4⟩ := try_r (N := N) (by omega) Lt rt hA.1 hH ha hb1 (by omega) ga' gb'
            by_cases z : te9 1000000 s ≤ popI (floatS A.1 (togS A.2.1 a b))
            · have hs2 : teF A.1 A.2.1 a b s = s := by
                rw [hs]
                cases s with
                | none =>
                  exfalso
                  obtain ⟨u, hu, eu⟩ := pop_float h8 (togS A.2.1 a b)
                  have z : (1000000 : Int32) ≤ popI (floatS A.1 (togS A.2.1 a b)) := z
                  rw [eu] at z
                  exact absurd z (nI_ge (b := 1000000) (by omega) (by decide))
                | some x => exact if_pos z
              rw [hs2] at hnx
              refine ⟨(s, τ3), ⟨hnx.symm, i2, i3.trans t4⟩, ?_⟩
              dsimp only
              rw [X9_tie_l31, Lt.1, if_neg (n_le hb1 (by omega)), isHere_b N Lt.1 h8 ha, Option.bind_some, rt, if_neg ga, if_neg oneF, isHere_b N Lt.1 h8 hb1, Option.bind_some, rt, if_neg gb, if_neg oneF, e24, inbI (show 24 + a < 37 by omega) (by omega), clI (by omega), hl, if_pos rfl, has_f N (by omega) q', Option.bind_some, if_pos rfl, t1, Option.bind_some, t2, Option.bind_some, t3, Option.bind_some, bitCount_eq, Option.bind_some, if_pos z, X9_tie_j124, if_pos z, X9_tie_j137, min_b, Option.bind_some, if_neg (Int32.not_lt.mpr z), nI1]
            · have hs2 : teF A.1 A.2.1 a b s = some (a, b, popI (floatS A.1 (togS A.2.1 a b))) := by
                rw [hs]
                cases s with
                | none => rfl
                | some x => exact if_neg z
              rw [hs2] at hnx ho
              refine ⟨(some (a, b, popI (floatS A.1 (togS A.2.1 a b))), τ3), ⟨hnx.symm, ho, i3.trans t4⟩, ?_⟩
              dsimp only
              rw [X9_tie_l31, Lt.1, if_neg (n_le hb1 (by omega)), isHere_b N Lt.1 h8 ha, Option.bind_some, rt, if_neg ga, if_neg oneF, isHere_b N Lt.1 h8 hb1, Option.bind_some, rt, if_neg gb, if_neg oneF, e24, inbI (show 24 + a < 37 by omega) (by omega), clI (by omega), hl, if_pos rfl, has_f N (by omega) q', Option.bind_some, if_pos rfl, t1, Option.bind_some, t2, Option.bind_some, t3, Option.bind_some, bitCount_eq, Option.bind_some, if_neg z, X9_tie_j124, if_neg z, X9_tie_j137, min_b, Option.bind_some, if_pos (Int32.not_le.mp z), nI1]
              rfl
    · rintro m a f ⟨s, τ⟩ ha ⟨_, _, fI⟩
      dsimp only at fI ⊢
      rw [X9_tie_l31, (fI.g (k := 149) (j := 3) (by decide)).trans c1.1, if_pos (nI_le (Nat.le_refl _) (by omega)), X9_tie_j151, nI1]
    · rintro a ⟨s, τ⟩ ha ⟨i1, i2, i3⟩
      exact ⟨by rw [prS_n]; exact i1, i2, i3⟩
    · rintro m ⟨s, τ⟩ ⟨i1, i2, i3⟩
      dsimp only at i1 i2 i3 ⊢
      rw [← i1]
      have Lt := c1.fr i3 (by decide)
      have rt : rR τ 153 = A.2.1 := (rR_congr (i3.r (by simp [pl]))).trans r0'
      rw [X9_tie_l16, Lt.1, if_pos (nI_le (Nat.le_refl _) (by omega)), X9_tie_j157]
      cases s with
      | none =>
        refine ⟨τ, ?_, (hσ.2.2.2.1.fr f0 (by decide)).fr i3 (by decide), (f0.mono (by decide)).trans (i3.mono (by decide))⟩
        rw [if_neg (show ¬ (0 : Int32) ≤ te1 none by decide)]
        rfl
      | some x =>
        obtain ⟨x1, x2, _⟩ := i2 x rfl
        have tf := told0_f τ
        obtain ⟨σ4, g1, g2, g3⟩ := enters_r N (told0_r τ) (by decide) (nI x.1).toInt64
        obtain ⟨σ5, j1, j2, j3⟩ := enters_r N g2 (by simp) (nI x.2.1).toInt64
        have f5 : Fr [3001, 150] τ σ5 := (tf.trans g3).trans j3
        obtain ⟨σ6, l1, l2⟩ := float153 (N := N) (by omega) (Lt.fr f5 (by decide)) ((rR_congr (f5.r (by simp [pl]))).trans rt) hA hH
        obtain ⟨σ7, o1, o2, o3⟩ := enters_r N (j2.fr l2 (by decide)) (by simp) (popI (floatS A.1 A.2.1)).toInt64
        refine ⟨σ7, ?_, o2, ((((f0.mono (by decide)).trans (i3.mono (by decide))).trans (f5.mono (by decide))).trans (l2.mono (by decide))).trans (o3.mono (by decide))⟩
        rw [if_pos (show (0 : Int32) ≤ te1 (some x) from nI_pos' (by omega))]
        simp only [bnS]
        show (X9_enters N (nI x.1).toInt64 _).bind _ = _
        rw [g1, Option.bind_some]
        show (X9_enters N (nI x.2.1).toInt64 _).bind _ = _
        rw [j1, Option.bind_some, l1, Option.bind_some, bitCount_eq, Option.bind_some, o1]
        rfl
