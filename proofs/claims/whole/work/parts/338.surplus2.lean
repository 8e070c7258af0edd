/-! ===== surplus: the reference ===== -/
theorem share_r {N : Nat} (hN : 8 < N) {σ : Sg} {n : Nat} (hn : gi σ 149 3 = nI n) (h8 : n ≤ 8) {r : Nat → Int32} (hr : rR σ 153 = r) (k165 : Int32 → Int32 → Int32 → Sg → Option (Int32 × Sg)) (v1 v2 v3 b e : Int32) : ∃ σ', X9_surplus_l103 N k165 N v1 v2 v3 b e 0 σ = k165 v1 v2 v3 σ' ∧ (∀ j, j < n → gi σ' 165 j = gi σ 165 j + (if hb b j = true then mnS (r j) (lfT r b e j) else 0)) ∧ Fr [165] σ σ' := by
  refine forL0 (L := fun m i (a : Int32 × Sg) => X9_surplus_l103 N k165 m v1 v2 v3 b a.1 (nI i) a.2) (m := n) (a := (e, σ)) (fun i a => a.1 = lfT r b e i ∧ (∀ j, j < i → gi a.2 165 j = gi σ 165 j + (if hb b j = true then mnS (r j) (lfT r b e j) else 0)) ∧ (∀ j, i ≤ j → gi a.2 165 j = gi σ 165 j) ∧ Fr [165] σ a.2) (o := fun x => ∃ σ', x = k165 v1 v2 v3 σ' ∧ (∀ j, j < n → gi σ' 165 j = gi σ 165 j + (if hb b j = true then mnS (r j) (lfT r b e j) else 0)) ∧ Fr [165] σ σ') (by omega) ⟨rfl, fun j hj => absurd hj (Nat.not_lt_zero _), fun _ _ => rfl, Fr.refl _ _⟩ ?_ ?_
  · intro m i a hi hI
    obtain ⟨v, τ⟩ := a
    obtain ⟨i1, i2, i3, i4⟩ := hI
    dsimp only at i1 i2 i3 i4 ⊢
    left
    have hst : lfT r b e (i + 1) = if hb b i = true then v - mnS (r i) v else v := by rw [i1]; rfl
    have es : gi τ 153 i = r i := by rw [i4.g (k := 153) (by simp [pl]), ← hr, rR_j (by omega)]
    have en : gi τ 149 3 = nI n := (i4.g (k := 149) (j := 3) (by decide)).trans hn
    have key : ∀ s0, s0 = (if hb b i = true then mnS (r i) v else 0) → ∃ a' : Int32 × Sg, (a'.1 = lfT r b e (i + 1) ∧ (∀ j, j < i + 1 → gi a'.2 165 j = gi σ 165 j + (if hb b j = true then mnS (r j) (lfT r b e j) else 0)) ∧ (∀ j, i + 1 ≤ j → gi a'.2 165 j = gi σ 165 j) ∧ Fr [165] σ a'.2) ∧ X9_surplus_j138 N (fun v1 v2 v3 v4 v5 v6 σ => X9_surplus_l103 N k165 m v1 v2 v3 v4 v5 v6 σ) v1 v2 v3 b v (nI i) s0 τ = X9_surplus_l103 N k165 m v1 v2 v3 b a'.1 (nI (i + 1)) a'.2 := by
      intro s0 hs0
      refine ⟨(v - s0, wi τ 165 i (gi τ 165 i + s0)), ⟨?_, fun j hj => ?_, fun j hj => ?_, i4.wi (by simp [pl])⟩, ?_⟩
      · dsimp only
        rw [hst, hs0]
        by_cases q : hb b i = true
        · rw [if_pos q, if_pos q]
        · rw [if_neg q, if_neg q]; simp
      · dsimp only
        rw [giw]
        by_cases z : j = i
        · rw [if_pos ⟨rfl, z⟩, z, i3 i (Nat.le_refl _), hs0, i1]
        · rw [if_neg (fun y => z y.2)]; exact i2 j (by omega)
      · dsimp only
        rw [giw, if_neg (by omega)]; exact i3 j (by omega)
      · unfold X9_surplus_j138
        rw [inbI (show i < 8 by omega) (by omega), clI (by omega), if_pos rfl, if_pos rfl, nI1]
        rfl
    rw [X9_surplus_l103, en, if_neg (n_le hi (by omega)), has_b N b (by omega), Option.bind_some]
    by_cases q : hb b i = true
    · obtain ⟨a', h1, h2⟩ := key (mnS (r i) v) (by rw [if_pos q])
      refine ⟨a', h1, ?_⟩
      rw [if_pos q, if_neg oneF, inbI (show i < 37 by omega) (by omega), clI (by omega), es, if_pos rfl, min_b, mnS', Option.bind_some]
      exact h2
    · obtain ⟨a', h1, h2⟩ := key 0 (by rw [if_neg q])
      refine ⟨a', h1, ?_⟩
      rw [if_neg q, if_pos rfl]
      exact h2
  · intro m a hI
    obtain ⟨v, τ⟩ := a
    obtain ⟨i1, i2, i3, i4⟩ := hI
    dsimp only at i1 i2 i3 i4 ⊢
    refine ⟨τ, ?_, i2, i4⟩
    rw [X9_surplus_l103, (i4.g (k := 149) (j := 3) (by decide)).trans hn, if_pos (nI_le (Nat.le_refl _) (by omega))]
theorem lft_zero (r : Nat → Int32) (e : Int32) (i : Nat) : lfT r 0 e i = e := by
  induction i with
  | zero => rfl
  | succ i ih => unfold lfT; rw [hb_0, ih]; rfl
theorem surplus_r {N : Nat} (hN : 555 < N) {H : Nat} {A : Ab} (hA : OkA H A) (hH : H < 1000000) (σ : Sg) (hσ : InvR σ A) : ∃ σ', X9_surplus N σ = some (foldF (isF A.2.1) (suF A.1 A.2.1) A.1.1 0, σ') ∧ ToR σ' (listS (fun j => if hb (A.2.1 32) j = true then 0 else shF A.1 A.2.1 j) A.1.1) ∧ Fr scrR σ σ' := by
  have h8 := hA.1.1.2.2.2.2
  have hW := hA.1.1
  obtain ⟨h, hh, e36⟩ := hA.1.h36
  have f0 := thrown_f σ 0
  have c1 := hσ.1.fr f0 (by decide)
  have r0' : rR (wi σ 149 0 0) 153 = A.2.1 := (rR_congr (f0.r (by simp [pl]))).trans hσ.2.1
  obtain ⟨σ1, e1, e2⟩ := float153 (N := N) (by omega) c1 r0' hA hH
  have hM : ∀ i, i < A.1.1 → hb (mkB (isF A.2.1) A.1.1 &&& (floatS A.1 A.2.1 ^^^ (-1))) i = (isF A.2.1 i && !hb (floatS A.1 A.2.1) i) := by
    intro i hi
    rw [hb_and, hb_n _ h8, hb_not _ (by omega), decide_eq_true hi]; rfl
  unfold X9_surplus
  simp only [bnS]
  rw [firstOnes_r (by omega) c1.1 r0' hW, Option.bind_some, e1, Option.bind_some]
  dsimp only
  generalize hMM : mkB (isF A.2.1) A.1.1 &&& (floatS A.1 A.2.1 ^^^ (-1)) = M at *
  refine forL0 (L := fun m i a => X9_surplus_l29 N (fun v1 v2 σ => X9_surplus_j50 N v1 v2 σ) m M 0 (nI i) a) (m := A.1.1) (a := σ1) (fun i a => (∀ j, j < i → gi a 165 j = 0) ∧ Fr [159, 160, 165] (wi σ 149 0 0) a) (o := fun x => ∃ σ', x = some (foldF (isF A.2.1) (suF A.1 A.2.1) A.1.1 0, σ') ∧ ToR σ' (listS (fun j => if hb (A.2.1 32) j = true then 0 else shF A.1 A.2.1 j) A.1.1) ∧ Fr scrR σ σ') (by omega) ⟨fun j hj => absurd hj (Nat.not_lt_zero _), e2.mono (by decide)⟩ ?_ ?_
  · intro m i a hi hI
    obtain ⟨i1, i2⟩ := hI
    left
    refine ⟨wi a 165 i 0, ⟨fun j hj => ?_, i2.wi (by simp [pl])⟩, ?_⟩
    · rw [giw]
      by_cases z : j = i
      · rw [if_pos ⟨rfl, z⟩]
      · rw [if_neg (fun y => z y.2)]; exact i1 j (by omega)
    · rw [X9_surplus_l29, (c1.fr i2 (by decide)).1, if_neg (n_le hi (by omega)), inbI (show i < 8 by omega) (by omega), clI (by omega), nI1]
      rfl
  · intro m a hI
    obtain ⟨z1, z2⟩ := hI
    rw [X9_surplus_l29, (c1.fr z2 (by decide)).1, if_pos (nI_le (Nat.le_refl _) (by omega)), X9_surplus_j50]
    refine forL0 (L := fun m i (b : Int32 × Sg) => X9_surplus_l52 N (fun v2 σ => X9_surplus_j171 N v2 σ) m M b.1 (nI i) b.2) (m := A.1.1) (a := (0, a)) (fun k b => b.1 = foldF (isF A.2.1) (suF A.1 A.2.1) k 0 ∧ spI A.1 A.2.1 (gi b.2 165) k ∧ Fr [159, 160, 165] (wi σ 149 0 0) b.2) (o := fun x => ∃ σ', x = some (foldF (isF A.2.1) (suF A.1 A.2.1) A.1.1 0, σ') ∧ ToR σ' (listS (fun j => if hb (A.2.1 32) j = true then 0 else shF A.1 A.2.1 j) A.1.1) ∧ Fr scrR σ σ') (by omega) ⟨rfl, ⟨fun j hj _ => z1 j hj, fun j hj k hk => absurd hk (Nat.not_lt_zero _)⟩, z2⟩ ?_ ?_
    · intro m k b hk hI
      obtain ⟨v, τ⟩ := b
      obtain ⟨i1, i2, i3⟩ := hI
      dsimp only at i1 i2 i3 ⊢
      left
      have Lt := c1.fr i3 (by decide)
      have rt : rR τ 153 = A.2.1 := (rR_congr (i3.r (by simp [pl]))).trans r0'
      have hst : foldF (isF A.2.1) (suF A.1 A.2.1) (k + 1) 0 = if isF A.2.1 k then suF A.1 A.2.1 k v else v := by rw [i1]; rfl
      have hpre : ∀ its, ∃ σ5, X9_surplus_j81 N (fun v1 v2 v3 σ => X9_surplus_l52 N (fun v2 σ => X9_surplus_j171 N v2 σ) m v1 v2 v3 σ) M v (nI k) its τ = X9_surplus_l52 N (fun v2 σ => X9_surplus_j171 N v2 σ) m M (v + exS A.1 A.2.1 its) (nI (k + 1)) σ5 ∧ (∀ j, j < A.1.1 → gi σ5 165 j = gi τ 165 j + (if hb its j = true then mnS (A.2.1 j) (lfT A.2.1 its (exS A.1 A.2.1 its) j) else 0)) ∧ Fr [159, 160, 165] (wi σ 149 0 0) σ5 := by
        intro its
        obtain ⟨σ4, u1, u2⟩ := above_r (N := N) (by omega) (Or.inl rfl : (153 : Nat) = 153 ∨ (153 : Nat) = 154) Lt (show h < 2147483648 by omega) (by rw [rt]; exact e36) its
        rw [rt] at u1
        have r4 : rR σ4 153 = A.2.1 := (rR_congr (u2.r (by simp [pl]))).trans rt
        obtain ⟨σ5, w1, w2, w3⟩ := share_r (N := N) (by omega) (Lt.fr u2 (by decide)).1 h8 r4 (fun v1 v2 v3 σ => X9_surplus_j165 N (fun v1 v2 v3 σ => X9_surplus_l52 N (fun v2 σ => X9_surplus_j171 N v2 σ) m v1 v2 v3 σ) v1 v2 v3 σ) M (v + exS A.1 A.2.1 its) (nI k) its (exS A.1 A.2.1 its)
        refine ⟨σ5, ?_, fun j hj => ?_, (i3.trans (u2.mono (by decide))).trans (w3.mono (by decide))⟩
        · rw [X9_surplus_j81, u1, Option.bind_some, w1, X9_surplus_j165, nI1]
        · rw [w2 j hj, u2.g (k := 165) (by simp [pl])]
      have hzero : ∀ j, gi τ 165 j + (if hb (0 : Int32) j = true then mnS (A.2.1 j) (lfT A.2.1 0 (exS A.1 A.2.1 0) j) else 0) = gi τ 165 j := by
        intro j
        rw [hb_0]
        simp
      by_cases q : (isF A.2.1 k && !hb (floatS A.1 A.2.1) k) = true
      · have q0 := q
        rw [Bool.and_eq_true] at q0
        have hF := q0.1
        have hg := (isF_iff.mp hF).1
        have hnf : ¬ exS A.1 A.2.1 (bun A.2.1 k) < 0 := by
          intro z
          have := (hb_floatS h8 k).mpr ⟨hk, hg, z⟩
          rw [this] at q0
          exact absurd q0.2 (by simp)
        obtain ⟨σ5, w1, w2, w3⟩ := hpre (bun A.2.1 k)
        have hex : 0 < exS A.1 A.2.1 (bun A.2.1 k) ∨ exS A.1 A.2.1 (bun A.2.1 k) = 0 := by
          by_cases z : 0 < exS A.1 A.2.1 (bun A.2.1 k)
          · exact Or.inl z
          · exact Or.inr (Int32.le_antisymm (Int32.not_lt.mp z) (Int32.not_lt.mp hnf))
        have hin0 : ∀ j, j < A.1.1 → hb (bun A.2.1 k) j = true → gi τ 165 j = 0 := fun j hj hb1 => i2.1 j hj (fun k' hk' hF' => by
          cases hx : hb (bun A.2.1 k') j
          · rfl
          · have := first_uniq hW (show k' < A.1.1 by omega) hk hF' hF hx hb1
            omega)
        refine ⟨(v + exS A.1 A.2.1 (bun A.2.1 k), σ5), ⟨?_, spI_step hW hk i2 hF (fun j hj hb1 => ?_) (fun j hj hb1 => ?_), w3⟩, ?_⟩
        · dsimp only
          rw [hst, hF, if_pos rfl]
          unfold suF
          rcases hex with z | z
          · rw [if_pos z]
          · rw [if_neg (by rw [z]; decide), z]; simp
        · dsimp only
          rw [w2 j hj, if_pos hb1, hin0 j hj hb1]
          unfold shF
          rw [bun_eq hW hk hb1]
          rcases hex with z | z
          · rw [if_pos z]; simp
          · rw [if_neg (by rw [z]; decide), z, lfT_0 hA.1 (by omega) _ j (by omega), mn_0 hA.1 (by omega) (by omega)]; rfl
        · dsimp only
          rw [w2 j hj, if_neg (by rw [hb1]; simp)]; simp
        · rw [X9_surplus_l52, Lt.1, if_neg (n_le hk (by omega)), has_t N (by omega) ((hM k hk).trans q), Option.bind_some, if_neg oneF, bundle_r (by omega) Lt.1 (by rw [rt]; exact hW) hk, Option.bind_some, rt, if_neg (by rw [hg]; simp)]
          exact w1
      · have q' : (isF A.2.1 k && !hb (floatS A.1 A.2.1) k) = false := by simpa using q
        obtain ⟨σ5, w1, w2, w3⟩ := hpre 0
        have w2' : ∀ j, j < A.1.1 → gi σ5 165 j = gi τ 165 j := fun j hj => (w2 j hj).trans (hzero j)
        have hcode : X9_surplus_l52 N (fun v2 σ => X9_surplus_j171 N v2 σ) (m + 1) M v (nI k) τ = X9_surplus_l52 N (fun v2 σ => X9_surplus_j171 N v2 σ) m M v (nI (k + 1)) σ5 := by
          rw [X9_surplus_l52, Lt.1, if_neg (n_le hk (by omega)), has_f N (by omega) ((hM k hk).trans q'), Option.bind_some, if_pos rfl, w1, exS_0]
          simp
        cases hF : isF A.2.1 k
        · refine ⟨(v, σ5), ⟨?_, ?_, w3⟩, hcode⟩
          · dsimp only; rw [hst, hF]; rfl
          · have i2' := spI_skip i2 hF
            exact ⟨fun j hj hz => (w2' j hj).trans (i2'.1 j hj hz), fun j hj k' hk' hF' hb1 => (w2' j hj).trans (i2'.2 j hj k' hk' hF' hb1)⟩
        · rw [hF] at q'
          have hfl : hb (floatS A.1 A.2.1) k = true := by simpa using q'
          have hneg := ((hb_floatS h8 k).mp hfl).2.2
          have hnp : ¬ 0 < exS A.1 A.2.1 (bun A.2.1 k) := fun z => absurd (Int32.lt_trans hneg z) (Int32.lt_irrefl)
          refine ⟨(v, σ5), ⟨?_, spI_step hW hk i2 hF (fun j hj hb1 => ?_) (fun j hj hb1 => w2' j hj), w3⟩, hcode⟩
          · dsimp only; rw [hst, hF, if_pos rfl]; unfold suF; rw [if_neg hnp]
          · dsimp only
            rw [w2' j hj, i2.1 j hj (fun k' hk' hF' => by
              cases hx : hb (bun A.2.1 k') j
              · rfl
              · have := first_uniq hW (show k' < A.1.1 by omega) hk hF' hF hx hb1
                omega)]
            unfold shF
            rw [bun_eq hW hk hb1, if_neg hnp]
    · intro m b hI
      obtain ⟨v, τ⟩ := b
      obtain ⟨i1, i2, i3⟩ := hI
      dsimp only at i1 i2 i3 ⊢
      subst i1
      have Lt := c1.fr i3 (by decide)
      have hval : ∀ j, j < A.1.1 → gi τ 165 j = (if hb (A.2.1 32) j = true then 0 else shF A.1 A.2.1 j) := by
        intro j hj
        by_cases g : hb (A.2.1 32) j = true
        · rw [if_pos g]
          refine i2.1 j hj (fun k hk hF => ?_)
          cases hx : hb (bun A.2.1 k) j
          · rfl
          · rw [bun_here hW hk (isF_iff.mp hF).1 hx] at g; cases g
        · rw [if_neg g]
          obtain ⟨k, q1, q2, q3, q4⟩ := first_of hW hj (by simpa using g)
          exact i2.2 j hj k (by omega) q2 (by rw [q4]; exact (bun_is hW (by omega)).1)
      have tf := told0_f τ
      rw [X9_surplus_l52, Lt.1, if_pos (nI_le (Nat.le_refl _) (by omega)), X9_surplus_j171]
      simp only [bnS]
      refine forL0 (L := fun m i a => X9_surplus_l178 N m (foldF (isF A.2.1) (suF A.1 A.2.1) A.1.1 0) (nI i) a) (m := A.1.1) (a := wi τ 149 1 0) (fun i a => ToR a (listS (fun j => if hb (A.2.1 32) j = true then 0 else shF A.1 A.2.1 j) i) ∧ Fr [3001, 150] τ a) (o := fun x => ∃ σ', x = some (foldF (isF A.2.1) (suF A.1 A.2.1) A.1.1 0, σ') ∧ ToR σ' (listS (fun j => if hb (A.2.1 32) j = true then 0 else shF A.1 A.2.1 j) A.1.1) ∧ Fr scrR σ σ') (by omega) ⟨told0_r τ, tf⟩ ?_ ?_
      · intro m i a hi hI
        obtain ⟨j1, j2⟩ := hI
        left
        obtain ⟨σ5, a1, a2, a3⟩ := enters_r N j1 (by rw [listS_len]; omega) (if hb (A.2.1 32) i = true then 0 else shF A.1 A.2.1 i).toInt64
        refine ⟨σ5, ⟨by rw [listS_s]; exact a2, j2.trans a3⟩, ?_⟩
        rw [X9_surplus_l178, (j2.g (k := 149) (j := 3) (by decide)).trans Lt.1, if_neg (n_le hi (by omega)), inbI (show i < 8 by omega) (by omega), clI (by omega), if_pos rfl, j2.g (k := 165) (by simp [pl]), hval i hi, a1, Option.bind_some, nI1]
      · intro m a hI
        obtain ⟨j1, j2⟩ := hI
        refine ⟨a, ?_, j1, ((f0.mono (by decide)).trans (i3.mono (by decide))).trans (j2.mono (by decide))⟩
        rw [X9_surplus_l178, (j2.g (k := 149) (j := 3) (by decide)).trans Lt.1, if_pos (nI_le (Nat.le_refl _) (by omega))]
theorem surplus_op {N : Nat} (hN : 555 < N) {H : Nat} {A : Ab} (hA : OkA H A) (hH : H < 1000000) : OpB (X8_surplus N) (X9_surplus N) H A :=
  OpB.told hA _ _ (by rw [listS_len]; have := hA.1.1.2.2.2.2; omega) (fun σ hσ => surplus_c hN hA hH σ hσ) (fun σ hσ => surplus_r hN hA hH σ hσ)
