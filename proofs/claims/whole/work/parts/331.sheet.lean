/-! ===== sheet ===== -/
def clS (x : Int32) : Int32 := if 1 < (if x < 9 then x else 9) then (if x < 9 then x else 9) else 1
def naS (kind x : Int32) : Int32 := if kind = 0 then i2b_ x else if kind = 1 then i2s_ x else x
def szS (kind n f step : Int32) (k : Nat) : Int32 := if kind = 3 ∨ n ≤ nI k then 1 else clS (naS kind (f + nI k * step))
theorem LC.sz {σ σ' : Sg} {k2 : Nat} {L : Ld} (h : LC σ k2 L) (f : Fr [6] σ σ') {z : Nat → Int32} (hz : ∀ i, i < L.1 → gi σ' 6 i = z i) : LC σ' k2 (L.1, z, L.2.2) := by
  obtain ⟨a1, a2, a3, a4, a5, a6, a7, a8, a9, a10⟩ := h
  refine ⟨(f.g (k := 5) (j := 1) (by decide)).trans a1, a2, hz, (f.g (k := 5) (j := 8) (by decide)).trans a4, a5, a6, fun i hi => (f.g (k := 17) (by simp [pl])).trans (a7 i hi), ?_, a9, a10⟩
  rcases a10 with rfl | rfl
  · exact ⟨(f.g (k := 7) (by simp [pl])).trans a8.1, fun i hi => (f.g (k := 8) (by simp [pl])).trans (a8.2 i hi)⟩
  · exact ⟨(f.g (k := 11) (by simp [pl])).trans a8.1, fun i hi => (f.g (k := 12) (by simp [pl])).trans (a8.2 i hi)⟩
theorem LR.sz {σ σ' : Sg} {L : Ld} (h : LR σ L) (f : Fr [3000, 151] σ σ') {z : Nat → Int32} (hz : ∀ i, i < L.1 → gi σ' 151 i = z i) : LR σ' (L.1, z, L.2.2) := by
  obtain ⟨a1, a2, a3, a4, a5, a6, a7, a8, a9⟩ := h
  refine ⟨(f.g (k := 149) (j := 3) (by decide)).trans a1, a2, hz, (f.g (k := 149) (j := 5) (by decide)).trans a4, a5, a6, fun i hi => (f.g (k := 152) (by simp [pl])).trans (a7 i hi), ?_, a9⟩
  rcases a8 with ⟨b1, b2, b3⟩ | ⟨b1, b2, b3⟩
  · exact Or.inl ⟨(f.g (k := 149) (j := 19) (by decide)).trans b1, b2, fun i hi => (f.g (k := 157) (by simp [pl])).trans (b3 i hi)⟩
  · exact Or.inr ⟨(f.g (k := 149) (j := 19) (by decide)).trans b1, b2, b3⟩
theorem setSizes_c {N : Nat} (hN : 8 < N) {σ : Sg} {n : Nat} (hn : gi σ 5 1 = nI n) (h8 : n ≤ 8) (kind v f step : Int32) (h3 : kind = 3 → v ≤ 0) : ∃ σ', X0_setSizes N kind v f step σ = some (sumB (fun _ => true) (szS kind v f step) n, σ') ∧ (∀ i, i < n → gi σ' 6 i = szS kind v f step i) ∧ Fr [6] σ σ' := by
  unfold X0_setSizes
  refine forL0 (L := fun m i (a : Int32 × Sg) => X0_setSizes_l6 N m kind v f step a.1 (nI i) a.2) (m := n) (a := (0, σ)) (fun i a => a.1 = sumB (fun _ => true) (szS kind v f step) i ∧ (∀ j, j < i → gi a.2 6 j = szS kind v f step j) ∧ Fr [6] σ a.2) (o := fun x => ∃ σ', x = some (sumB (fun _ => true) (szS kind v f step) n, σ') ∧ (∀ i, i < n → gi σ' 6 i = szS kind v f step i) ∧ Fr [6] σ σ') (by omega) ⟨rfl, fun j hj => absurd hj (Nat.not_lt_zero _), Fr.refl _ _⟩ ?_ ?_
  · intro m i a hi hI
    obtain ⟨u, τ⟩ := a
    obtain ⟨i1, i2, i3⟩ := hI
    dsimp only at i1 i2 i3 ⊢
    left
    refine ⟨(u + szS kind v f step i, wi τ 6 i (szS kind v f step i)), ⟨?_, fun j hj => ?_, i3.wi (by simp [pl])⟩, ?_⟩
    · show u + _ = sumB _ _ i + _; rw [i1]; rfl
    · dsimp only
      rw [giw]
      by_cases q : j = i
      · rw [if_pos ⟨rfl, q⟩, q]
      · rw [if_neg (fun z => q z.2)]; exact i2 j (by omega)
    · have hj : ∀ x, clS x = szS kind v f step i → X0_setSizes_j55 N (fun v1 v2 v3 v4 v5 v6 σ => X0_setSizes_l6 N m v1 v2 v3 v4 v5 v6 σ) kind v f step u (nI i) x τ = X0_setSizes_l6 N m kind v f step (u + szS kind v f step i) (nI (i + 1)) (wi τ 6 i (szS kind v f step i)) := by
        intro x hx
        unfold X0_setSizes_j55
        rw [min_b, Option.bind_some, max_b, Option.bind_some, inbI (show i < 8 by omega) (by omega), clI (by omega)]
        simp only [if_true, bnS]
        rw [giw, if_pos ⟨rfl, rfl⟩, nI1, ← hx]
        rfl
      have en := (i3.g (k := 5) (j := 1) (by decide)).trans hn
      dsimp only
      rw [X0_setSizes_l6, en, if_neg (n_le hi (by omega))]
      by_cases q : v ≤ nI i
      · rw [if_pos q]
        exact hj 1 (by unfold szS; rw [if_pos (Or.inr q)]; rfl)
      · have hk3 : ¬ kind = 3 := fun z => q (Int32.le_trans (h3 z) (nI_pos' (by omega)))
        have hsz : szS kind v f step i = clS (naS kind (f + nI i * step)) := by unfold szS; rw [if_neg (fun z => z.elim hk3 q)]
        rw [if_neg q]
        by_cases q0 : kind = 0
        · rw [if_pos q0]
          exact hj _ (by rw [hsz]; unfold naS; rw [if_pos q0])
        · rw [if_neg q0]
          by_cases q1 : kind = 1
          · rw [if_pos q1]
            exact hj _ (by rw [hsz]; unfold naS; rw [if_neg q0, if_pos q1])
          · rw [if_neg q1]
            exact hj _ (by rw [hsz]; unfold naS; rw [if_neg q0, if_neg q1])
  · intro m a hI
    obtain ⟨u, τ⟩ := a
    obtain ⟨i1, i2, i3⟩ := hI
    dsimp only at i1 i2 i3 ⊢
    refine ⟨τ, ?_, i2, i3⟩
    rw [X0_setSizes_l6, (i3.g (k := 5) (j := 1) (by decide)).trans hn, if_pos (nI_le (Nat.le_refl _) (by omega)), i1]
theorem nI_smul (k : Nat) (f s : Int32) : f + nI k * s + s = f + nI (k + 1) * s := by
  rw [← nI1, Int32.add_mul, Int32.one_mul, Int32.add_assoc]
theorem sheet_r {N : Nat} (hN : 8 < N) {σ : Sg} {n : Nat} (hn : gi σ 149 3 = nI n) (h8 : n ≤ 8) (kind v f step : Int32) : ∃ σ', X9_sheet_j37 N kind v f step σ = some (if kind = 3 then -3 else sumB (fun _ => true) (szS kind v f step) n, σ') ∧ (∀ i, i < n → gi σ' 151 i = szS kind v f step i) ∧ Fr [151] σ σ' := by
  unfold X9_sheet_j37
  refine forL0 (L := fun m i (a : Int32 × Sg) => X9_sheet_l46 N (fun v1 v5 σ => X9_sheet_j138 N v1 v5 σ) m kind v step a.1 (f + nI i * step) (nI i) a.2) (m := n) (a := (0, σ)) (fun i a => a.1 = sumB (fun _ => true) (szS kind v f step) i ∧ (∀ j, j < i → gi a.2 151 j = szS kind v f step j) ∧ Fr [151] σ a.2) (o := fun x => ∃ σ', x = some (if kind = 3 then -3 else sumB (fun _ => true) (szS kind v f step) n, σ') ∧ (∀ i, i < n → gi σ' 151 i = szS kind v f step i) ∧ Fr [151] σ σ') (by omega) ⟨rfl, fun j hj => absurd hj (Nat.not_lt_zero _), Fr.refl _ _⟩ ?_ ?_ |> fun h => by
      have e : f + nI 0 * step = f := by rw [nI_0]; simp
      dsimp only at h
      rw [e] at h
      exact h
  · intro m i a hi hI
    obtain ⟨u, τ⟩ := a
    obtain ⟨i1, i2, i3⟩ := hI
    dsimp only at i1 i2 i3 ⊢
    left
    refine ⟨(u + szS kind v f step i, wi τ 151 i (szS kind v f step i)), ⟨?_, fun j hj => ?_, i3.wi (by simp [pl])⟩, ?_⟩
    · show u + _ = sumB _ _ i + _; rw [i1]; rfl
    · dsimp only
      rw [giw]
      by_cases q : j = i
      · rw [if_pos ⟨rfl, q⟩, q]
      · rw [if_neg (fun z => q z.2)]; exact i2 j (by omega)
    · have hj2 : X9_sheet_j112 N (fun v1 v2 v4 v5 v6 v7 σ => X9_sheet_l46 N (fun v1 v5 σ => X9_sheet_j138 N v1 v5 σ) m v1 v2 v4 v5 v6 v7 σ) kind v step u (f + nI i * step) (nI i) (szS kind v f step i) (nI i) τ = X9_sheet_l46 N (fun v1 v5 σ => X9_sheet_j138 N v1 v5 σ) m kind v step (u + szS kind v f step i) (f + nI (i + 1) * step) (nI (i + 1)) (wi τ 151 i (szS kind v f step i)) := by
        unfold X9_sheet_j112
        rw [inbI (show i < 8 by omega) (by omega), clI (by omega)]
        simp only [if_true, bnS]
        rw [giw, if_pos ⟨rfl, rfl⟩, nI_smul, nI1]
      have hj : ∀ x, x = naS kind (f + nI i * step) → X9_sheet_j78 N (fun v1 v2 v4 v5 v6 v7 σ => X9_sheet_l46 N (fun v1 v5 σ => X9_sheet_j138 N v1 v5 σ) m v1 v2 v4 v5 v6 v7 σ) kind v step u (f + nI i * step) (nI i) x τ = X9_sheet_l46 N (fun v1 v5 σ => X9_sheet_j138 N v1 v5 σ) m kind v step (u + szS kind v f step i) (f + nI (i + 1) * step) (nI (i + 1)) (wi τ 151 i (szS kind v f step i)) := by
        intro x hx
        rw [← hj2]
        unfold X9_sheet_j78
        by_cases q3 : kind = 3
        · rw [if_pos q3, show szS kind v f step i = 1 by unfold szS; rw [if_pos (Or.inl q3)]]
        · rw [if_neg q3]
          by_cases q : nI i < v
          · rw [if_pos q, min_b, Option.bind_some, max_b, Option.bind_some, show szS kind v f step i = clS x by unfold szS; rw [if_neg (fun z => z.elim q3 (fun y => absurd q (Int32.not_lt.mpr y))), hx]]
            rfl
          · rw [if_neg q, show szS kind v f step i = 1 by unfold szS; rw [if_pos (Or.inr (Int32.not_lt.mp q))]]
      have en := (i3.g (k := 149) (j := 3) (by decide)).trans hn
      dsimp only
      rw [X9_sheet_l46, en, if_neg (n_le hi (by omega))]
      by_cases q0 : kind = 0
      · rw [if_pos q0]
        exact hj _ (by unfold naS; rw [if_pos q0])
      · rw [if_neg q0]
        by_cases q1 : kind = 1
        · rw [if_pos q1]
          exact hj _ (by unfold naS; rw [if_neg q0, if_pos q1])
        · rw [if_neg q1]
          exact hj _ (by unfold naS; rw [if_neg q0, if_neg q1])
  · intro m a hI
    obtain ⟨u, τ⟩ := a
    obtain ⟨i1, i2, i3⟩ := hI
    dsimp only at i1 i2 i3 ⊢
    refine ⟨τ, ?_, i2, i3⟩
    rw [X9_sheet_l46, (i3.g (k := 149) (j := 3) (by decide)).trans hn, if_pos (nI_le (Nat.le_refl _) (by omega)), X9_sheet_j138, i1]
    by_cases q3 : kind = 3
    · rw [if_pos q3, if_pos q3]
    · rw [if_neg q3, if_neg q3]
theorem sheet_op {N : Nat} (hN : 555 < N) {H : Nat} {A : Ab} (hA : OkA H A) (kind v f step : Int32) : OpB (X8_sheet N kind v f step) (X9_sheet N kind v f step) H A := by
  obtain ⟨L, now, t, to, p, s, w⟩ := A
  have hA0 := hA
  obtain ⟨k1, k2, k3, ⟨k4, k4'⟩, k5, k6⟩ := hA
  dsimp only at k1 k2 k3 k4 k4' k5 k6
  have h8 := k1.1.2.2.2.2
  rcases upto 3 (by omega) kind with ⟨q, hq, rfl⟩ | h
  · by_cases hv : v ≤ 8
    · by_cases hbad : ¬ nI q = 3 ∧ ¬ 0 ≤ v
      · refine OpB.no hA0 (-2) (fun σ _ => ?_) (fun σ _ => ?_)
        · unfold X8_sheet
          rw [if_neg (nI_pos (by omega)), if_neg (show ¬ (3 : Int32) < nI q from nI_nlt (a := 3) hq (by decide)), if_pos hv, if_neg hbad.1, if_neg hbad.2]
        · unfold X9_sheet
          simp only [bnS]
          rw [in11 N (hi := 3) (h64 := 3) rfl (nI_pos (by omega)) (nI_le (b := 3) hq (by decide)), Option.bind_some, if_neg oneF, if_pos hv, if_neg hbad.1, if_neg hbad.2]
      · refine ⟨if nI q = 3 then -3 else sumB (fun _ => true) (szS (nI q) v f step) L.1, ((L.1, szS (nI q) v f step, L.2.2), now, t, to, p, s, w), ?_, ?_, k1.mono (by omega), k2, k3, ⟨k4, fun q hq => (k4' q hq).mono (by omega)⟩, fun i r hi hr => (k5 i r hi hr).mono (by omega), k6⟩
        · rintro σ ⟨c1, c2, c3, c4, c5, c6, c7⟩
          dsimp only at c1 c2 c3 c4 c5 c6 c7
          have key : ∀ u, (nI q = 3 → u ≤ 0) → (∀ i, szS (nI q) u f step i = szS (nI q) v f step i) → ∃ σ', X0_setSizes N (nI q) u f step σ = some (sumB (fun _ => true) (szS (nI q) v f step) L.1, σ') ∧ InvC σ' ((L.1, szS (nI q) v f step, L.2.2), now, t, to, p, s, w) ∧ ∀ B, InvR σ B → InvR σ' B := by
            intro u hu hs
            obtain ⟨σ', e1, e2, e3⟩ := setSizes_c (N := N) (by omega) c1.n.1 h8 (nI q) u f step hu
            have hfe : szS (nI q) u f step = szS (nI q) v f step := funext hs
            rw [hfe] at e1 e2
            refine ⟨σ', e1, ⟨?_, (e3.row19 (by decide)).trans c2, c3.fr e3 (by decide), c4.fr e3 (by decide), c5.fr e3 (by decide +kernel), c6.fr e3 (by decide +kernel), c7.fr e3 (by decide)⟩, fun B hB => hB.fr e3 (by decide)⟩
            obtain ⟨kk, m1, m2, m3⟩ := c1
            exact ⟨kk, (e3.g (k := 5) (j := 2) (by decide)).trans m1, (e3.g (k := 5) (j := 3) (by decide)).trans m2, m3.sz e3 e2⟩
          unfold X8_sheet
          rw [if_neg (nI_pos (by omega)), if_neg (show ¬ (3 : Int32) < nI q from nI_nlt (a := 3) hq (by decide)), if_pos hv]
          by_cases q3 : nI q = 3
          · obtain ⟨σ', e1, e2, e3⟩ := key 0 (fun _ => by decide) (fun i => by unfold szS; rw [if_pos (Or.inl q3), if_pos (Or.inl q3)])
            rw [if_pos q3, if_pos q3, e1]
            exact ⟨σ', rfl, e2, e3⟩
          · have hv0 : 0 ≤ v := Classical.byContradiction fun z => hbad ⟨q3, z⟩
            obtain ⟨σ', e1, e2, e3⟩ := key v (fun z => absurd z q3) (fun i => rfl)
            rw [if_neg q3, if_neg q3, if_pos hv0, e1]
            exact ⟨σ', rfl, e2, e3⟩
        · rintro σ ⟨c1, c2, c3, c4, c5, c6, c7⟩
          dsimp only at c1 c2 c3 c4 c5 c6 c7
          have f0 := thrown_f σ 0
          obtain ⟨σ', e1, e2, e3⟩ := sheet_r (N := N) (by omega) (c1.fr f0 (by decide)).1 h8 (nI q) v f step
          have ff : Fr [3000, 151] σ σ' := (f0.mono (by decide)).trans (e3.mono (by decide))
          refine ⟨σ', ?_, ⟨c1.sz ff e2, (rR_congr (ff.r (by simp [pl]))).trans c2, c3.fr ff (by decide), c4.fr ff (by decide), c5.fr ff (by decide), c6.fr ff (by decide), c7.fr ff (by decide)⟩, fun B hB => hB.fr ff (by decide +kernel)⟩
          unfold X9_sheet
          simp only [bnS]
          rw [in11 N (hi := 3) (h64 := 3) rfl (nI_pos (by omega)) (nI_le (b := 3) hq (by decide)), Option.bind_some, if_neg oneF, if_pos hv]
          by_cases q3 : nI q = 3
          · rw [if_pos q3, e1]
          · have hv0 : 0 ≤ v := Classical.byContradiction fun z => hbad ⟨q3, z⟩
            rw [if_neg q3, if_pos hv0, e1]
    · refine OpB.no hA0 (-1) (fun σ _ => ?_) (fun σ _ => ?_)
      · unfold X8_sheet
        rw [if_neg (nI_pos (by omega)), if_neg (show ¬ (3 : Int32) < nI q from nI_nlt (a := 3) hq (by decide)), if_neg hv]
      · unfold X9_sheet
        simp only [bnS]
        rw [in11 N (hi := 3) (h64 := 3) rfl (nI_pos (by omega)) (nI_le (b := 3) hq (by decide)), Option.bind_some, if_neg oneF, if_neg hv]
  · refine OpB.no hA0 (-1) (fun σ _ => ?_) (fun σ _ => ?_)
    · unfold X8_sheet
      by_cases z : kind < 0
      · rw [if_pos z]
      · rw [if_neg z, if_pos (show (3 : Int32) < kind from h.resolve_left z)]
    · unfold X9_sheet
      simp only [bnS]
      rw [in01 N (hi := 3) (h64 := 3) rfl h, Option.bind_some, if_pos rfl]
