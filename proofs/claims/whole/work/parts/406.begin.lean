/-! ===== the beginning: what both sides hold once they are made ===== -/
def sgB : Sg := wi (wi (zi H112 180) 5 2 7) 5 3 11
def now0 : Nat → Int32 := fun j => if j = 33 then 30 else 0
def A0 : Ab := ((0, r0, r0, 1, plT, 7), now0, [], [], [], fun _ => none, [])
theorem now0_z {j : Nat} (h : j ≠ 33) : now0 j = 0 := if_neg h
theorem b_c1 : gi sgB 5 2 = nI 7 ∧ gi sgB 5 3 = nI 11 ∧ gi sgB 5 1 = nI 0 ∧ gi sgB 5 8 = nI 1 ∧ gi sgB 17 0 = 0 := by decide +kernel
theorem b_c2 : ∀ j, j < 37 → rC sgB 19 j = now0 j := by decide +kernel
theorem b_c3 : gi sgB 1 1 = nI 0 ∧ gi sgB 3 1 = nI 0 ∧ gi sgB 29 1 = nI 0 ∧ gi sgB 29 2 = nI 0 ∧ gi sgB 128 3 = nI 0 := by decide +kernel
theorem b_c4 : ∀ i, i < 3 → hb (gi sgB 111 1) i = false := by decide +kernel
theorem b_r1 : gi sgB 149 3 = nI 0 ∧ gi sgB 149 5 = nI 1 ∧ gi sgB 152 0 = 0 ∧ gi sgB 149 19 = 0 := by decide +kernel
theorem b_r2 : ∀ j, j < 37 → rR sgB 153 j = now0 j := by decide +kernel
theorem b_r3 : gi sgB 149 11 = nI 0 ∧ gi sgB 149 1 = nI 0 ∧ gi sgB 149 23 = nI 0 ∧ gi sgB 149 35 = nI 0 ∧ gi sgB 149 4 = nI 0 := by decide +kernel
theorem b_r4 : ∀ i, i < 3 → gi sgB 177 i = 0 ∧ gi sgB 178 i = nI 0 := by decide +kernel
theorem b_cd1 : gi sgB 7 3 = nI 7 := by decide +kernel
theorem b_cd2 : ∀ i, i < 7 → gi sgB 8 i = tokC (plT i) := by decide +kernel
theorem b_cd : CdC sgB 7 plT 7 := ⟨b_cd1, b_cd2⟩
theorem row_eq {f g : Nat → Int32} (h : ∀ j, j < 37 → f j = g j) (hf : ∀ j, 37 ≤ j → f j = 0) (hg : ∀ j, 37 ≤ j → g j = 0) : f = g := by
  funext j
  rcases Nat.lt_or_ge j 37 with q | q
  · exact h j q
  · rw [hf j q, hg j q]
theorem A0_c : InvC sgB A0 := by
  obtain ⟨a1, a2, a3, a4, a5⟩ := b_c1
  obtain ⟨c1, c2, c3, c4, c5⟩ := b_c3
  refine ⟨⟨7, a1, a2, a3, by decide, fun i hi => absurd hi (Nat.not_lt_zero _), a4, Nat.le_refl _, by decide, fun i hi => ?_, b_cd, plT_Gd, Or.inl rfl⟩, ?_, ⟨c1, fun i hi => absurd hi (Nat.not_lt_zero _)⟩, ⟨c2, fun i hi => absurd hi (Nat.not_lt_zero _)⟩, ⟨0, by decide, c3, c4, fun i hi => absurd hi (Nat.not_lt_zero _)⟩, fun i hi => ⟨b_c4 i hi, fun r hr => by cases hr⟩, ⟨c5, fun i hi => absurd hi (Nat.not_lt_zero _)⟩⟩
  · have : i = 0 := by
      have hi' : i < 1 := hi
      omega
    subst this
    exact a5
  · refine row_eq b_c2 (fun j hj => ?_) (fun j hj => now0_z (by omega))
    unfold rC
    rw [if_neg (by omega), if_neg (by omega), if_neg (by omega), if_neg (by omega), if_neg (by omega)]
theorem A0_r : InvR sgB A0 := by
  obtain ⟨a1, a2, a3, a4⟩ := b_r1
  obtain ⟨c1, c2, c3, c4, c5⟩ := b_r3
  refine ⟨⟨a1, by decide, fun i hi => absurd hi (Nat.not_lt_zero _), a2, Nat.le_refl _, by decide, fun i hi => ?_, Or.inr ⟨a4, rfl, fun i _ => rfl⟩, plT_Gd⟩, ?_, ⟨c1, fun i hi => absurd hi (Nat.not_lt_zero _)⟩, ⟨c2, fun i hi => absurd hi (Nat.not_lt_zero _)⟩, ⟨c3, fun i hi => absurd hi (Nat.not_lt_zero _)⟩, ⟨0, Nat.le_refl _, c5, fun i hi => ?_⟩, ⟨c4, fun i hi => absurd hi (Nat.not_lt_zero _)⟩⟩
  · have : i = 0 := by
      have hi' : i < 1 := hi
      omega
    subst this
    exact a3
  · refine row_eq b_r2 (fun j hj => ?_) (fun j hj => now0_z (by omega))
    unfold rR
    rw [if_neg (by omega)]
  · obtain ⟨d1, d2⟩ := b_r4 i hi
    refine ⟨Or.inl d1, ?_, ⟨0, Nat.le_refl _, d2⟩, fun r hr => by cases hr⟩
    constructor
    · intro h
      cases h
    · intro h
      rw [d1] at h
      exact absurd h.1 (by decide)
theorem A0_wf : WF 0 9 0 now0 := by
  have z : ∀ j, j ≠ 33 → now0 j = nI 0 := fun j hj => (now0_z hj).trans (by decide)
  have hbz : ∀ j i, j ≠ 33 → hb (now0 j) i = false := fun j i hj => by rw [now0_z hj]; exact hb_0 i
  refine ⟨⟨fun i hi j _ => hbz (24 + i) j (by omega), fun i j hi hj => by rw [hbz (24 + i) j (by omega), hbz (24 + j) i (by omega)], fun i _ h => ?_, fun i _ => hbz 32 i (by decide), by decide⟩, fun i hi => ⟨0, by decide, z (8 + i) (by omega)⟩, fun i hi => ⟨⟨0, by decide, z i (by omega)⟩, 0, by decide, z (16 + i) (by omega)⟩, fun i _ h => ?_, fun i _ hi => ⟨now0_z (by omega), now0_z (by omega), now0_z (by omega)⟩, fun i hi => hbz (24 + i) i (by omega), ⟨0, by decide, z 34 (by decide)⟩, ⟨0, by decide, z 36 (by decide)⟩⟩
  · rw [hbz 32 i (by decide)] at h
    cases h
  · rw [hbz 32 i (by decide)] at h
    cases h
theorem A0_ok : OkA 0 A0 := ⟨A0_wf, ⟨by decide, fun x hx => by cases hx⟩, by decide, ⟨by decide, fun r hr => by cases hr⟩, (fun i r _ h => by cases h), ⟨by decide, fun w hw => by cases hw⟩⟩
