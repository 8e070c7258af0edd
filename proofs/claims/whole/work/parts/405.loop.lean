/-! ===== the law's loop ===== -/
def LEnd (E : Ev) (Z : Zx) : Prop := ∀ (cells slots : Nat) (σ : Sg) (lv : List (Nat × Value)), cells ≤ lawM → slots ≤ lawS → Wm E Z cells slots SH0 σ 1405 lv []
theorem len5 {L k : Nat} (hL : L ≤ 320) (hk : k ≤ 64) (h : ¬ Int32.ofNat L - 5 < nI (5 * k)) : 5 * k + 5 ≤ L := by
  have hp : ¬ nI (5 * k) < 0 := nI_pos (by omega)
  rcases Nat.lt_or_ge L 5 with q | q
  · exfalso
    apply h
    have h0 : Int32.ofNat L - 5 < 0 := by
      have : L = 0 ∨ L = 1 ∨ L = 2 ∨ L = 3 ∨ L = 4 := by omega
      rcases this with rfl | rfl | rfl | rfl | rfl <;> decide
    exact Int32.lt_of_lt_of_le h0 (Int32.not_lt.mp hp)
  · obtain ⟨j, rfl⟩ : ∃ j, L = j + 5 := ⟨L - 5, by omega⟩
    have e : Int32.ofNat (j + 5) - 5 = nI j := by
      show nI (j + 5) - nI 5 = nI j
      rw [← nI_add, Int32.add_sub_cancel]
    rw [e] at h
    rcases Nat.lt_or_ge j (5 * k) with q2 | q2
    · exact absurd (nI_lt q2 (by omega)) h
    · omega
set_option maxRecDepth 100000 in
set_option maxHeartbeats 8000000 in
theorem law_loop {E : Ev} {Z : Zx} {L : Nat} {xs : Nat → Int32} (C : LwC E Z) (hX : SX E Z L xs) (hl : E.1.stackTraces = false) (hL : L ≤ 320) (hEnd : LEnd E Z) : ∀ (n k : Nat), 65 ≤ k + n → k ≤ 64 → ∀ (σ : Sg) (A : Ab) (cells slots : Nat), cells ≤ 1000 + k → slots ≤ 10000 + 6 * k → InvC σ A → InvR σ A → OkA (300 * k) A → Wm E Z cells slots SH0 σ 23 (lvK k) [] := by
  intro n
  induction n with
  | zero => intro k h1 h2; omega
  | succ n ih =>
    intro k h1 h2 σ A cells slots hc hs hC hR hA
    have hN : 5000 < 6000 := by decide
    have hH : 300 * k < 1000000 := by omega
    have hf : cells + 1 ≤ lawM ∧ slots + 6 ≤ lawS := ⟨by show cells + 1 ≤ 600128; omega, by show slots + 6 ≤ 7301097; omega⟩
    have hf0 : cells ≤ lawM ∧ slots ≤ lawS := ⟨Nat.le_trans (Nat.le_succ _) hf.1, Nat.le_trans (Nat.le_add_right _ _) hf.2⟩
    refine r_iload (pc' := 25) C dL_law_23 rfl 0 rfl ?_
    refine r_aload_n (pc' := 26) C dL_law_25 rfl 4 rfl ?_
    refine r_slen (pc' := 27) C hX dL_law_26 rfl ?_
    refine r_iconst (pc' := 28) (v := 5) C dL_law_27 rfl rfl ?_
    refine r_isub (pc' := 29) C dL_law_28 rfl ?_
    refine r_icmp_gt (tgt := 1405) (pc' := 32) C dL_law_29 rfl rfl (fun _ => hEnd cells slots σ _ hf0.1 hf0.2) (fun c1 => ?_)
    have hk : 5 * k + 5 ≤ L := len5 hL h2 c1
    have hS0 : ∀ (c s : Nat), c ≤ 1000 + (k + 1) → s ≤ 10000 + 6 * (k + 1) → LStep E Z (300 * k) k c s := by
      intro c s hc hs σ' A' g1 g2 g3
      refine r_iinc (pc' := 1402) (v := nI (5 * (k + 1))) (lv2 := lvK (k + 1)) C dL_law_1399 rfl 0 rfl (nI_add (5 * k) 5) (by decide) rfl ?_
      refine r_goto (tgt := 23) C dL_law_1402 rfl ?_
      exact ih (k + 1) (by omega) (by omega) σ' A' c s hc hs g1 g2 (by rw [Nat.mul_succ]; exact g3)
    have hS : LStep E Z (300 * k) k cells slots := hS0 cells slots (by omega) (by omega)
    have hS6 : LStep E Z (300 * k) k (cells + 1) (slots + 6) := hS0 _ _ (by omega) (by omega)
    refine r_aload_n (pc' := 33) C dL_law_32 rfl 4 rfl ?_
    refine r_iload (pc' := 35) C dL_law_33 rfl 0 rfl ?_
    refine r_sld (pc' := 36) C hX (vp_in_nI (by omega) (by omega)) dL_law_35 rfl ?_
    refine r_bipush (pc' := 38) (v := 63) C dL_law_36 rfl (by decide) ?_
    refine r_iand (pc' := 39) C dL_law_38 rfl ?_
    generalize (xs (nI (5 * k)).toNatClampNeg &&& 63) = x
    by_cases hin : x < 0 ∨ nI 45 < x
    · refine r_tabOut (tgt := 1399) C dL_law_39 ?_ rfl (hS σ A hC hR (hA.mono (Nat.le_add_right _ _)))
      rcases hin with h | h
      · exact Or.inl (Int32.lt_iff_toInt_lt.mp h)
      · exact Or.inr (Int32.lt_iff_toInt_lt.mp h)
    · obtain ⟨j, hj, hx⟩ := nI_of2 (x := x) (M := 45) (n := 45) rfl (fun q => hin (Or.inl q)) (Int32.not_lt.mp fun q => hin (Or.inr q))
      have hj' : j = 0 ∨ j = 1 ∨ j = 2 ∨ j = 3 ∨ j = 4 ∨ j = 5 ∨ j = 6 ∨ j = 7 ∨ j = 8 ∨ j = 9 ∨ j = 10 ∨ j = 11 ∨ j = 12 ∨ j = 13 ∨ j = 14 ∨ j = 15 ∨ j = 16 ∨ j = 17 ∨ j = 18 ∨ j = 19 ∨ j = 20 ∨ j = 21 ∨ j = 22 ∨ j = 23 ∨ j = 24 ∨ j = 25 ∨ j = 26 ∨ j = 27 ∨ j = 28 ∨ j = 29 ∨ j = 30 ∨ j = 31 ∨ j = 32 ∨ j = 33 ∨ j = 34 ∨ j = 35 ∨ j = 36 ∨ j = 37 ∨ j = 38 ∨ j = 39 ∨ j = 40 ∨ j = 41 ∨ j = 42 ∨ j = 43 ∨ j = 44 ∨ j = 45 := by omega
      rcases hj' with rfl | rfl | rfl | rfl | rfl | rfl | rfl | rfl | rfl | rfl | rfl | rfl | rfl | rfl | rfl | rfl | rfl | rfl | rfl | rfl | rfl | rfl | rfl | rfl | rfl | rfl | rfl | rfl | rfl | rfl | rfl | rfl | rfl | rfl | rfl | rfl | rfl | rfl | rfl | rfl | rfl | rfl | rfl | rfl | rfl | rfl
      · refine r_tabIn (tgt := 236) C dL_law_39 (by rw [hx]; decide) (by rw [hx]; decide) (by rw [hx]; rfl) rfl ?_
        exact law_0 C hX hL hk hN hf0 hH hA hC hR hS
      · refine r_tabIn (tgt := 261) C dL_law_39 (by rw [hx]; decide) (by rw [hx]; decide) (by rw [hx]; rfl) rfl ?_
        exact law_1 C hX hL hk hN hf0 hH hA hC hR hS
      · refine r_tabIn (tgt := 286) C dL_law_39 (by rw [hx]; decide) (by rw [hx]; decide) (by rw [hx]; rfl) rfl ?_
        exact law_2 C hX hL hk hN hf0 hH hA hC hR hS
      · refine r_tabIn (tgt := 299) C dL_law_39 (by rw [hx]; decide) (by rw [hx]; decide) (by rw [hx]; rfl) rfl ?_
        exact law_3 C hX hL hk hN hf0 hH hA hC hR hS
      · refine r_tabIn (tgt := 312) C dL_law_39 (by rw [hx]; decide) (by rw [hx]; decide) (by rw [hx]; rfl) rfl ?_
        exact law_4 C hX hL hk hN hf0 hH hA hC hR hS
      · refine r_tabIn (tgt := 325) C dL_law_39 (by rw [hx]; decide) (by rw [hx]; decide) (by rw [hx]; rfl) rfl ?_
        exact law_5 C hX hL hk hN hf0 hH hA hC hR hS
      · refine r_tabIn (tgt := 338) C dL_law_39 (by rw [hx]; decide) (by rw [hx]; decide) (by rw [hx]; rfl) rfl ?_
        exact law_6 C hX hl hL hk hN hf hH hA hC hR hS6
      · refine r_tabIn (tgt := 406) C dL_law_39 (by rw [hx]; decide) (by rw [hx]; decide) (by rw [hx]; rfl) rfl ?_
        exact law_7 C hX hL hk hN hf0 hH hA hC hR hS
      · refine r_tabIn (tgt := 467) C dL_law_39 (by rw [hx]; decide) (by rw [hx]; decide) (by rw [hx]; rfl) rfl ?_
        exact law_8 C hX hL hk hN hf0 hH hA hC hR hS
      · refine r_tabIn (tgt := 492) C dL_law_39 (by rw [hx]; decide) (by rw [hx]; decide) (by rw [hx]; rfl) rfl ?_
        exact law_9 C hX hL hk hN hf0 hH hA hC hR hS
      · refine r_tabIn (tgt := 529) C dL_law_39 (by rw [hx]; decide) (by rw [hx]; decide) (by rw [hx]; rfl) rfl ?_
        exact law_10 C hX hL hk hN hf0 hH hA hC hR hS
      · refine r_tabIn (tgt := 566) C dL_law_39 (by rw [hx]; decide) (by rw [hx]; decide) (by rw [hx]; rfl) rfl ?_
        exact law_11 C hX hL hk hN hf0 hH hA hC hR hS
      · refine r_tabIn (tgt := 603) C dL_law_39 (by rw [hx]; decide) (by rw [hx]; decide) (by rw [hx]; rfl) rfl ?_
        exact law_12 C hX hL hk hN hf0 hH hA hC hR hS
      · refine r_tabIn (tgt := 628) C dL_law_39 (by rw [hx]; decide) (by rw [hx]; decide) (by rw [hx]; rfl) rfl ?_
        exact law_13 C hX hL hk hN hf0 hH hA hC hR hS
      · refine r_tabIn (tgt := 653) C dL_law_39 (by rw [hx]; decide) (by rw [hx]; decide) (by rw [hx]; rfl) rfl ?_
        exact law_14 C hX hL hk hN hf0 hH hA hC hR hS
      · refine r_tabIn (tgt := 666) C dL_law_39 (by rw [hx]; decide) (by rw [hx]; decide) (by rw [hx]; rfl) rfl ?_
        exact law_15 C hX hL hk hN hf0 hH hA hC hR hS
      · refine r_tabIn (tgt := 679) C dL_law_39 (by rw [hx]; decide) (by rw [hx]; decide) (by rw [hx]; rfl) rfl ?_
        exact law_16 C hX hL hk hN hf0 hH hA hC hR hS
      · refine r_tabIn (tgt := 692) C dL_law_39 (by rw [hx]; decide) (by rw [hx]; decide) (by rw [hx]; rfl) rfl ?_
        exact law_17 C hX hL hk hN hf0 hH hA hC hR hS
      · refine r_tabIn (tgt := 717) C dL_law_39 (by rw [hx]; decide) (by rw [hx]; decide) (by rw [hx]; rfl) rfl ?_
        exact law_18 C hX hL hk hN hf0 hH hA hC hR hS
      · refine r_tabIn (tgt := 754) C dL_law_39 (by rw [hx]; decide) (by rw [hx]; decide) (by rw [hx]; rfl) rfl ?_
        exact law_19 C hX hL hk hN hf0 hH hA hC hR hS
      · refine r_tabIn (tgt := 779) C dL_law_39 (by rw [hx]; decide) (by rw [hx]; decide) (by rw [hx]; rfl) rfl ?_
        exact law_20 C hX hL hk hN hf0 hH hA hC hR hS
      · refine r_tabIn (tgt := 804) C dL_law_39 (by rw [hx]; decide) (by rw [hx]; decide) (by rw [hx]; rfl) rfl ?_
        exact law_21 C hX hL hk hN hf0 hH hA hC hR hS
      · refine r_tabIn (tgt := 829) C dL_law_39 (by rw [hx]; decide) (by rw [hx]; decide) (by rw [hx]; rfl) rfl ?_
        exact law_22 C hX hL hk hN hf0 hH hA hC hR hS
      · refine r_tabIn (tgt := 842) C dL_law_39 (by rw [hx]; decide) (by rw [hx]; decide) (by rw [hx]; rfl) rfl ?_
        exact law_23 C hX hL hk hN hf0 hH hA hC hR hS
      · refine r_tabIn (tgt := 855) C dL_law_39 (by rw [hx]; decide) (by rw [hx]; decide) (by rw [hx]; rfl) rfl ?_
        exact law_24 C hX hL hk hN hf0 hH hA hC hR hS
      · refine r_tabIn (tgt := 868) C dL_law_39 (by rw [hx]; decide) (by rw [hx]; decide) (by rw [hx]; rfl) rfl ?_
        exact law_25 C hX hL hk hN hf0 hH hA hC hR hS
      · refine r_tabIn (tgt := 881) C dL_law_39 (by rw [hx]; decide) (by rw [hx]; decide) (by rw [hx]; rfl) rfl ?_
        exact law_26 C hX hL hk hN hf0 hH hA hC hR hS
      · refine r_tabIn (tgt := 918) C dL_law_39 (by rw [hx]; decide) (by rw [hx]; decide) (by rw [hx]; rfl) rfl ?_
        exact law_27 C hX hL hk hN hf0 hH hA hC hR hS
      · refine r_tabIn (tgt := 931) C dL_law_39 (by rw [hx]; decide) (by rw [hx]; decide) (by rw [hx]; rfl) rfl ?_
        exact law_28 C hX hL hk hN hf0 hH hA hC hR hS
      · refine r_tabIn (tgt := 956) C dL_law_39 (by rw [hx]; decide) (by rw [hx]; decide) (by rw [hx]; rfl) rfl ?_
        exact law_29 C hX hL hk hN hf0 hH hA hC hR hS
      · refine r_tabIn (tgt := 1005) C dL_law_39 (by rw [hx]; decide) (by rw [hx]; decide) (by rw [hx]; rfl) rfl ?_
        exact law_30 C hX hL hk hN hf0 hH hA hC hR hS
      · refine r_tabIn (tgt := 1018) C dL_law_39 (by rw [hx]; decide) (by rw [hx]; decide) (by rw [hx]; rfl) rfl ?_
        exact law_31 C hX hL hk hN hf0 hH hA hC hR hS
      · refine r_tabIn (tgt := 1031) C dL_law_39 (by rw [hx]; decide) (by rw [hx]; decide) (by rw [hx]; rfl) rfl ?_
        exact law_32 C hX hL hk hN hf0 hH hA hC hR hS
      · refine r_tabIn (tgt := 1044) C dL_law_39 (by rw [hx]; decide) (by rw [hx]; decide) (by rw [hx]; rfl) rfl ?_
        exact law_33 C hX hL hk hN hf0 hH hA hC hR hS
      · refine r_tabIn (tgt := 1069) C dL_law_39 (by rw [hx]; decide) (by rw [hx]; decide) (by rw [hx]; rfl) rfl ?_
        exact law_34 C hX hL hk hN hf0 hH hA hC hR hS
      · refine r_tabIn (tgt := 1094) C dL_law_39 (by rw [hx]; decide) (by rw [hx]; decide) (by rw [hx]; rfl) rfl ?_
        exact law_35 C hX hL hk hN hf0 hH hA hC hR hS
      · refine r_tabIn (tgt := 1107) C dL_law_39 (by rw [hx]; decide) (by rw [hx]; decide) (by rw [hx]; rfl) rfl ?_
        exact law_36 C hX hL hk hN hf0 hH hA hC hR hS
      · refine r_tabIn (tgt := 1120) C dL_law_39 (by rw [hx]; decide) (by rw [hx]; decide) (by rw [hx]; rfl) rfl ?_
        exact law_37 C hX hL hk hN hf0 hH hA hC hR hS
      · refine r_tabIn (tgt := 1157) C dL_law_39 (by rw [hx]; decide) (by rw [hx]; decide) (by rw [hx]; rfl) rfl ?_
        exact law_38 C hX hL hk hN hf0 hH hA hC hR hS
      · refine r_tabIn (tgt := 1194) C dL_law_39 (by rw [hx]; decide) (by rw [hx]; decide) (by rw [hx]; rfl) rfl ?_
        exact law_39 C hX hL hk hN hf0 hH hA hC hR hS
      · refine r_tabIn (tgt := 1207) C dL_law_39 (by rw [hx]; decide) (by rw [hx]; decide) (by rw [hx]; rfl) rfl ?_
        exact law_40 C hX hL hk hN hf0 hH hA hC hR hS
      · refine r_tabIn (tgt := 1232) C dL_law_39 (by rw [hx]; decide) (by rw [hx]; decide) (by rw [hx]; rfl) rfl ?_
        exact law_41 C hX hL hk hN hf0 hH hA hC hR hS
      · refine r_tabIn (tgt := 1269) C dL_law_39 (by rw [hx]; decide) (by rw [hx]; decide) (by rw [hx]; rfl) rfl ?_
        exact law_42 C hX hL hk hN hf0 hH hA hC hR hS
      · refine r_tabIn (tgt := 1294) C dL_law_39 (by rw [hx]; decide) (by rw [hx]; decide) (by rw [hx]; rfl) rfl ?_
        exact law_43 C hX hL hk hN hf0 hH hA hC hR hS
      · refine r_tabIn (tgt := 1319) C dL_law_39 (by rw [hx]; decide) (by rw [hx]; decide) (by rw [hx]; rfl) rfl ?_
        exact law_44 C hX hL hk hN hf0 hH hA hC hR hS
      · refine r_tabIn (tgt := 1344) C dL_law_39 (by rw [hx]; decide) (by rw [hx]; decide) (by rw [hx]; rfl) rfl ?_
        exact law_45 C hX hl hL hk hN hf hH hA hC hR hS6
