/-! ===== an hour of the reference; hours ===== -/
theorem has_t (N : Nat) {v : Int32} {i : Nat} (hi : i < 32) (h : hb v i = true) (σ : Sg) : X9_has N v (nI i) σ = some 1 := by rw [has_b N v hi, if_pos h]
theorem has_f (N : Nat) {v : Int32} {i : Nat} (hi : i < 32) (h : hb v i = false) (σ : Sg) : X9_has N v (nI i) σ = some 0 := by rw [has_b N v hi, h]; rfl
theorem and_not1 {x : Int32} (hx : ∀ j, 8 ≤ j → hb x j = false) {k : Nat} (hk : k < 8) : x &&& ((1 <<< (nI k &&& 31)) ^^^ (-1)) = mkB (fun i => hb x i && !decide (i = k)) 8 := by
  apply hb_ext
  intro i hi
  rw [hb_and, hb_not _ hi, hb_one k (by omega) i hi, hb_8]
  rcases Nat.lt_or_ge i 8 with q | q
  · simp [q]
  · rw [hx i q]; simp
theorem goes_b {N : Nat} (hN : 8 < N) {k1 : Nat} (hk : k1 = 153 ∨ k1 = 154) {σ : Sg} {n : Nat} (hn : gi σ 149 3 = nI n) (h8 : n ≤ 8) {k : Nat} (hkn : k < n) (hl : ∀ i, i < 8 → ∀ j, 8 ≤ j → hb (rR σ k1 (24 + i)) j = false) (h0 : ∀ i, n ≤ i → i < 8 → rR σ k1 (24 + i) = 0) :
    ∃ σ', X9_goes N k1 (nI k) σ = some σ' ∧ rR σ' k1 = killS (rR σ k1) k ∧ gi σ' 149 25 = gi σ 149 25 + 1 ∧ gi σ' 149 26 = gi σ 149 26 + rR σ k1 k ∧ Fr [k1, 3025, 3026] σ σ' := by
  have hk8 : k < 8 := by omega
  have pk : ∀ j, pl k1 j ∈ [k1, 3025, 3026] := by intro j; rcases hk with rfl | rfl <;> simp [pl]
  have p149 : ∀ j, j ≠ 25 → j ≠ 26 → pl 149 j ∉ [k1, 3025, 3026] := by intro j h1 h2; rcases hk with rfl | rfl <;> simp [pl] <;> omega
  have ne : (149 : Nat) ≠ k1 := by omega
  have est : X9_goes N k1 (nI k) σ = X9_goes_l56 N k1 N (nI k) 0 (wi (wi (wi (wi (wi σ 149 25 (gi σ 149 25 + 1)) 149 26 (gi σ 149 26 + gi σ k1 k)) k1 35 (mn999 (gi σ k1 35 + gi σ k1 k))) k1 k 0) k1 32 (gi σ k1 32 ||| (1 <<< (nI k &&& 31)))) := by
    unfold X9_goes
    have f1 : ¬ k = 35 := by omega
    have f2 : ¬ 32 = k := by omega
    rcases hk with rfl | rfl <;> simp [bnS, inbI (show k < 37 by omega) (show 37 ≤ 2147483648 by omega), clI (show k < 2147483648 by omega), i37_35, i37_32, cl35, cl32, min_b, giw, f1, f2, mn999']
  have hR9 : rR (wi (wi (wi (wi (wi σ 149 25 (gi σ 149 25 + 1)) 149 26 (gi σ 149 26 + gi σ k1 k)) k1 35 (mn999 (gi σ k1 35 + gi σ k1 k))) k1 k 0) k1 32 (gi σ k1 32 ||| (1 <<< (nI k &&& 31)))) k1 = upd (upd (upd (rR σ k1) 35 (mn999 (rR σ k1 35 + rR σ k1 k))) k 0) 32 (rR σ k1 32 ||| (1 <<< (nI k &&& 31))) := by
    rw [rR_w (by omega), rR_w (by omega), rR_w (by omega), rR_j (show 35 < 37 by omega), rR_j (show 32 < 37 by omega), rR_j (show k < 37 by omega), rR_congr (gi_wi_ne (by omega)), rR_congr (gi_wi_ne (by omega))]
  have hF9 : Fr [k1, 3025, 3026] σ (wi (wi (wi (wi (wi σ 149 25 (gi σ 149 25 + 1)) 149 26 (gi σ 149 26 + gi σ k1 k)) k1 35 (mn999 (gi σ k1 35 + gi σ k1 k))) k1 k 0) k1 32 (gi σ k1 32 ||| (1 <<< (nI k &&& 31)))) := (((((Fr.refl _ _).wi (by simp [pl])).wi (by simp [pl])).wi (pk _)).wi (pk _)).wi (pk _)
  have h25 : gi (wi (wi (wi (wi (wi σ 149 25 (gi σ 149 25 + 1)) 149 26 (gi σ 149 26 + gi σ k1 k)) k1 35 (mn999 (gi σ k1 35 + gi σ k1 k))) k1 k 0) k1 32 (gi σ k1 32 ||| (1 <<< (nI k &&& 31)))) 149 25 = gi σ 149 25 + 1 := by
    rw [gi_wi_ne ne, gi_wi_ne ne, gi_wi_ne ne, giw, if_neg (by omega), giw, if_pos ⟨rfl, rfl⟩]
  have h26 : gi (wi (wi (wi (wi (wi σ 149 25 (gi σ 149 25 + 1)) 149 26 (gi σ 149 26 + gi σ k1 k)) k1 35 (mn999 (gi σ k1 35 + gi σ k1 k))) k1 k 0) k1 32 (gi σ k1 32 ||| (1 <<< (nI k &&& 31)))) 149 26 = gi σ 149 26 + rR σ k1 k := by
    rw [gi_wi_ne ne, gi_wi_ne ne, gi_wi_ne ne, giw, if_pos ⟨rfl, rfl⟩, rR_j (show k < 37 by omega)]
  rw [est]
  generalize wi (wi (wi (wi (wi σ 149 25 (gi σ 149 25 + 1)) 149 26 (gi σ 149 26 + gi σ k1 k)) k1 35 (mn999 (gi σ k1 35 + gi σ k1 k))) k1 k 0) k1 32 (gi σ k1 32 ||| (1 <<< (nI k &&& 31))) = σ9 at *
  generalize hR : rR σ k1 = R at *
  refine forL0 (L := fun m i a => X9_goes_l56 N k1 m (nI k) (nI i) a) (m := n) (a := σ9)
    (fun i a => Fr [k1, 3025, 3026] σ a ∧ gi a 149 25 = gi σ 149 25 + 1 ∧ gi a 149 26 = gi σ 149 26 + R k ∧ (∀ j, j < 24 ∨ 32 ≤ j → rR a k1 j = upd (upd (upd R 35 (mn999 (R 35 + R k))) k 0) 32 (R 32 ||| (1 <<< (nI k &&& 31))) j) ∧ (∀ x, x < 8 → rR a k1 (24 + x) = if x < i then R (24 + x) &&& ((1 <<< (nI k &&& 31)) ^^^ (-1)) else R (24 + x)))
    (o := fun x => ∃ σ', x = some σ' ∧ rR σ' k1 = killS R k ∧ gi σ' 149 25 = gi σ 149 25 + 1 ∧ gi σ' 149 26 = gi σ 149 26 + R k ∧ Fr [k1, 3025, 3026] σ σ') (by omega) ?_ ?_ ?_
  · refine ⟨hF9, h25, h26, fun j _ => by rw [hR9], fun x hx => ?_⟩
    rw [hR9, pk_un (by omega), pk_un (by omega), pk_un (by omega), if_neg (by omega)]
  · intro m i a hi hI
    obtain ⟨i1, i2, i3, i4, i5⟩ := hI
    left
    have ei : gi a k1 (24 + i) = R (24 + i) := by rw [← rR_j (k := k1) (show 24 + i < 37 by omega), i5 i (by omega), if_neg (by omega)]
    refine ⟨wi a k1 (24 + i) (R (24 + i) &&& ((1 <<< (nI k &&& 31)) ^^^ (-1))), ⟨i1.wi (pk _), ?_, ?_, fun j hj => ?_, fun x hx => ?_⟩, ?_⟩
    · rw [gi_wi_ne ne]; exact i2
    · rw [gi_wi_ne ne]; exact i3
    · rw [rR_w (by omega), pk_un (by omega)]; exact i4 j hj
    · rw [rR_w (by omega)]
      by_cases hxi : x = i
      · subst hxi; rw [pk_us, if_pos (by omega)]
      · rw [pk_un (by omega), i5 x hx]
        by_cases q : x < i
        · rw [if_pos q, if_pos (by omega)]
        · rw [if_neg q, if_neg (by omega)]
    · rw [X9_goes_l56, (i1.g (p149 3 (by omega) (by omega))).trans hn, if_neg (n_le hi (by omega)), show (24 : Int32) + nI i = nI (24 + i) from nI_add 24 i, inbI (show 24 + i < 37 by omega) (by omega), clI (by omega), ei, nI1]
      rfl
  · intro m a hI
    obtain ⟨i1, i2, i3, i4, i5⟩ := hI
    refine ⟨wi a k1 (24 + k) 0, ?_, ?_, by rw [gi_wi_ne ne]; exact i2, by rw [gi_wi_ne ne]; exact i3, i1.wi (pk _)⟩
    · rw [X9_goes_l56, (i1.g (p149 3 (by omega) (by omega))).trans hn, if_pos (nI_le (Nat.le_refl _) (by omega)), show (24 : Int32) + nI k = nI (24 + k) from nI_add 24 k, inbI (show 24 + k < 37 by omega) (by omega), clI (by omega)]
      rfl
    · rw [rR_w (by omega)]
      apply row_ext
      · intro j hj
        rw [pk_un (by omega), i4 j (Or.inl (by omega))]
        unfold killS
        rw [if_pos hj, pk_un (by omega)]
        by_cases hjk : j = k
        · subst hjk; rw [pk_us, if_pos rfl]
        · rw [pk_un hjk, pk_un (by omega), if_neg hjk]
      · intro j hj
        rw [pk_un (by omega), i4 _ (Or.inl (by omega)), pk_un (by omega), pk_un (by omega), pk_un (by omega)]
        unfold killS
        rw [if_neg (by omega), if_pos (by omega)]
      · intro j hj
        rw [pk_un (by omega), i4 _ (Or.inl (by omega)), pk_un (by omega), pk_un (by omega), pk_un (by omega)]
        unfold killS
        rw [if_neg (by omega), if_pos (by omega)]
      · intro x hx
        have e : killS R k (24 + x) = mkB (fun i => hb (R (24 + x)) i && !decide (x = k) && !decide (i = k)) 8 := by
          unfold killS
          rw [if_neg (by omega), if_neg (by omega), if_pos (by omega), show 24 + x - 24 = x by omega]
        rw [e]
        by_cases hxk : x = k
        · subst hxk
          rw [pk_us]
          apply hb_ext
          intro i _
          rw [hb_0, hb_8]; simp
        · rw [pk_un (by omega), i5 x hx]
          by_cases q : x < n
          · rw [if_pos q, and_not1 (hl x hx) hk8]
            simp [hxk]
          · rw [if_neg q, h0 x (by omega) hx]
            apply hb_ext
            intro i _
            rw [hb_0, hb_8, hb_0]; simp
      · intro j hj
        rw [pk_un (by omega), i4 _ (Or.inr hj)]
        unfold killS
        rw [if_neg (by omega), if_neg (by omega), if_neg (by omega)]
        by_cases h1 : j = 32
        · subst h1; rw [pk_us, if_pos rfl]
        · rw [if_neg h1, pk_un h1, pk_un (by omega)]
          by_cases h2 : j = 35
          · subst h2; rw [pk_us, if_pos rfl]
          · rw [pk_un h2, if_neg h2]
theorem hourGoes_b {N : Nat} (hN : 40 < N) {k1 : Nat} (hk : k1 = 153 ∨ k1 = 154) {σ : Sg} {L : Ld} (hL : LR σ L) {S H : Nat} (hH : H < 2147483648) (hW : WF L.1 S H (rR σ k1)) :
    ∃ σ', X9_hourGoes N k1 σ = some σ' ∧ rR σ' k1 = hourS L (rR σ k1) ∧ gi σ' 149 25 = gi σ 149 25 + nI (cntB (diesS L (rR σ k1)) L.1) ∧ gi σ' 149 26 = gi σ 149 26 + sumB (diesS L (rR σ k1)) (rR σ k1) L.1 ∧ Fr [159, 160, k1, 3025, 3026] σ σ' := by
  obtain ⟨w1, w2, w3, w4, w5, w6, w7, h, hh, e36⟩ := hW
  have h8 := w1.2.2.2.2
  obtain ⟨σ1, ef, ff⟩ := floating_r hN hk hL (show h < 2147483648 by omega) e36 w1
  have ff' : Fr [159, 160, k1, 3025, 3026] σ σ1 := ff.mono (by intro x hx; simp at hx ⊢; omega)
  have r1 : rR σ1 k1 = rR σ k1 := rR_congr (ff.r (by intro j; rcases hk with rfl | rfl <;> simp [pl]))
  have pk : ∀ j, pl k1 j ∈ [159, 160, k1, 3025, 3026] := by intro j; rcases hk with rfl | rfl <;> simp [pl]
  have p149 : ∀ j, j ≠ 25 → j ≠ 26 → pl 149 j ∉ [159, 160, k1, 3025, 3026] := by intro j h1 h2; rcases hk with rfl | rfl <;> simp [pl] <;> omega
  have ne : (149 : Nat) ≠ k1 := by omega
  generalize hR : rR σ k1 = r at *
  have ehere : X9_here N k1 σ1 = some (allI L.1 &&& (r 32 ^^^ (-1))) := by
    unfold X9_here X9_all
    rw [(ff'.g (p149 3 (by omega) (by omega))).trans hL.1, Option.bind_some, if_pos i37_32, cl32, ← rR_j (k := k1) (show 32 < 37 by omega), r1]
    rfl
  have hhere : ∀ i, i < L.1 → hb (allI L.1 &&& (r 32 ^^^ (-1))) i = !hb (r 32) i := by
    intro i hi
    rw [hb_and, hb_allI L.1 (by omega) i (by omega), hb_not _ (by omega)]; simp [hi]
  unfold X9_hourGoes
  rw [ef, Option.bind_some, ehere, Option.bind_some]
  refine forL0 (L := fun m i a => X9_hourGoes_l15 N k1 (fun σ => X9_hourGoes_j103 N k1 σ) m (floatS L r) (allI L.1 &&& (r 32 ^^^ (-1))) (nI i) a) (m := L.1) (a := σ1)
    (fun i a => rR a k1 = hS L r i 0 ∧ gi a 149 25 = gi σ 149 25 + nI (cntB (diesS L r) i) ∧ gi a 149 26 = gi σ 149 26 + sumB (diesS L r) r i ∧ Fr [159, 160, k1, 3025, 3026] σ a)
    (o := fun x => ∃ σ', x = some σ' ∧ rR σ' k1 = hourS L r ∧ gi σ' 149 25 = gi σ 149 25 + nI (cntB (diesS L r) L.1) ∧ gi σ' 149 26 = gi σ 149 26 + sumB (diesS L r) r L.1 ∧ Fr [159, 160, k1, 3025, 3026] σ σ') (by omega) ?_ ?_ ?_
  · refine ⟨?_, ?_, ?_, ff'⟩
    · rw [r1, hS_00 (fun i hi j hj => w1.1 i hi j (by omega))]
    · rw [ff.g (by simp [pl])]; show _ = _ + nI 0; rw [nI_0]; simp
    · rw [ff.g (by simp [pl])]; show _ = _ + 0; simp
  · intro m i a hi hI
    obtain ⟨i1, i2, i3, i4⟩ := hI
    left
    have hi8 : i < 8 := by omega
    have en : gi a 149 3 = nI L.1 := (i4.g (p149 3 (by omega) (by omega))).trans hL.1
    have eh : gi a k1 (8 + i) = r (8 + i) := by rw [← rR_j (k := k1) (show 8 + i < 37 by omega), i1, hS_h hi8]; simp
    have e8 : (8 : Int32) + nI i = nI (8 + i) := nI_add 8 i
    have i37 : inb (nI (8 + i)) 37 = true := inbI (show 8 + i < 37 by omega) (by omega)
    have c37 : (nI (8 + i)).toNatClampNeg = 8 + i := clI (by omega)
    have cn : ∀ x, diesS L r i = x → cntB (diesS L r) (i + 1) = cntB (diesS L r) i + (if x = true then 1 else 0) := by intro x hx; rw [← hx]; rfl
    have sm : ∀ x, diesS L r i = x → sumB (diesS L r) r (i + 1) = sumB (diesS L r) r i + (if x = true then r i else 0) := by intro x hx; rw [← hx]; rfl
    -- heights
    have hei : hb (r 32) i = false → diesS L r i = false → ∃ a', (rR a' k1 = hS L r (i + 1) 0 ∧ gi a' 149 25 = gi σ 149 25 + nI (cntB (diesS L r) (i + 1)) ∧ gi a' 149 26 = gi σ 149 26 + sumB (diesS L r) r (i + 1) ∧ Fr [159, 160, k1, 3025, 3026] σ a') ∧ X9_hourGoes_j55 N k1 (fun v2 v3 v4 σ => X9_hourGoes_l15 N k1 (fun σ => X9_hourGoes_j103 N k1 σ) m v2 v3 v4 σ) (floatS L r) (allI L.1 &&& (r 32 ^^^ (-1))) (nI i) a = X9_hourGoes_l15 N k1 (fun σ => X9_hourGoes_j103 N k1 σ) m (floatS L r) (allI L.1 &&& (r 32 ^^^ (-1))) (nI (i + 1)) a' := by
      intro hg hd
      refine ⟨wi a k1 (8 + i) (hupS L r i), ⟨?_, ?_, ?_, i4.wi (pk _)⟩, ?_⟩
      · rw [rR_w (by omega), i1, ← hS_up _ _ hi8 hd hg]
      · rw [gi_wi_ne ne, i2, cn _ hd]; rfl
      · rw [gi_wi_ne ne, i3, sm _ hd]; simp
      · unfold X9_hourGoes_j55
        rw [has_t N (by omega) (by rw [hhere i hi, hg]; rfl), Option.bind_some, if_neg oneF, e8, i37, c37, has_b N _ (by omega), Option.bind_some, eh, if_pos rfl]
        unfold hupS
        by_cases q : hb (floatS L r) i = true
        · rw [if_pos q, if_neg oneF, max_b, Option.bind_some, if_pos rfl, if_pos q, nI1]; rfl
        · rw [if_neg q, if_pos rfl, max_b, Option.bind_some, if_pos rfl, if_neg q, nI1]; rfl
    by_cases hg : hb (r 32) i = true
    · have hd := dies_gone (L := L) h8 hg
      have hf : hb (floatS L r) i = false := by
        cases hx : hb (floatS L r) i
        · rfl
        · have := ((hb_floatS h8 i).mp hx).2.1
          rw [hg] at this; cases this
      refine ⟨a, ⟨by rw [i1, hS_same _ _ hd hg], by rw [i2, cn _ hd]; rfl, by rw [i3, sm _ hd]; simp, i4⟩, ?_⟩
      rw [X9_hourGoes_l15, en, if_neg (n_le hi (by omega)), has_f N (by omega) hf, Option.bind_some, if_pos rfl, X9_hourGoes_j55, has_f N (by omega) (by rw [hhere i hi, hg]; rfl), Option.bind_some, if_pos rfl, nI1]
    · have hg' : hb (r 32) i = false := by simpa using hg
      by_cases hf : hb (floatS L r) i = true
      · by_cases h9 : r (8 + i) = 9
        · have hd : diesS L r i = true := by unfold diesS; rw [hf, decide_eq_true h9]; rfl
          have hl1 : ∀ x, x < 8 → ∀ b, hb (rR a k1 (24 + x)) b = (decide (b < 8) && (hb (r (24 + x)) b && !(decide (x < i) && diesS L r x) && !(decide (b < i) && diesS L r b))) := by
            intro x hx b
            rw [i1, hS_l hx, hb_8]
          obtain ⟨σ', e1, e2, e3, e4, e5⟩ := goes_b (N := N) (by omega) hk en h8 hi (by
              intro x hx b hb8
              rw [hl1 x hx, decide_eq_false (by omega)]; rfl) (by
              intro x hx hx8
              apply hb_ext
              intro b _
              rw [hl1 x hx8, w1.l0 hx hx8, hb_0]; simp)
          rw [i1] at e2 e4
          refine ⟨σ', ⟨by rw [e2, ← hS_kill _ _ (Nat.zero_le _) hi8 hd], ?_, ?_, i4.trans (e5.mono (by intro x hx; simp at hx ⊢; omega))⟩, ?_⟩
          · rw [e3, i2, cn _ hd, if_pos rfl, Int32.add_assoc, nI1]
          · rw [e4, i3, sm _ hd, if_pos rfl, Int32.add_assoc, hS_s hi8]; simp
          · rw [X9_hourGoes_l15, en, if_neg (n_le hi (by omega)), has_b N _ (by omega), Option.bind_some, if_pos hf, if_neg oneF, e8, i37, c37, eh, h9, if_pos rfl, if_pos rfl, e1, Option.bind_some, nI1]
        · have hd : diesS L r i = false := by unfold diesS; rw [decide_eq_false h9]; simp
          obtain ⟨a', q1, q2⟩ := hei hg' hd
          refine ⟨a', q1, ?_⟩
          rw [X9_hourGoes_l15, en, if_neg (n_le hi (by omega)), has_b N _ (by omega), Option.bind_some, if_pos hf, if_neg oneF, e8, i37, c37, eh, if_pos rfl, if_neg h9]
          exact q2
      · have hf' : hb (floatS L r) i = false := by simpa using hf
        have hd : diesS L r i = false := by unfold diesS; rw [hf']; rfl
        obtain ⟨a', q1, q2⟩ := hei hg' hd
        refine ⟨a', q1, ?_⟩
        rw [X9_hourGoes_l15, en, if_neg (n_le hi (by omega)), has_b N _ (by omega), Option.bind_some, if_neg hf, if_pos rfl]
        exact q2
  · intro m a hI
    obtain ⟨i1, i2, i3, i4⟩ := hI
    rw [X9_hourGoes_l15, (i4.g (p149 3 (by omega) (by omega))).trans hL.1, if_pos (nI_le (Nat.le_refl _) (by omega)), X9_hourGoes_j103]
    refine forL0 (L := fun m i b => X9_hourGoes_l106 N k1 (fun σ => X9_hourGoes_j168 N k1 σ) m (nI i) b) (m := L.1) (a := a)
      (fun i b => rR b k1 = hS L r L.1 i ∧ gi b 149 25 = gi σ 149 25 + nI (cntB (diesS L r) L.1) ∧ gi b 149 26 = gi σ 149 26 + sumB (diesS L r) r L.1 ∧ Fr [159, 160, k1, 3025, 3026] σ b)
      (o := fun x => ∃ σ', x = some σ' ∧ rR σ' k1 = hourS L r ∧ gi σ' 149 25 = gi σ 149 25 + nI (cntB (diesS L r) L.1) ∧ gi σ' 149 26 = gi σ 149 26 + sumB (diesS L r) r L.1 ∧ Fr [159, 160, k1, 3025, 3026] σ σ') (by omega) ⟨i1, i2, i3, i4⟩ ?_ ?_
    · intro m i b hi hI
      obtain ⟨j1, j2, j3, j4⟩ := hI
      left
      have hi8 : i < 8 := by omega
      have en : gi b 149 3 = nI L.1 := (j4.g (p149 3 (by omega) (by omega))).trans hL.1
      have e16 : (16 : Int32) + nI i = nI (16 + i) := nI_add 16 i
      have ed : gi b k1 (16 + i) = r (16 + i) := by rw [← rR_j (k := k1) (show 16 + i < 37 by omega), j1, hS_d hi8]; simp
      have eg : hb (gi b k1 32) i = (hb (r 32) i || diesS L r i) := by rw [← rR_j (k := k1) (show 32 < 37 by omega), j1, hS_gone (by omega)]; simp [hi]
      by_cases q : hb (r 32) i = true ∨ diesS L r i = true
      · have q2 : (hb (r 32) i || diesS L r i) = true := by rw [Bool.or_eq_true]; exact q
        refine ⟨wi b k1 (16 + i) (r (16 + i)), ⟨?_, ?_, ?_, j4.wi (pk _)⟩, ?_⟩
        · rw [rR_w (by omega), j1, hS_nodebt _ _ (q.symm)]
          funext j
          by_cases hj : j = 16 + i
          · subst hj; rw [pk_us, hS_d hi8]; simp
          · rw [pk_un hj]
        · rw [gi_wi_ne ne]; exact j2
        · rw [gi_wi_ne ne]; exact j3
        · rw [X9_hourGoes_l106, en, if_neg (n_le hi (by omega)), if_pos i37_32, cl32, has_b N _ (by omega), Option.bind_some, eg, if_pos q2, if_neg oneF, e16, inbI (show 16 + i < 37 by omega) (by omega), clI (by omega), ed, nI1]
          rfl
      · have hg : hb (r 32) i = false := by cases hx : hb (r 32) i; rfl; exact absurd (Or.inl hx) q
        have hd : diesS L r i = false := by cases hx : diesS L r i; rfl; exact absurd (Or.inr hx) q
        have es : gi b k1 i = r i := by rw [← rR_j (k := k1) (show i < 37 by omega), j1, hS_s hi8, hd]; simp
        refine ⟨wi b k1 (16 + i) (mn999 (r (16 + i) + r i)), ⟨?_, ?_, ?_, j4.wi (pk _)⟩, ?_⟩
        · rw [rR_w (by omega), j1, ← hS_debt _ _ hi8 hd hg]
        · rw [gi_wi_ne ne]; exact j2
        · rw [gi_wi_ne ne]; exact j3
        · rw [X9_hourGoes_l106, en, if_neg (n_le hi (by omega)), if_pos i37_32, cl32, has_f N (by omega) (by rw [eg, hg, hd]; rfl), Option.bind_some, if_pos rfl, e16, inbI (show 16 + i < 37 by omega) (by omega), inbI (show i < 37 by omega) (by omega), clI (show 16 + i < 2147483648 by omega), clI (show i < 2147483648 by omega), ed, es, min_b, mn999', nI1]
          rfl
    · intro m b hI
      obtain ⟨j1, j2, j3, j4⟩ := hI
      have e36' : gi b k1 36 = r 36 := by rw [← rR_j (k := k1) (show 36 < 37 by omega), j1]; exact hS_o (by omega) (by omega) (by omega)
      refine ⟨wi b k1 36 (r 36 + 1), ?_, ?_, by rw [gi_wi_ne ne]; exact j2, by rw [gi_wi_ne ne]; exact j3, j4.wi (pk _)⟩
      · rw [X9_hourGoes_l106, (j4.g (p149 3 (by omega) (by omega))).trans hL.1, if_pos (nI_le (Nat.le_refl _) (by omega)), X9_hourGoes_j168, if_pos i37_36, if_pos i37_36, cl36, e36']
        rfl
      · rw [rR_w (by omega), j1]
        rfl
