/-! ===== strings tied or cut; a thing lost; an hour: both sides ===== -/
def WF (n S H : Nat) (r : Nat → Int32) : Prop := WL n r ∧ (∀ i, i < 8 → ∃ h, h ≤ 9 ∧ r (8 + i) = nI h) ∧ (∀ i, i < 8 → (∃ s, s ≤ S ∧ r i = nI s) ∧ ∃ d, d ≤ 999 ∧ r (16 + i) = nI d) ∧ (∀ i, i < 8 → hb (r 32) i = true → r i = 0 ∧ r (8 + i) = 9) ∧ (∀ i, n ≤ i → i < 8 → r i = 0 ∧ r (8 + i) = 0 ∧ r (16 + i) = 0) ∧ (∀ i, i < 8 → hb (r (24 + i)) i = false) ∧ (∃ t, t ≤ 9999 ∧ r 34 = nI t) ∧ (∃ h, h ≤ H ∧ r 36 = nI h)
theorem WL.l0 {n : Nat} {r : Nat → Int32} (h : WL n r) {i : Nat} (hi : n ≤ i) (hi8 : i < 8) : r (24 + i) = 0 := by
  apply hb_ext
  intro j _
  rw [hb_0]
  rcases Nat.lt_or_ge j 8 with q | q
  · rw [h.2.1 i j hi8 q]; exact h.1 j q i hi
  · exact h.1 i hi8 j (by have := h.2.2.2.2; omega)
def togS (R : Nat → Int32) (a b : Nat) : Nat → Int32 := upd (upd R (24 + a) (R (24 + a) ^^^ (1 <<< (nI b &&& 31)))) (24 + b) ((upd R (24 + a) (R (24 + a) ^^^ (1 <<< (nI b &&& 31)))) (24 + b) ^^^ (1 <<< (nI a &&& 31)))
theorem toggle_b (N : Nat) {k1 : Nat} (hk : k1 = 19 ∨ k1 = 24) {a b : Nat} (ha : a < 8) (hb1 : b < 8) (σ : Sg) : ∃ σ', X5_toggle N k1 (nI a) (nI b) σ = some σ' ∧ rC σ' k1 = togS (rC σ k1) a b ∧ Fr [k1 + 4] σ σ' := by
  have p : ∀ j, pl (k1 + 4) j ∈ [k1 + 4] := by intro j; rcases hk with rfl | rfl <;> simp [pl]
  refine ⟨wi (wi σ (k1 + 4) a (gi σ (k1 + 4) a ^^^ (1 <<< (nI b &&& 31)))) (k1 + 4) b (gi (wi σ (k1 + 4) a (gi σ (k1 + 4) a ^^^ (1 <<< (nI b &&& 31)))) (k1 + 4) b ^^^ (1 <<< (nI a &&& 31))), ?_, ?_, ((Fr.refl _ _).wi (p a)).wi (p b)⟩
  · unfold X5_toggle
    simp only [inbI ha (show 8 ≤ 2147483648 by omega), inbI hb1 (show 8 ≤ 2147483648 by omega), clI (show a < 2147483648 by omega), clI (show b < 2147483648 by omega), if_true, bnS]
  · rw [rC_wk hb1, ← rC_l hb1, rC_wk ha, ← rC_l ha]
    rfl
theorem toggles_b (N : Nat) {k1 : Nat} (hk : k1 = 153 ∨ k1 = 154) {a b : Nat} (ha : a < 8) (hb1 : b < 8) (σ : Sg) : ∃ σ', X9_toggles N k1 (nI a) (nI b) σ = some σ' ∧ rR σ' k1 = togS (rR σ k1) a b ∧ Fr [k1] σ σ' := by
  have p : ∀ j, pl k1 j ∈ [k1] := by intro j; rcases hk with rfl | rfl <;> simp [pl]
  refine ⟨wi (wi σ k1 (24 + a) (gi σ k1 (24 + a) ^^^ (1 <<< (nI b &&& 31)))) k1 (24 + b) (gi (wi σ k1 (24 + a) (gi σ k1 (24 + a) ^^^ (1 <<< (nI b &&& 31)))) k1 (24 + b) ^^^ (1 <<< (nI a &&& 31))), ?_, ?_, ((Fr.refl _ _).wi (p _)).wi (p _)⟩
  · unfold X9_toggles
    simp only [show (24 : Int32) = nI 24 from rfl, nI_add, inbI (show 24 + a < 37 by omega) (show 37 ≤ 2147483648 by omega), inbI (show 24 + b < 37 by omega) (show 37 ≤ 2147483648 by omega), clI (show 24 + a < 2147483648 by omega), clI (show 24 + b < 2147483648 by omega), if_true, bnS]
  · rw [rR_w (by omega), ← rR_j (k := k1) (show 24 + b < 37 by omega), rR_w (by omega), ← rR_j (k := k1) (show 24 + a < 37 by omega)]
    rfl
theorem lose_b {N : Nat} (hN : 8 < N) {k1 : Nat} (hk : k1 = 19 ∨ k1 = 24) {σ : Sg} {k : Nat} (hk8 : k < 8) (hs : ∀ i j, i < 8 → j < 8 → hb (rC σ k1 (24 + i)) j = hb (rC σ k1 (24 + j)) i) (hl : ∀ i, i < 8 → ∀ j, 8 ≤ j → hb (rC σ k1 (24 + i)) j = false) (hself : ∀ i, i < 8 → hb (rC σ k1 (24 + i)) i = false) :
    ∃ σ', X5_lose N k1 (nI k) σ = some (rC σ k1 k, σ') ∧ rC σ' k1 = killS (rC σ k1) k ∧ Fr [k1, k1 + 1, k1 + 2, k1 + 3, k1 + 4] σ σ' := by
  generalize hR : rC σ k1 = R at *
  have p0 : ∀ j, pl k1 j ∈ [k1, k1 + 1, k1 + 2, k1 + 3, k1 + 4] := by intro j; rcases hk with rfl | rfl <;> simp [pl]
  have p1 : ∀ j, pl (k1 + 1) j ∈ [k1, k1 + 1, k1 + 2, k1 + 3, k1 + 4] := by intro j; rcases hk with rfl | rfl <;> simp [pl]
  have p4 : ∀ x ∈ [k1 + 4], x ∈ [k1, k1 + 1, k1 + 2, k1 + 3, k1 + 4] := by intro x hx; simp at hx; subst hx; simp
  have e1 : gi σ (k1 + 1) k = R k := by rw [← hR, rC_s hk8]
  have e7 : gi σ k1 7 = R 35 := by rw [← hR]; rfl
  have e4 : gi σ k1 4 = R 32 := by rw [← hR]; rfl
  have e4' : ∀ x, gi (wi (wi σ k1 7 x) (k1 + 1) k 0) k1 4 = R 32 := by
    intro x
    rw [giw, if_neg (by omega), giw, if_neg (by omega), e4]
  have est : X5_lose N k1 (nI k) σ = X5_lose_l44 N k1 N (nI k) (R k) 0 (wi (wi (wi σ k1 7 (mn999 (R 35 + R k))) (k1 + 1) k 0) k1 4 (R 32 ||| (1 <<< (nI k &&& 31)))) := by
    unfold X5_lose
    simp only [inbI hk8 (show 8 ≤ 2147483648 by omega), clI (show k < 2147483648 by omega), if_true, bnS, min_b, Option.bind_some, e1, e7]
    rw [e4' _]
    rfl
  rw [est]
  have hR9 : rC (wi (wi (wi σ k1 7 (mn999 (R 35 + R k))) (k1 + 1) k 0) k1 4 (R 32 ||| (1 <<< (nI k &&& 31)))) k1 = upd (upd (upd R 35 (mn999 (R 35 + R k))) k 0) 32 (R 32 ||| (1 <<< (nI k &&& 31))) := by
    rw [rC_wf (by omega) (by omega), rC_ws hk8, rC_wf (by omega) (by omega), hR]
  have hF9 : Fr [k1, k1 + 1, k1 + 2, k1 + 3, k1 + 4] σ (wi (wi (wi σ k1 7 (mn999 (R 35 + R k))) (k1 + 1) k 0) k1 4 (R 32 ||| (1 <<< (nI k &&& 31)))) := (((Fr.refl _ _).wi (p0 _)).wi (p1 _)).wi (p0 _)
  generalize wi (wi (wi σ k1 7 (mn999 (R 35 + R k))) (k1 + 1) k 0) k1 4 (R 32 ||| (1 <<< (nI k &&& 31))) = σ9 at *
  refine forL0 (L := fun m i a => X5_lose_l44 N k1 m (nI k) (R k) (nI i) a) (m := 8) (a := σ9)
    (fun i a => Fr [k1, k1 + 1, k1 + 2, k1 + 3, k1 + 4] σ a ∧ (∀ j, j < 24 ∨ 32 ≤ j → rC a k1 j = upd (upd (upd R 35 (mn999 (R 35 + R k))) k 0) 32 (R 32 ||| (1 <<< (nI k &&& 31))) j) ∧ (∀ x, x < 8 → ∀ b, hb (rC a k1 (24 + x)) b = (hb (R (24 + x)) b && !(decide (x = k) && decide (b < i)) && !(decide (b = k) && decide (x < i)))))
    (o := fun x => ∃ σ', x = some (R k, σ') ∧ rC σ' k1 = killS R k ∧ Fr [k1, k1 + 1, k1 + 2, k1 + 3, k1 + 4] σ σ') hN ?_ ?_ ?_
  · refine ⟨hF9, fun j _ => by rw [hR9], fun x hx b => ?_⟩
    rw [hR9, pk_un (by omega), pk_un (by omega), pk_un (by omega)]
    simp
  · intro m i a hi hI
    obtain ⟨i1, i2, i3⟩ := hI
    left
    have hti : hb (gi a (k1 + 4) k) i = hb (R (24 + k)) i := by
      rw [← rC_l hk8, i3 k hk8 i]
      simp
      intro h1
      omega
    by_cases ht : hb (R (24 + k)) i = true
    · have hik : i ≠ k := by
        intro q; subst q
        rw [hself i hi] at ht; cases ht
      obtain ⟨σ', et, er, ef⟩ := toggle_b N hk hk8 hi a
      refine ⟨σ', ⟨i1.trans (ef.mono p4), fun j hj => ?_, fun x hx b => ?_⟩, ?_⟩
      · rw [er]
        unfold togS
        rw [pk_un (by omega), pk_un (by omega)]
        exact i2 j hj
      · rw [er]
        unfold togS
        have hone : ∀ n, n < 8 → hb (1 <<< (nI n &&& 31)) b = decide (b = n) := by
          intro n hn
          rcases Nat.lt_or_ge b 32 with q | q
          · exact hb_one n (by omega) b q
          · rw [hb_big q, decide_eq_false (by omega)]
        by_cases hxi : x = i
        · subst hxi
          rw [pk_us, pk_un (by omega), hb_xor, i3 x hx b, hone k hk8]
          by_cases hbk : b = k
          · subst hbk
            rw [← hs b x hk8 hx, ht]
            simp [hik]
          · simp [hik, hbk]
        · rw [pk_un (by omega)]
          by_cases hxk : x = k
          · subst hxk
            rw [pk_us, hb_xor, i3 x hx b, hone i hi]
            by_cases hbi : b = i
            · subst hbi
              rw [ht]
              simp
              omega
            · have e1 : decide (b < i + 1) = decide (b < i) := decide_eq_decide.mpr (by omega)
              rw [e1]
              by_cases hbx : b = x
              · subst hbx
                rw [hself b hx]
                simp [hbi]
              · simp [hbi, hbx]
          · rw [pk_un (by omega), i3 x hx b]
            have e1 : decide (x < i + 1) = decide (x < i) := decide_eq_decide.mpr (by omega)
            rw [e1]
            simp [hxk]
      · rw [X5_lose_l44, if_neg (c8 hi), isTied_b N k1 hk8 (by omega), Option.bind_some, hti, if_pos ht, if_neg oneF, et, Option.bind_some, nI1]
    · refine ⟨a, ⟨i1, i2, fun x hx b => ?_⟩, ?_⟩
      · rw [i3 x hx b]
        have ht' : hb (R (24 + k)) i = false := by simpa using ht
        by_cases hxk : x = k
        · subst hxk
          by_cases hbi : b = i
          · subst hbi; rw [ht']; simp
          · have e1 : decide (b < i + 1) = decide (b < i) := decide_eq_decide.mpr (by omega)
            rw [e1]
            by_cases hbx : b = x
            · subst hbx; rw [hself b hx]; simp
            · simp [hbx]
        · by_cases hxi : x = i
          · subst hxi
            by_cases hbk : b = k
            · subst hbk; rw [← hs b x hk8 hx, ht']; simp
            · simp [hxk, hbk]
          · have e1 : decide (x < i + 1) = decide (x < i) := decide_eq_decide.mpr (by omega)
            rw [e1]
            simp [hxk]
      · rw [X5_lose_l44, if_neg (c8 hi), isTied_b N k1 hk8 (by omega), Option.bind_some, hti, if_neg ht, if_pos rfl, nI1]
  · intro m a hI
    obtain ⟨i1, i2, i3⟩ := hI
    refine ⟨a, ?_, ?_, i1⟩
    · rw [X5_lose_l44, if_pos c8']
    · apply row_ext
      · intro j hj
        rw [i2 j (Or.inl (by omega))]
        unfold killS
        rw [if_pos hj, pk_un (by omega)]
        by_cases hjk : j = k
        · subst hjk; rw [pk_us, if_pos rfl]
        · rw [pk_un hjk, pk_un (by omega), if_neg hjk]
      · intro j hj
        rw [i2 _ (Or.inl (by omega)), pk_un (by omega), pk_un (by omega), pk_un (by omega)]
        unfold killS
        rw [if_neg (by omega), if_pos (by omega)]
      · intro j hj
        rw [i2 _ (Or.inl (by omega)), pk_un (by omega), pk_un (by omega), pk_un (by omega)]
        unfold killS
        rw [if_neg (by omega), if_pos (by omega)]
      · intro x hx
        apply hb_ext
        intro b _
        rw [i3 x hx b]
        unfold killS
        rw [if_neg (by omega), if_neg (by omega), if_pos (by omega), hb_8, show 24 + x - 24 = x by omega]
        rcases Nat.lt_or_ge b 8 with q | q
        · simp [q, hx]
        · rw [hl x hx b q]; simp
      · intro j hj
        rw [i2 _ (Or.inr hj)]
        unfold killS
        rw [if_neg (by omega), if_neg (by omega), if_neg (by omega)]
        by_cases h1 : j = 32
        · subst h1; rw [pk_us, if_pos rfl]
        · rw [if_neg h1, pk_un h1, pk_un (by omega)]
          by_cases h2 : j = 35
          · subst h2; rw [pk_us, if_pos rfl]
          · rw [pk_un h2, if_neg h2]
theorem passHour_b {N : Nat} (hN : 8 < N) {k1 : Nat} (hk : k1 = 19 ∨ k1 = 24) {σ : Sg} {L : Ld} (hn : gi σ 5 1 = nI L.1) {S H : Nat} (hW : WF L.1 S H (rC σ k1)) :
    ∃ σ', X0_passHour N k1 (floatS L (rC σ k1)) σ = some (sumB (diesS L (rC σ k1)) (rC σ k1) L.1, σ') ∧ rC σ' k1 = hourS L (rC σ k1) ∧ Fr [k1, k1 + 1, k1 + 2, k1 + 3, k1 + 4] σ σ' := by
  obtain ⟨w1, w2, w3, w4, w5, w6, w7⟩ := hW
  have h8 := w1.2.2.2.2
  generalize hR : rC σ k1 = r at *
  have pp : ∀ k, k1 ≤ k → k < k1 + 5 → ∀ j, pl k j ∈ [k1, k1 + 1, k1 + 2, k1 + 3, k1 + 4] := by
    intro k h1 h2 j
    have : pl k j = k := by unfold pl; rw [if_neg (by omega), if_neg (by omega), if_neg (by omega)]
    rw [this]
    simp
    omega
  have pn : ∀ j, pl 5 j ∉ [k1, k1 + 1, k1 + 2, k1 + 3, k1 + 4] := by intro j; rcases hk with rfl | rfl <;> simp [pl] <;> omega
  unfold X0_passHour
  refine forL0 (L := fun m i (a : Int32 × Sg) => X0_passHour_l5 N k1 (fun v3 σ => X0_passHour_j136 N k1 v3 σ) m (floatS L r) a.1 (nI i) a.2) (m := L.1) (a := (0, σ))
    (fun i a => a.1 = sumB (diesS L r) r i ∧ rC a.2 k1 = hS L r i i ∧ Fr [k1, k1 + 1, k1 + 2, k1 + 3, k1 + 4] σ a.2)
    (o := fun x => ∃ σ', x = some (sumB (diesS L r) r L.1, σ') ∧ rC σ' k1 = hourS L r ∧ Fr [k1, k1 + 1, k1 + 2, k1 + 3, k1 + 4] σ σ') (by omega) ?_ ?_ ?_
  · refine ⟨rfl, ?_, Fr.refl _ _⟩
    show rC σ k1 = _
    rw [hR, hS_00 (fun i hi j hj => w1.1 i hi j (by omega))]
  · intro m i a hi hI
    obtain ⟨v, τ⟩ := a
    obtain ⟨hv, hr, hF⟩ := hI
    dsimp only at hv hr hF ⊢
    left
    have hi8 : i < 8 := by omega
    have en : gi τ 5 1 = nI L.1 := (hF.g (pn 1)).trans hn
    have g0 : hb (gi τ k1 4) i = hb (r 32) i := by
      rw [← rC_32, hr, hS_gone (by omega)]; simp
    have eh : gi τ (k1 + 2) i = r (8 + i) := by
      rw [← rC_h hi8, hr, hS_h hi8]; simp
    have sm : ∀ x, diesS L r i = x → sumB (diesS L r) r (i + 1) = sumB (diesS L r) r i + (if x = true then r i else 0) := by
      intro x hx; rw [← hx]; rfl
    by_cases hg : hb (r 32) i = true
    · have hd := dies_gone (L := L) h8 hg
      refine ⟨(v, τ), ⟨?_, ?_, hF⟩, ?_⟩
      · dsimp only; rw [hv, sm _ hd]; simp
      · dsimp only; rw [hr, hS_same _ _ hd hg, hS_nodebt _ _ (Or.inr hg)]
      · rw [X0_passHour_l5, en, if_neg (n_le hi (by omega)), isGone_b N k1 (by omega), Option.bind_some, g0, if_pos hg, if_neg oneF, nI1]
    · have hg' : hb (r 32) i = false := by simpa using hg
      -- the debt behind a height
      have deb : ∀ τ1, rC τ1 k1 = hS L r (i + 1) i → Fr [k1, k1 + 1, k1 + 2, k1 + 3, k1 + 4] σ τ1 → diesS L r i = false → ∃ τ2, (rC τ2 k1 = hS L r (i + 1) (i + 1) ∧ Fr [k1, k1 + 1, k1 + 2, k1 + 3, k1 + 4] σ τ2) ∧ X0_passHour_j93 N k1 (fun v2 v3 v4 σ => X0_passHour_l5 N k1 (fun v3 σ => X0_passHour_j136 N k1 v3 σ) m v2 v3 v4 σ) (floatS L r) v (nI i) τ1 = X0_passHour_l5 N k1 (fun v3 σ => X0_passHour_j136 N k1 v3 σ) m (floatS L r) v (nI (i + 1)) τ2 := by
        intro τ1 h1 hF1 hd
        have g1 : hb (gi τ1 k1 4) i = false := by rw [← rC_32, h1, hS_gone (by omega), hg', hd]; simp
        have ed : gi τ1 (k1 + 3) i = r (16 + i) := by rw [← rC_d hi8, h1, hS_d hi8]; simp
        have es : gi τ1 (k1 + 1) i = r i := by rw [← rC_s hi8, h1, hS_s hi8, hd]; simp
        refine ⟨wi τ1 (k1 + 3) i (mn999 (r (16 + i) + r i)), ⟨?_, hF1.wi (pp _ (by omega) (by omega) _)⟩, ?_⟩
        · rw [rC_wd hi8, h1, ← hS_debt _ _ hi8 hd hg']
        · unfold X0_passHour_j93
          rw [isGone_b N k1 (by omega), Option.bind_some, g1]
          simp only [Bool.false_eq_true, if_false, if_true, inbI hi8 (show 8 ≤ 2147483648 by omega), clI (show i < 2147483648 by omega), ed, es, min_b, Option.bind_some, bnS, nI1]
          rfl
      have hdead : diesS L r i = true → ∀ w, X0_passHour_j93 N k1 (fun v2 v3 v4 σ => X0_passHour_l5 N k1 (fun v3 σ => X0_passHour_j136 N k1 v3 σ) m v2 v3 v4 σ) (floatS L r) w (nI i) = fun τ1 => if hb (gi τ1 k1 4) i = true then X0_passHour_l5 N k1 (fun v3 σ => X0_passHour_j136 N k1 v3 σ) m (floatS L r) w (nI (i + 1)) τ1 else X0_passHour_j93 N k1 (fun v2 v3 v4 σ => X0_passHour_l5 N k1 (fun v3 σ => X0_passHour_j136 N k1 v3 σ) m v2 v3 v4 σ) (floatS L r) w (nI i) τ1 := by
        intro _ w
        funext τ1
        by_cases q : hb (gi τ1 k1 4) i = true
        · rw [if_pos q]
          unfold X0_passHour_j93
          rw [isGone_b N k1 (by omega), Option.bind_some, if_pos q, if_neg oneF, nI1]
        · rw [if_neg q]
      by_cases hf : hb (floatS L r) i = true
      · by_cases h9 : r (8 + i) = 9
        · have hd : diesS L r i = true := by unfold diesS; rw [hf, decide_eq_true h9]; rfl
          have hl1 : ∀ x, x < 8 → ∀ b, hb (rC τ k1 (24 + x)) b = (decide (b < 8) && (hb (r (24 + x)) b && !(decide (x < i) && diesS L r x) && !(decide (b < i) && diesS L r b))) := by
            intro x hx b
            rw [hr, hS_l hx, hb_8]
          obtain ⟨σ', e1, e2, e3⟩ := lose_b hN hk (σ := τ) hi8 (by
              intro x y hx hy
              rw [hl1 x hx, hl1 y hy, w1.2.1 x y hx hy]
              simp only [hx, hy, decide_true, Bool.true_and, Bool.and_assoc]
              congr 1
              exact Bool.and_comm _ _) (by
              intro x hx b hb8
              rw [hl1 x hx, decide_eq_false (by omega)]; rfl) (by
              intro x hx
              rw [hl1 x hx, w6 x hx]; simp)
          rw [hr] at e1 e2
          refine ⟨(v + hS L r i i i, σ'), ⟨?_, ?_, hF.trans e3⟩, ?_⟩
          · dsimp only; rw [hv, sm _ hd, hS_s hi8]; simp
          · dsimp only; rw [e2, ← hS_kill _ _ (Nat.le_refl _) hi8 hd, hS_nodebt _ _ (Or.inl hd)]
          · have g1 : hb (gi σ' k1 4) i = true := by rw [← rC_32, e2, ← hS_kill _ _ (Nat.le_refl _) hi8 hd, hS_gone (by omega), hd]; simp
            rw [X0_passHour_l5, en, if_neg (n_le hi (by omega)), isGone_b N k1 (by omega), Option.bind_some, g0, if_neg hg, if_pos rfl, if_neg (fun z => by rw [(hasF _ (by omega)).mp z] at hf; cases hf), inbI hi8 (by omega), clI (by omega), eh, h9, if_pos rfl, if_pos (by decide), e1, Option.bind_some, hdead hd]
            exact if_pos g1
        · have hd : diesS L r i = false := by unfold diesS; rw [decide_eq_false h9]; simp
          obtain ⟨h, hh, eh9⟩ := w2 i hi8
          have hlt : h < 9 := by
            rcases Nat.lt_or_ge h 9 with q | q
            · exact q
            · have : h = 9 := by omega
              subst this; exact absurd eh9 h9
          have eup : hupS L r i = r (8 + i) + 1 := by
            unfold hupS
            rw [if_pos hf, eh9, nI1, if_pos (show (0 : Int32) < nI (h + 1) from nI_lt (a := 0) (by omega) (by omega))]
          obtain ⟨τ2, ⟨q1, q2⟩, q3⟩ := deb (wi τ (k1 + 2) i (r (8 + i) + 1)) (by rw [rC_wh hi8, hr, hS_up _ _ hi8 hd hg', eup]) (hF.wi (pp _ (by omega) (by omega) _)) hd
          refine ⟨(v, τ2), ⟨?_, q1, q2⟩, ?_⟩
          · dsimp only; rw [hv, sm _ hd]; simp
          · dsimp only
            rw [X0_passHour_l5, en, if_neg (n_le hi (by omega)), isGone_b N k1 (by omega), Option.bind_some, g0, if_neg hg, if_pos rfl, if_neg (fun z => by rw [(hasF _ (by omega)).mp z] at hf; cases hf), inbI hi8 (by omega), clI (by omega), eh, if_pos rfl, if_neg (show ¬ (9 : Int32) ≤ r (8 + i) by rw [eh9]; exact nI_ge (b := 9) hlt (by omega)), if_pos rfl, if_pos rfl]
            exact q3
      · have hf' : hb (floatS L r) i = false := by simpa using hf
        have hd : diesS L r i = false := by unfold diesS; rw [hf']; rfl
        have eup : hupS L r i = (if 0 < r (8 + i) - 1 then r (8 + i) - 1 else 0) := by
          unfold hupS
          rw [if_neg hf, Int32.sub_eq_add_neg]
        obtain ⟨τ2, ⟨q1, q2⟩, q3⟩ := deb (wi τ (k1 + 2) i (hupS L r i)) (by rw [rC_wh hi8, hr, hS_up _ _ hi8 hd hg']) (hF.wi (pp _ (by omega) (by omega) _)) hd
        refine ⟨(v, τ2), ⟨?_, q1, q2⟩, ?_⟩
        · dsimp only; rw [hv, sm _ hd]; simp
        · dsimp only
          rw [X0_passHour_l5, en, if_neg (n_le hi (by omega)), isGone_b N k1 (by omega), Option.bind_some, g0, if_neg hg, if_pos rfl, if_pos ((hasF _ (by omega)).mpr hf'), inbI hi8 (by omega), clI (by omega), eh, if_pos rfl, max_b, Option.bind_some, if_pos rfl, ← eup]
          exact q3
  · intro m a hI
    obtain ⟨v, τ⟩ := a
    obtain ⟨hv, hr, hF⟩ := hI
    dsimp only at hv hr hF ⊢
    have e36 : gi τ k1 8 = r 36 := by rw [← rC_36, hr]; exact hS_o (by omega) (by omega) (by omega)
    refine ⟨wi τ k1 8 (r 36 + 1), ?_, ?_, hF.wi (pp _ (by omega) (by omega) _)⟩
    · rw [X0_passHour_l5, (hF.g (pn 1)).trans hn, if_pos (nI_le (Nat.le_refl _) (by omega)), X0_passHour_j136, e36, hv]
      rfl
    · rw [rC_wf (by omega) (by omega), hr]
      rfl
