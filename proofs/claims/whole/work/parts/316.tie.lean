/-! ===== strings tied or cut ===== -/
theorem hb_togS (r : Nat → Int32) {a b : Nat} (ha : a < 8) (hb1 : b < 8) (hab : a ≠ b) {i : Nat} (hi : i < 8) (j : Nat) : hb (togS r a b (24 + i)) j = (hb (r (24 + i)) j ^^ ((decide (i = a) && decide (j = b)) || (decide (i = b) && decide (j = a)))) := by
  have hone : ∀ n, n < 8 → hb (1 <<< (nI n &&& 31)) j = decide (j = n) := by
    intro n hn
    rcases Nat.lt_or_ge j 32 with q | q
    · exact hb_one n (by omega) j q
    · rw [hb_big q, decide_eq_false (by omega)]
  unfold togS
  by_cases h1 : i = b
  · subst h1
    rw [pk_us, pk_un (by omega), hb_xor, hone a ha]
    simp [show ¬ i = a by omega]
  · rw [pk_un (by omega)]
    by_cases h2 : i = a
    · subst h2
      rw [pk_us, hb_xor, hone b hb1]
      simp [h1]
    · rw [pk_un (by omega)]
      simp [h1, h2]
theorem togS_o (r : Nat → Int32) {a b j : Nat} (ha : a < 8) (hb1 : b < 8) (hj : j < 24 ∨ 32 ≤ j) : togS r a b j = r j := by
  unfold togS
  rw [pk_un (by omega), pk_un (by omega)]
theorem tog_wf {n S H : Nat} {r : Nat → Int32} (h : WF n S H r) {a b : Nat} (ha : a < n) (hb1 : b < n) (hab : a ≠ b) (ga : hb (r 32) a = false) (gb : hb (r 32) b = false) : WF n S H (togS r a b) := by
  obtain ⟨w1, w2, w3, w4, w5, w6, w7, w8⟩ := h
  have h8 := w1.2.2.2.2
  have hk := fun {i : Nat} (hi : i < 8) (j : Nat) => hb_togS r (show a < 8 by omega) (show b < 8 by omega) hab hi j
  have ho := fun {j : Nat} (hj : j < 24 ∨ 32 ≤ j) => togS_o r (show a < 8 by omega) (show b < 8 by omega) hj
  refine ⟨⟨fun i hi j hj => ?_, fun i j hi hj => ?_, fun i hi hg => ?_, fun i hi => by rw [ho (by omega)]; exact w1.2.2.2.1 i hi, h8⟩, fun i hi => by rw [ho (by omega)]; exact w2 i hi, fun i hi => by rw [ho (by omega), ho (by omega)]; exact w3 i hi, fun i hi hg => ?_, fun i hi hi8 => by rw [ho (by omega), ho (by omega), ho (by omega)]; exact w5 i hi hi8, fun i hi => ?_, by rw [ho (by omega)]; exact w7, by rw [ho (by omega)]; exact w8⟩
  · rw [hk hi, w1.1 i hi j hj]
    simp [show ¬ j = a by omega, show ¬ j = b by omega]
  · rw [hk hi, hk hj, w1.2.1 i j hi hj]
    congr 1
    cases h1 : decide (i = a) <;> cases h2 : decide (j = b) <;> cases h3 : decide (i = b) <;> cases h4 : decide (j = a) <;> rfl
  · rw [ho (by omega)] at hg
    have h1 : i ≠ a := by intro z; subst z; rw [ga] at hg; cases hg
    have h2 : i ≠ b := by intro z; subst z; rw [gb] at hg; cases hg
    unfold togS
    rw [pk_un (by omega), pk_un (by omega)]
    exact w1.2.2.1 i hi hg
  · rw [ho (by omega)] at hg
    rw [ho (by omega), ho (by omega)]
    exact w4 i hi hg
  · rw [hk hi, w6 i hi]
    simp
    omega
def cntL (r : Nat → Int32) : Int32 := sumB (fun _ => true) (fun i => popI (r (24 + i))) 8 / 2
theorem stringCount_s {N : Nat} (hN : 8 < N) (k0 : Nat) (σ : Sg) : X5_stringCount N k0 σ = some (cntL (rC σ k0)) := by
  rw [stringCount_b hN]
  unfold cntL
  rw [sumB_congr (g' := fun i => popI (rC σ k0 (24 + i))) 8 (fun _ _ => rfl) (fun i hi _ => by rw [rC_l hi])]
theorem stringMany_s {N : Nat} (hN : 8 < N) {k1 : Nat} {σ : Sg} {n : Nat} (hn : gi σ 149 3 = nI n) (hW : WL n (rR σ k1)) : X9_stringMany N k1 σ = some (cntL (rR σ k1)) := by
  have h8 := hW.2.2.2.2
  rw [stringMany_b hN k1 hn h8]
  unfold cntL
  rw [sumB_8 h8 (fun i hi hi8 _ => by rw [hW.l0 hi hi8]; decide +kernel), sumB_congr (g' := fun i => popI (rR σ k1 (24 + i))) n (fun _ _ => rfl) (fun i hi _ => by rw [rR_j (by omega)])]
def tieS (r : Nat → Int32) (a b : Nat) : Int32 × (Nat → Int32) := if hb (r 32) a = true ∨ hb (r 32) b = true then (-2, r) else (cntL (togS r a b), togS r a b)
theorem tie_no {N k1 : Nat} {σ : Sg} {n : Nat} (hn : gi σ 5 1 = nI n) (h8 : n ≤ 8) {a b : Int32} (h : noThing n a ∨ noThing n b ∨ a = b) : X0_tieOrCut N k1 a b σ = some (-1, σ) := by
  unfold X0_tieOrCut
  rcases thing_or h8 a with ⟨k, hk, rfl⟩ | hno
  · rw [isThing_t N hn h8 hk, Option.bind_some, if_neg oneF]
    rcases thing_or h8 b with ⟨l, hl, rfl⟩ | hno
    · rw [isThing_t N hn h8 hl, Option.bind_some, if_neg oneF]
      rcases h with h | h | h
      · rcases h with h | h
        · exact absurd h (nI_pos (by omega))
        · exact absurd h (n_le hk (by omega))
      · rcases h with h | h
        · exact absurd h (nI_pos (by omega))
        · exact absurd h (n_le hl (by omega))
      · rw [if_pos h]
    · rw [isThing_f N hn hno, Option.bind_some, if_pos rfl]
  · rw [isThing_f N hn hno, Option.bind_some, if_pos rfl]
theorem tieR_no {N k1 : Nat} {σ : Sg} {n : Nat} (hn : gi σ 149 3 = nI n) (h8 : n ≤ 8) {a b : Int32} (h : noThing n a ∨ noThing n b ∨ a = b) : X9_tiesTwo N k1 a b σ = some (-1, σ) := by
  unfold X9_tiesTwo
  rcases thing_or h8 a with ⟨k, hk, rfl⟩ | hno
  · rw [isThingR_t N hn h8 hk, Option.bind_some, if_neg oneF]
    rcases thing_or h8 b with ⟨l, hl, rfl⟩ | hno
    · rw [isThingR_t N hn h8 hl, Option.bind_some, if_neg oneF]
      rcases h with h | h | h
      · rcases h with h | h
        · exact absurd h (nI_pos (by omega))
        · exact absurd h (n_le hk (by omega))
      · rcases h with h | h
        · exact absurd h (nI_pos (by omega))
        · exact absurd h (n_le hl (by omega))
      · rw [if_pos h]
    · rw [isThingR_f N hn h8 hno, Option.bind_some, if_pos rfl]
  · rw [isThingR_f N hn h8 hno, Option.bind_some, if_pos rfl]
theorem tie_yes {N k1 : Nat} (hN : 8 < N) (hk1 : k1 = 19 ∨ k1 = 24) {σ : Sg} {n : Nat} (hn : gi σ 5 1 = nI n) (h8 : n ≤ 8) {a b : Nat} (ha : a < n) (hb1 : b < n) (hab : a ≠ b) : ∃ σ', X0_tieOrCut N k1 (nI a) (nI b) σ = some ((tieS (rC σ k1) a b).1, σ') ∧ rC σ' k1 = (tieS (rC σ k1) a b).2 ∧ Fr (HK k1) σ σ' := by
  unfold X0_tieOrCut tieS
  rw [isThing_t N hn h8 ha, Option.bind_some, if_neg oneF, isThing_t N hn h8 hb1, Option.bind_some, if_neg oneF, if_neg (fun q => hab ((nI_eq (by omega) (by omega)).mp q)), isGone_b N k1 (by omega), Option.bind_some]
  by_cases g : hb (rC σ k1 32) a = true
  · rw [if_pos (show hb (gi σ k1 4) a = true from g), if_neg oneF, if_pos (Or.inl g)]
    exact ⟨σ, rfl, rfl, Fr.refl _ _⟩
  · rw [if_neg (show ¬ hb (gi σ k1 4) a = true from g), if_pos rfl, isGone_b N k1 (by omega), Option.bind_some]
    by_cases g2 : hb (rC σ k1 32) b = true
    · rw [if_pos (show hb (gi σ k1 4) b = true from g2), if_neg oneF, if_pos (Or.inr g2)]
      exact ⟨σ, rfl, rfl, Fr.refl _ _⟩
    · obtain ⟨σ', e1, e2, e3⟩ := toggle_b N hk1 (show a < 8 by omega) (show b < 8 by omega) σ
      rw [if_neg (show ¬ hb (gi σ k1 4) b = true from g2), if_pos rfl, e1, Option.bind_some, stringCount_s hN, Option.bind_some, if_neg (fun q => q.elim g g2), e2]
      exact ⟨σ', rfl, e2, S5_19 hk1 (e3.mono (by intro x hx; unfold S5; simp at hx ⊢; omega))⟩
theorem tieR_yes {N k1 : Nat} (hN : 8 < N) (hk1 : k1 = 153 ∨ k1 = 154) {σ : Sg} {n S H : Nat} (hn : gi σ 149 3 = nI n) (hW : WF n S H (rR σ k1)) {a b : Nat} (ha : a < n) (hb1 : b < n) (hab : a ≠ b) : ∃ σ', X9_tiesTwo N k1 (nI a) (nI b) σ = some ((tieS (rR σ k1) a b).1, σ') ∧ rR σ' k1 = (tieS (rR σ k1) a b).2 ∧ Fr [k1] σ σ' := by
  have h8 := hW.1.2.2.2.2
  unfold X9_tiesTwo tieS
  rw [isThingR_t N hn h8 ha, Option.bind_some, if_neg oneF, isThingR_t N hn h8 hb1, Option.bind_some, if_neg oneF, if_neg (fun q => hab ((nI_eq (by omega) (by omega)).mp q)), isHere_b N hn h8 ha, Option.bind_some]
  by_cases g : hb (rR σ k1 32) a = true
  · rw [if_pos g, if_pos rfl, if_pos (Or.inl g)]
    exact ⟨σ, rfl, rfl, Fr.refl _ _⟩
  · rw [if_neg g, if_neg oneF, isHere_b N hn h8 hb1, Option.bind_some]
    by_cases g2 : hb (rR σ k1 32) b = true
    · rw [if_pos g2, if_pos rfl, if_pos (Or.inr g2)]
      exact ⟨σ, rfl, rfl, Fr.refl _ _⟩
    · obtain ⟨σ', e1, e2, e3⟩ := toggles_b N hk1 (show a < 8 by omega) (show b < 8 by omega) σ
      have hW' := tog_wf hW ha hb1 hab (by simpa using g) (by simpa using g2)
      rw [if_neg g2, if_neg oneF, e1, Option.bind_some, stringMany_s hN ((e3.g (by rcases hk1 with rfl | rfl <;> decide)).trans hn) (by rw [e2]; exact hW'.1), Option.bind_some, if_neg (fun q => q.elim g g2), e2]
      exact ⟨σ', rfl, e2, e3⟩
theorem tie_wf {n S H : Nat} {r : Nat → Int32} (h : WF n S H r) {a b : Nat} (ha : a < n) (hb1 : b < n) (hab : a ≠ b) : WF n S H (tieS r a b).2 := by
  unfold tieS
  by_cases g : hb (r 32) a = true ∨ hb (r 32) b = true
  · rw [if_pos g]; exact h
  · rw [if_neg g]
    exact tog_wf h ha hb1 hab (by cases hx : hb (r 32) a; rfl; exact absurd (Or.inl hx) g) (by cases hx : hb (r 32) b; rfl; exact absurd (Or.inr hx) g)
