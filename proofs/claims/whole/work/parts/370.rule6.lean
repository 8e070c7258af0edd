/-! ===== rule, law ===== -/
section RL
variable {N : Nat}
theorem LC.draft {σ σ' : Sg} {k2 : Nat} {L : Ld} {l : List Nat} (h : LC σ k2 L) (f : Fr l σ σ') (h1 : ∀ x ∈ [2001, 2008, 6, 17], x ∉ l) (h2 : ∀ j, pl k2 j ∉ l) (h3 : ∀ j, pl (k2 + 1) j ∉ l) : LC σ' k2 L := by
  obtain ⟨l1, l2, l3, l4, l5, l6, l7, l8, l9, l10⟩ := h
  exact ⟨(f.g (k := 5) (j := 1) (h1 2001 (by simp))).trans l1, l2, fun i hi => (f.g (k := 6) (j := i) (h1 6 (by simp))).trans (l3 i hi), (f.g (k := 5) (j := 8) (h1 2008 (by simp))).trans l4, l5, l6, fun i hi => (f.g (k := 17) (j := i) (h1 17 (by simp))).trans (l7 i hi), ⟨(f.g (h2 3)).trans l8.1, fun i hi => (f.g (h3 i)).trans (l8.2 i hi)⟩, l9, l10⟩
theorem LC.other {σ : Sg} {k2 kd : Nat} {L : Ld} (h : LC σ k2 L) (hk : kd = 7 ∨ kd = 11) {ts : Nat → Nat} {len : Nat} (hc : CdC σ kd ts len) (hg : Gd ts len) : LC σ kd (L.1, L.2.1, L.2.2.1, L.2.2.2.1, ts, len) := by
  obtain ⟨l1, l2, l3, l4, l5, l6, l7, l8, l9, l10⟩ := h
  exact ⟨l1, l2, l3, l4, l5, l6, l7, hc, hg, hk⟩
theorem LR.other {σ : Sg} {L : Ld} (h : LR σ L) {ts : Nat → Nat} {len : Nat} (hc : CdR σ ts len) (hg : Gd ts len) : LR σ (L.1, L.2.1, L.2.2.1, L.2.2.2.1, ts, len) := by
  obtain ⟨l1, l2, l3, l4, l5, l6, l7, l8, l9⟩ := h
  exact ⟨l1, l2, l3, l4, l5, l6, l7, hc, hg⟩
/-- what a text says as a rule: none, tokens, or the place of a fault -/
def ruT (N : Nat) (t : List Nat) (ts : Nat → Nat) (len : Nat) : Prop := Gd ts len ∧ (∀ kd, (kd = 7 ∨ kd = 11) → ∀ σ, TxC σ t → gi σ 5 3 = nI kd → ∃ σ', X8_readDraft N σ = some (-1, σ') ∧ CdC σ' kd ts len ∧ TxC σ' [] ∧ Fr (frK kd ++ [1]) σ σ') ∧ (∀ σ, TxR σ t → ∃ σ' c, X9_readsRule N (wi σ 149 0 0) = some (0, σ') ∧ gi σ' 149 20 = nI c ∧ c ≤ 40 ∧ ((c = len ∧ 0 < len ∧ ∀ i, i < len → gi σ' 158 i = nI (ts i)) ∨ (c = 0 ∧ len = 7 ∧ ∀ i, i < 7 → ts i = plT i)) ∧ TxR σ' [] ∧ Fr (rdL ++ rfL) σ σ')
def ruF (N : Nat) (t : List Nat) (q : Nat) : Prop := q ≤ 40 ∧ (∀ kd, (kd = 7 ∨ kd = 11) → ∀ σ, TxC σ t → gi σ 5 3 = nI kd → ∃ σ', X8_readDraft N σ = some (nI q, σ') ∧ TxC σ' [] ∧ Fr (frK kd ++ [1]) σ σ') ∧ (∀ σ, TxR σ t → ∃ σ', X9_readsRule N (wi σ 149 0 0) = some (-1 - nI q, σ') ∧ TxR σ' [] ∧ Fr (rdL ++ rfL) σ σ')
theorem isRule_k {kd : Nat} (hk : kd = 7 ∨ kd = 11) : isRule (nI kd).toNatClampNeg = true ∧ (nI kd).toNatClampNeg = kd := by rcases hk with rfl | rfl <;> exact ⟨by decide, by decide⟩
theorem plT_Gd : Gd plT 7 := by
  refine ⟨fun i hi => ?_, by decide, by omega⟩
  have h : i = 0 ∨ i = 1 ∨ i = 2 ∨ i = 3 ∨ i = 4 ∨ i = 5 ∨ i = 6 := by omega
  rcases h with rfl | rfl | rfl | rfl | rfl | rfl | rfl <;> exact ⟨by unfold tOk; decide, by decide⟩
theorem ru_out (hN : 300 < N) {t : List Nat} (hl : t.length ≤ 80) (hx : ∀ x ∈ t, x < 256) : (∃ ts len, ruT N t ts len) ∨ (∃ q, ruF N t q) := by
  -- the reference begins
  have beg : ∀ σ, TxR σ t → ∃ σ1, X9_begins N (nI 40) (wi σ 149 0 0) = some (nI t.length, σ1) ∧ RR t (min t.length 40) (wi σ1 149 20 0) 0 0 [] ∧ gi (wi σ1 149 20 0) 149 11 = nI 0 ∧ Fr (rdL ++ rfL) σ (wi σ1 149 20 0) := by
    intro σ hR
    obtain ⟨σ1, a1, a2, a3, a4, a5⟩ := begins_r N hR hl (b := 40) (by omega)
    have fw : Fr [3020] σ1 (wi σ1 149 20 0) := (Fr.refl _ _).wi (by decide)
    exact ⟨σ1, a1, ⟨a2.fr fw (by decide), (fw.g (k := 149) (j := 14) (by decide)).trans a4, by rw [giw_s]; rfl, fun i hi => absurd hi (Nat.not_lt_zero _)⟩, (fw.g (k := 149) (j := 11) (by decide)).trans a3, (a5.mono (by decide)).trans (fw.mono (by decide))⟩
  rcases Nat.eq_zero_or_pos t.length with h0 | h0
  · have ht : t = [] := List.length_eq_zero_iff.mp h0
    subst ht
    left
    refine ⟨plT, 7, plT_Gd, ?_, ?_⟩
    · intro kd hk σ hT h53
      obtain ⟨r1, r2⟩ := isRule_k hk
      obtain ⟨σ1, a1, a2, a3⟩ := readP (N := N) hN hk σ
      obtain ⟨σ2, b1, b2, b3⟩ := txClear_c N σ1
      refine ⟨σ2, ?_, ⟨(b3.g (by rcases hk with rfl | rfl <;> simp [pl])).trans a2.1, fun i hi => (b3.g (by rcases hk with rfl | rfl <;> simp [pl])).trans (a2.2 i hi)⟩, b2, (a3.mono (by intro x hx; simp [hx])).trans (b3.mono (by intro x hx; simp at hx; simp [hx]))⟩
      unfold X8_readDraft
      rw [hT.1, if_pos (show nI ([] : List Nat).length = 0 from rfl), h53, r1, if_pos rfl, r2, a1, Option.bind_some, X8_readDraft_j54, b1]
      rfl
    · intro σ hR
      obtain ⟨σ1, a1, a2, a3, a4⟩ := beg σ hR
      refine ⟨wi σ1 149 20 0, 0, ?_, a2.2.2.1, by omega, Or.inr ⟨rfl, rfl, fun _ _ => rfl⟩, ⟨a3, fun i hi => absurd hi (Nat.not_lt_zero _)⟩, a4⟩
      unfold X9_readsRule
      rw [show (40 : Int32) = nI 40 from rfl, a1, Option.bind_some]
      simp only [bnS]
      rw [if_pos (show nI ([] : List Nat).length = 0 from rfl), X9_readsRule_j29, show (40 : Int32) = nI 40 from rfl, faultOf2_r N a2.1 (b := 40) (by omega) rfl hl (by simp) (v := 1) (ok := true) (Or.inl rfl) ⟨fun _ => ⟨rfl, rfl, by simp⟩, fun _ => rfl⟩, if_pos rfl]
      rfl
  · have cls : ∀ (q : Int32) (kd : Nat), (kd = 7 ∨ kd = 11) → ∀ σ, TxC σ t → gi σ 5 3 = nI kd → ∀ σ1, X3_compileT N kd (nI t.length) σ = some (q, σ1) → ∀ σ2, X6_clear N σ1 = some σ2 → X8_readDraft N σ = some (q, σ2) := by
      intro q kd hk σ hT h53 σ1 e1 σ2 e2
      obtain ⟨r1, r2⟩ := isRule_k hk
      unfold X8_readDraft
      rw [hT.1, if_neg (nI_ne0 h0 (by omega)), h53, r1, if_pos rfl, r2, e1, Option.bind_some, X8_readDraft_j54, e2]
      rfl
    have ref : ∀ σ σ1, X9_begins N (nI 40) (wi σ 149 0 0) = some (nI t.length, σ1) → X9_readsRule N (wi σ 149 0 0) = ((X9_readsRank N 0 (wi σ1 149 20 0)).bind fun r8 => (if r8.1 = 0 then (X9_readsRule_j29 N (nI t.length) 0 r8.2) else (X9_readsRule_j29 N (nI t.length) 1 r8.2))) := by
      intro σ σ1 a1
      unfold X9_readsRule
      rw [show (40 : Int32) = nI 40 from rfl, a1, Option.bind_some]
      simp only [bnS]
      rw [if_neg (nI_ne0 h0 (by omega))]
    rcases readT (N := N) hN hl hx h0 with ⟨x, x0, x40, xB, xc, xr⟩ | ⟨q, q40, qc, qr⟩
    · left
      refine ⟨fun i => x.getD i 0, x.length, Gd_of xB x40, ?_, ?_⟩
      · intro kd hk σ hT h53
        obtain ⟨σ1, a1, a2, a3⟩ := xc kd hk σ hT.2
        obtain ⟨σ2, b1, b2, b3⟩ := txClear_c N σ1
        exact ⟨σ2, cls _ kd hk σ hT h53 σ1 a1 σ2 b1, ⟨(b3.g (by rcases hk with rfl | rfl <;> simp [pl])).trans a2.1, fun i hi => (b3.g (by rcases hk with rfl | rfl <;> simp [pl])).trans (a2.2 i hi)⟩, b2, (a3.mono (by intro x hx; simp [hx])).trans (b3.mono (by intro x hx; simp at hx; simp [hx]))⟩
      · intro σ hR
        obtain ⟨σ1, a1, a2, a3, a4⟩ := beg σ hR
        obtain ⟨σ2, b1, b2, b3, b4⟩ := xr _ a2
        exact ⟨σ2, x.length, (ref σ σ1 a1).trans b1, b2, x40, Or.inl ⟨rfl, x0, b3⟩, ⟨(b4.g (k := 149) (j := 11) (by decide)).trans a3, fun i hi => absurd hi (Nat.not_lt_zero _)⟩, a4.trans (b4.mono (by decide))⟩
    · right
      refine ⟨q, q40, ?_, ?_⟩
      · intro kd hk σ hT h53
        obtain ⟨σ1, a1, a3⟩ := qc kd hk σ hT.2
        obtain ⟨σ2, b1, b2, b3⟩ := txClear_c N σ1
        exact ⟨σ2, cls _ kd hk σ hT h53 σ1 a1 σ2 b1, b2, (a3.mono (by intro x hx; simp [hx])).trans (b3.mono (by intro x hx; simp at hx; simp [hx]))⟩
      · intro σ hR
        obtain ⟨σ1, a1, a2, a3, a4⟩ := beg σ hR
        obtain ⟨σ2, b1, b4⟩ := qr _ a2
        exact ⟨σ2, (ref σ σ1 a1).trans b1, ⟨(b4.g (k := 149) (j := 11) (by decide)).trans a3, fun i hi => absurd hi (Nat.not_lt_zero _)⟩, a4.trans (b4.mono (by decide))⟩
theorem lays_r (hN : 100 < N) {k1 : Nat} (hk1 : k1 = 158 ∨ k1 = 176) {c : Nat} (hc : c ≤ 40) (τ : Sg) : ∃ τ', X9_laysCode N k1 (nI c) τ = some τ' ∧ gi τ' 149 19 = nI c ∧ (∀ i, i < c → gi τ' 157 i = gi τ k1 i) ∧ Fr [3019, 157] τ τ' := by
  unfold X9_laysCode
  simp only [bnS]
  have f0 : Fr [3019, 157] τ (wi τ 149 19 (nI c)) := (Fr.refl _ _).wi (by decide)
  refine forL0 (L := fun m i a => X9_laysCode_l7 N k1 m (nI c) (nI i) a) (m := c) (a := wi τ 149 19 (nI c)) (fun i a => gi a 149 19 = nI c ∧ (∀ j, j < i → gi a 157 j = gi τ k1 j) ∧ Fr [3019, 157] τ a) (o := fun x => ∃ τ', x = some τ' ∧ gi τ' 149 19 = nI c ∧ (∀ i, i < c → gi τ' 157 i = gi τ k1 i) ∧ Fr [3019, 157] τ τ') (by omega) ⟨giw_s _ _ _ _, fun j hj => absurd hj (Nat.not_lt_zero _), f0⟩ ?_ ?_
  · intro m i a hi hI
    obtain ⟨i1, i2, i3⟩ := hI
    left
    refine ⟨wi a 157 i (gi τ k1 i), ⟨by rw [gi_wi_ne (by omega)]; exact i1, fun j hj => ?_, i3.wi (by simp [pl])⟩, ?_⟩
    · rw [giw]
      by_cases z : j = i
      · rw [if_pos ⟨rfl, z⟩, z]
      · rw [if_neg (fun y => z y.2)]; exact i2 j (by omega)
    · rw [X9_laysCode_l7, if_neg (nI_ge hi (by omega)), inbI (show i < 80 by omega) (by omega), if_pos rfl, if_pos rfl, clI (by omega), i3.g (k := k1) (by rcases hk1 with rfl | rfl <;> simp [pl]), nI1]
      rfl
  · intro m a hI
    exact ⟨a, by rw [X9_laysCode_l7, if_pos (nI_le (Nat.le_refl _) (by omega))], hI⟩
end RL
