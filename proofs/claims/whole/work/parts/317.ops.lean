/-! ===== calls: the class and the reference do the same to what both keep ===== -/
def OpC (m : Sg → Option (Int32 × Sg)) (A : Ab) (v : Int32) (A' : Ab) : Prop := ∀ σ, InvC σ A → ∃ σ', m σ = some (v, σ') ∧ InvC σ' A' ∧ ∀ B, InvR σ B → InvR σ' B
def OpR (m : Sg → Option (Int32 × Sg)) (A : Ab) (v : Int32) (A' : Ab) : Prop := ∀ σ, InvR σ A → ∃ σ', m σ = some (v, σ') ∧ InvR σ' A' ∧ ∀ B, InvC σ B → InvC σ' B
def OpB (m8 m9 : Sg → Option (Int32 × Sg)) (H : Nat) (A : Ab) : Prop := ∃ v A', OpC m8 A v A' ∧ OpR m9 A v A' ∧ OkA (H + 300) A'
theorem OkA.mono {H H' : Nat} {A : Ab} (h : OkA H A) (hh : H ≤ H') : OkA H' A := by
  obtain ⟨a, b, c, d, e, f⟩ := h
  exact ⟨a.mono hh, b, c, ⟨d.1, fun r hr => (d.2 r hr).mono hh⟩, fun i r hi hr => (e i r hi hr).mono hh, f⟩
theorem Fr.rowP {l : List Nat} {σ σ' : Sg} (f : Fr l σ σ') (hl : ∀ x ∈ paL, x ∉ l) {x : Nat} (hx : x < 16) : rC σ' (31 + 5 * x) = rC σ (31 + 5 * x) := by
  have hk : ∀ k, 29 ≤ k → k < 111 → gi σ' k = gi σ k := fun k h1 h2 => f.r (fun j => by
    have : pl k j = k := by unfold pl; rw [if_neg (by omega), if_neg (by omega), if_neg (by omega)]
    rw [this]
    exact hl k (paL_in h1 h2))
  exact rC_congr (hk _ (by omega) (by omega)) (hk _ (by omega) (by omega)) (hk _ (by omega) (by omega)) (hk _ (by omega) (by omega)) (hk _ (by omega) (by omega))
theorem thrown_f (σ : Sg) (v : Int32) : Fr [3000] σ (wi σ 149 0 v) := (Fr.refl _ _).wi (by simp [pl])
def pastS (v : Int32) (r : Nat → Int32) (p : List (Nat → Int32)) : List (Nat → Int32) := if v < 0 then p else (r :: p).take 15
theorem pastS_ok {n S H : Nat} {r : Nat → Int32} {p : List (Nat → Int32)} (hr : WF n S H r) (hp : p.length ≤ 15) (h : ∀ q ∈ p, WF n S H q) (v : Int32) : (pastS v r p).length ≤ 15 ∧ ∀ q ∈ pastS v r p, WF n S H q := by
  unfold pastS
  by_cases hv : v < 0
  · rw [if_pos hv]; exact ⟨hp, h⟩
  · rw [if_neg hv]
    refine ⟨by simp; omega, fun q hq => ?_⟩
    have := List.mem_of_mem_take hq
    rcases List.mem_cons.mp this with z | z
    · subst z; exact hr
    · exact h q z
theorem actOp {N : Nat} (hN : 555 < N) {H : Nat} {A : Ab} (hA : OkA H A) {a8 a9 : Sg → Option (Int32 × Sg)} (v : Int32) (r' : Nat → Int32)
    (hc : ∀ σ, RuC σ A.1 → rC σ 19 = A.2.1 → ∃ σ', a8 σ = some (v, σ') ∧ rC σ' 19 = r' ∧ Fr (HK 19) σ σ')
    (hr : ∀ σ, LR σ A.1 → rR σ 153 = A.2.1 → ∃ σ', a9 σ = some (v, σ') ∧ rR σ' 153 = r' ∧ Fr [153] σ σ') (hW : WF A.1.1 9 (H + 300) r') :
    OpB (fun σ => (X1_draw N 19 σ).bind fun r1 => ((a8 r1).bind fun r3 => ((X1_settle N r3.1 r3.2).bind fun r5 => (some (r5.1, r5.2)))))
      (fun σ => bnS (wi σ 149 0 0) fun σ1 => (X9_putsBy N σ1).bind fun r3 => ((a9 r3).bind fun r5 => ((X9_counted N r5.1 r5.2).bind fun r7 => (some (r7.1, r7.2))))) H A := by
  obtain ⟨L, now, t, to, p, s, w⟩ := A
  obtain ⟨k1, k2, k3, ⟨k4, k4'⟩, k5, k6⟩ := hA
  dsimp only at *
  refine ⟨v, (L, r', t, to, pastS v now p, s, w), ?_, ?_, hW, k2, k3, pastS_ok (k1.mono (by omega)) k4 (fun q hq => (k4' q hq).mono (by omega)) v, fun i r hi hr => (k5 i r hi hr).mono (by omega), k6⟩
  · rintro σ ⟨c1, c2, c3, c4, ⟨x, c5⟩, c6, c7⟩
    dsimp only at c1 c2 c3 c4 c5 c6 c7
    obtain ⟨σ1, d1, d2, d3, d4⟩ := draw_c (N := N) (by omega) c5 k4
    have c1' := c1.fr d4 (by decide +kernel)
    have c2' := (d4.row19 (by decide +kernel)).trans c2
    obtain ⟨σ2, e1, e2, e3⟩ := hc σ1 c1' c2'
    have p2 := d2.fr e3 (by decide +kernel)
    have r2 : rC σ2 (31 + 5 * x) = now := by rw [e3.rowP (by decide +kernel) d2.1, d3, c2]
    have q1 := c1'.fr e3 (by decide +kernel)
    have q3 := (c3.fr d4 (by decide +kernel)).fr e3 (by decide +kernel)
    have q4 := (c4.fr d4 (by decide +kernel)).fr e3 (by decide +kernel)
    have q6 := (c6.fr d4 (by decide +kernel)).fr e3 (by decide +kernel)
    have q7 := (c7.fr d4 (by decide +kernel)).fr e3 (by decide +kernel)
    dsimp only
    rw [d1, Option.bind_some, e1, Option.bind_some]
    by_cases hv : v < 0
    · refine ⟨σ2, ?_, ⟨q1, e2, q3, q4, ?_, q6, q7⟩, fun B hB => (hB.fr d4 (by decide +kernel)).fr e3 (by decide +kernel)⟩
      · unfold X1_settle
        rw [if_pos hv]; rfl
      · dsimp only
        unfold pastS
        rw [if_pos hv]; exact ⟨x, p2⟩
    · obtain ⟨σ3, g1, g2, g3⟩ := commit_c N p2 k4 r2
      refine ⟨σ3, ?_, ⟨q1.fr g3 (by decide), (g3.row19 (by decide)).trans e2, q3.fr g3 (by decide), q4.fr g3 (by decide), ?_, q6.fr g3 (by decide +kernel), q7.fr g3 (by decide)⟩, fun B hB => ((hB.fr d4 (by decide +kernel)).fr e3 (by decide +kernel)).fr g3 (by decide)⟩
      · unfold X1_settle
        rw [if_neg hv, g1]; rfl
      · dsimp only
        unfold pastS
        rw [if_neg hv]; exact ⟨_, g2⟩
  · rintro σ ⟨c1, c2, c3, c4, c5, c6, c7⟩
    dsimp only at c1 c2 c3 c4 c5 c6 c7
    have f0 := thrown_f σ 0
    simp only [bnS]
    obtain ⟨σ1, d1, d2, d3, d4⟩ := putsBy_r (N := N) (by omega) (c5.fr f0 (by decide)) k4
    have f1 : Fr [3000, 161] σ σ1 := (f0.mono (by decide)).trans (d4.mono (by decide))
    have c1' := c1.fr f1 (by decide)
    have c2' : rR σ1 153 = now := (rR_congr (f1.r (by simp [pl]))).trans c2
    obtain ⟨σ2, e1, e2, e3⟩ := hr σ1 c1' c2'
    have f2 : Fr [3000, 161, 153] σ σ2 := (f1.mono (by decide)).trans (e3.mono (by decide))
    have p2 := d2.fr e3 (by decide)
    have r2 : rW σ2 161 p.length = now := by rw [rW_congr (e3.r (by simp [pl])), d3, rR_congr (f0.r (by simp [pl])), c2]
    rw [d1, Option.bind_some, e1, Option.bind_some]
    by_cases hv : v < 0
    · refine ⟨σ2, ?_, ⟨c1.fr f2 (by decide), e2, c3.fr f2 (by decide), c4.fr f2 (by decide), ?_, c6.fr f2 (by decide), c7.fr f2 (by decide)⟩, fun B hB => hB.fr f2 (by decide +kernel)⟩
      · unfold X9_counted
        rw [if_neg (Int32.not_le.mpr hv)]; rfl
      · dsimp only
        unfold pastS
        rw [if_pos hv]; exact p2
    · obtain ⟨σ3, g1, g2, g3⟩ := adds_r hN p2 k4 r2 v
      have f3 : Fr [3000, 161, 153, 3023] σ σ3 := (f2.mono (by decide)).trans (g3.mono (by decide))
      refine ⟨σ3, ?_, ⟨c1.fr f3 (by decide), (rR_congr (g3.r (by simp [pl]))).trans e2, c3.fr f3 (by decide), c4.fr f3 (by decide), ?_, c6.fr f3 (by decide), c7.fr f3 (by decide)⟩, fun B hB => hB.fr f3 (by decide +kernel)⟩
      · unfold X9_counted
        rw [if_pos (Int32.not_lt.mp hv), g1]; rfl
      · dsimp only
        unfold pastS
        rw [if_neg hv]; exact g2
theorem RuC.n {σ : Sg} {L : Ld} (h : RuC σ L) : gi σ 5 1 = nI L.1 ∧ L.1 ≤ 8 := by
  obtain ⟨k2, _, _, c⟩ := h
  exact ⟨c.1, c.2.1⟩
theorem noT {n : Nat} {k : Nat} (h8 : n ≤ 8) (hk : k < n) : ¬ noThing n (nI k) := by
  rintro (h | h)
  · exact nI_pos (by omega) h
  · exact n_le hk (by omega) h
theorem lends_op {N : Nat} (hN : 555 < N) {H : Nat} {A : Ab} (hA : OkA H A) (a v : Int32) : OpB (X8_lends N a v) (X9_lends N a v) H A := by
  have h8 := hA.1.1.2.2.2.2
  by_cases h : noThing A.1.1 a ∨ v < 1 ∨ ¬ v ≤ 9
  · exact actOp hN hA (a8 := X0_lend N 19 a v) (a9 := X9_lendsTo N 153 a v) (-1) A.2.1 (fun σ h1 h2 => ⟨σ, lend_no h1.n.1 h8 h, h2, Fr.refl _ _⟩) (fun σ h1 h2 => ⟨σ, lendR_no h1.1 h8 h, h2, Fr.refl _ _⟩) (hA.1.mono (by omega))
  · rcases thing_or h8 a with ⟨k, hk, rfl⟩ | hno
    · have h1 : ¬ v < 1 := fun q => h (Or.inr (Or.inl q))
      have h2 : v ≤ 9 := Classical.byContradiction fun q => h (Or.inr (Or.inr q))
      exact actOp hN hA (a8 := X0_lend N 19 (nI k) v) (a9 := X9_lendsTo N 153 (nI k) v) (lendS A.2.1 k v).1 (lendS A.2.1 k v).2
        (fun σ c1 c2 => by have := lend_yes (N := N) (Or.inl rfl : (19 : Nat) = 19 ∨ (19 : Nat) = 24) c1.n.1 h8 hk h1 h2; rwa [c2] at this)
        (fun σ c1 c2 => by have := lendR_yes (N := N) (Or.inl rfl : (153 : Nat) = 153 ∨ (153 : Nat) = 154) c1.1 h8 hk h1 h2; rwa [c2] at this)
        ((lend_wf (by omega) (by omega) hA.1 hk h1 h2).mono (by omega))
    · exact absurd (Or.inl hno) h
theorem gives_op {N : Nat} (hN : 555 < N) {H : Nat} {A : Ab} (hA : OkA H A) (a v : Int32) : OpB (X8_gives N a v) (X9_gives N a v) H A := by
  have h8 := hA.1.1.2.2.2.2
  by_cases h : noThing A.1.1 a ∨ v < 1 ∨ ¬ v ≤ 9
  · exact actOp hN hA (a8 := X0_takeBack N 19 a v) (a9 := X9_givesBack N a v) (-1) A.2.1 (fun σ h1 h2 => ⟨σ, back_no h1.n.1 h8 h, h2, Fr.refl _ _⟩) (fun σ h1 h2 => ⟨σ, backR_no h1.1 h8 h, h2, Fr.refl _ _⟩) (hA.1.mono (by omega))
  · rcases thing_or h8 a with ⟨k, hk, rfl⟩ | hno
    · have h1 : ¬ v < 1 := fun q => h (Or.inr (Or.inl q))
      have h2 : v ≤ 9 := Classical.byContradiction fun q => h (Or.inr (Or.inr q))
      exact actOp hN hA (a8 := X0_takeBack N 19 (nI k) v) (a9 := X9_givesBack N (nI k) v) (backS A.2.1 k v).1 (backS A.2.1 k v).2
        (fun σ c1 c2 => by have := back_yes (N := N) (Or.inl rfl : (19 : Nat) = 19 ∨ (19 : Nat) = 24) c1.n.1 h8 hk h1 h2; rwa [c2] at this)
        (fun σ c1 c2 => by have := backR_yes (N := N) c1.1 h8 hk h1 h2; rwa [c2] at this)
        ((back_wf (by omega) hA.1 hk h1 h2).mono (by omega))
    · exact absurd (Or.inl hno) h
theorem pays_op {N : Nat} (hN : 555 < N) {H : Nat} {A : Ab} (hA : OkA H A) (a : Int32) : OpB (X8_pays N a) (X9_pays N a) H A := by
  have h8 := hA.1.1.2.2.2.2
  rcases thing_or h8 a with ⟨k, hk, rfl⟩ | h
  · obtain ⟨t, ht, et⟩ := hA.1.2.2.2.2.2.2.1
    exact actOp hN hA (a8 := X0_takeDebt N 19 (nI k)) (a9 := X9_paysAll N (nI k)) (payS A.2.1 k).1 (payS A.2.1 k).2
      (fun σ c1 c2 => by have := pay_yes (N := N) (Or.inl rfl : (19 : Nat) = 19 ∨ (19 : Nat) = 24) c1.n.1 h8 hk; rwa [c2] at this)
      (fun σ c1 c2 => by have := payR_yes (N := N) c1.1 h8 hk ht (by rw [c2]; exact et); rwa [c2] at this)
      ((pay_wf hA.1 hk).mono (by omega))
  · exact actOp hN hA (a8 := X0_takeDebt N 19 a) (a9 := X9_paysAll N a) (-1) A.2.1 (fun σ h1 h2 => ⟨σ, pay_no h1.n.1 h, h2, Fr.refl _ _⟩) (fun σ h1 h2 => ⟨σ, payR_no h1.1 h8 h, h2, Fr.refl _ _⟩) (hA.1.mono (by omega))
theorem ties_op {N : Nat} (hN : 555 < N) {H : Nat} {A : Ab} (hA : OkA H A) (a b : Int32) : OpB (X8_ties N a b) (X9_ties N a b) H A := by
  have h8 := hA.1.1.2.2.2.2
  by_cases h : noThing A.1.1 a ∨ noThing A.1.1 b ∨ a = b
  · exact actOp hN hA (a8 := X0_tieOrCut N 19 a b) (a9 := X9_tiesTwo N 153 a b) (-1) A.2.1 (fun σ h1 h2 => ⟨σ, tie_no h1.n.1 h8 h, h2, Fr.refl _ _⟩) (fun σ h1 h2 => ⟨σ, tieR_no h1.1 h8 h, h2, Fr.refl _ _⟩) (hA.1.mono (by omega))
  · rcases thing_or h8 a with ⟨k, hk, rfl⟩ | hno
    · rcases thing_or h8 b with ⟨l, hl, rfl⟩ | hno
      · have hkl : k ≠ l := fun q => h (Or.inr (Or.inr (by rw [q])))
        exact actOp hN hA (a8 := X0_tieOrCut N 19 (nI k) (nI l)) (a9 := X9_tiesTwo N 153 (nI k) (nI l)) (tieS A.2.1 k l).1 (tieS A.2.1 k l).2
          (fun σ c1 c2 => by have := tie_yes (N := N) (by omega) (Or.inl rfl : (19 : Nat) = 19 ∨ (19 : Nat) = 24) c1.n.1 h8 hk hl hkl; rwa [c2] at this)
          (fun σ c1 c2 => by have := tieR_yes (N := N) (S := 9) (H := H) (by omega) (Or.inl rfl : (153 : Nat) = 153 ∨ (153 : Nat) = 154) c1.1 (by rw [c2]; exact hA.1) hk hl hkl; rwa [c2] at this)
          ((tie_wf hA.1 hk hl hkl).mono (by omega))
      · exact absurd (Or.inr (Or.inl hno)) h
    · exact absurd (Or.inl hno) h
