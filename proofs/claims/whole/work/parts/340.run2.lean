/-! ===== run: the reference ===== -/
def gXY (w : Nat → Nat → Bool) (i j x y : Nat) : Bool := decide (0 < x + y) && decide (x + y < 3) && decide (x ≤ i) && decide (y ≤ j) && !w (i - x) (j - y)
def bI (b : Bool) : Int32 := if b = true then 1 else 0
theorem bI_nar (b : Bool) : vp_nar .boolean (bI b) = bI b := by cases b <;> decide
theorem good_r (N : Nat) {σ : Sg} {i j x y : Nat} (hi : i ≤ 20) (hj : j ≤ 20) (hx : x < 3) (hy : y < 3) (ht : 0 < x + y → x ≤ i → y ≤ j → gi σ 175 (21 * (i - x) + (j - y)) = bI (win (i - x) (j - y))) : X9_isGood N (nI i) (nI j) (nI x) (nI y) σ = some (bI (gXY win i j x y)) := by
  unfold X9_isGood gXY
  rw [nI_add]
  by_cases h0 : 0 < x + y
  · rw [if_neg (nI_nle h0 (by omega)), decide_eq_true h0]
    by_cases h3 : x + y < 3
    · rw [if_neg (show ¬ (3 : Int32) ≤ nI (x + y) from nI_ge (b := 3) h3 (by decide)), decide_eq_true h3]
      by_cases h1 : x ≤ i
      · rw [if_neg (nI_nlt h1 (by omega)), decide_eq_true h1]
        by_cases h2 : y ≤ j
        · rw [if_neg (nI_nlt h2 (by omega)), decide_eq_true h2, pk_sub h1, pk_sub h2, show X9_pile N (nI (i - x)) (nI (j - y)) σ = some (21 * nI (i - x) + nI (j - y)) from rfl, Option.bind_some, show (21 : Int32) * nI (i - x) = nI (21 * (i - x)) from pk_mul 21 _, nI_add, inbI (show 21 * (i - x) + (j - y) < 441 by omega) (by omega), clI (by omega), if_pos rfl, ht h0 h1 h2]
          cases win (i - x) (j - y) <;> rfl
        · rw [if_pos (nI_lt (by omega) (by omega)), decide_eq_false h2]; rfl
      · rw [if_pos (nI_lt (by omega) (by omega)), decide_eq_false h1]; rfl
    · rw [if_pos (show (3 : Int32) ≤ nI (x + y) from nI_le (a := 3) (by omega) (by omega)), decide_eq_false h3]; rfl
  · rw [if_pos (by rw [show x + y = 0 by omega]; decide), decide_eq_false h0]; rfl
def tbR (b x y : Nat) (σ : Sg) : Prop := ∀ i j, j ≤ b → (i < x ∨ (i = x ∧ j < y)) → gi σ 175 (21 * i + j) = bI (win i j)
theorem tbR_step {b x y : Nat} {σ : Sg} (hy : y ≤ b) (hb1 : b ≤ 20) (h : tbR b x y σ) : tbR b x (y + 1) (wi σ 175 (21 * x + y) (bI (win x y))) := by
  intro i j hj hl
  rw [giw]
  by_cases z : i = x ∧ j = y
  · rw [if_pos ⟨rfl, by rw [z.1, z.2]⟩, z.1, z.2]
  · have hne : ¬ 21 * i + j = 21 * x + y := by
      intro e
      apply z
      have : i = x := by omega
      exact ⟨this, by omega⟩
    rw [if_neg (fun q => hne q.2)]
    exact h i j hj (by omega)
theorem lt3 {i : Nat} (h : i < 3) : ¬ (3 : Int32) ≤ nI i := nI_ge (b := 3) h (by decide)
theorem lt3' : (3 : Int32) ≤ nI 3 := by decide
theorem nine (i j : Nat) : reS (fun x y s => s || gXY win i j x y) 3 false 3 0 = win i j := by
  rw [win_eq]
  have e : reS (fun x y s => s || gXY win i j x y) 3 false 3 0 = (((((((((false || gXY win i j 0 0) || gXY win i j 0 1) || gXY win i j 0 2) || gXY win i j 1 0) || gXY win i j 1 1) || gXY win i j 1 2) || gXY win i j 2 0) || gXY win i j 2 1) || gXY win i j 2 2) := rfl
  rw [e, show gXY win i j 0 0 = false from rfl, show gXY win i j 1 2 = false from rfl, show gXY win i j 2 1 = false from rfl, show gXY win i j 2 2 = false from rfl, show gXY win i j 0 1 = gd1 win i j 0 from rfl, show gXY win i j 0 2 = gd1 win i j 1 from rfl, show gXY win i j 1 0 = gd1 win i j 2 from rfl, show gXY win i j 1 1 = gd1 win i j 3 from rfl, show gXY win i j 2 0 = gd1 win i j 4 from rfl]
  unfold anyG
  simp
theorem cell_r {N : Nat} (hN : 10 < N) {σ : Sg} {b i j : Nat} (hi : i ≤ 20) (hj : j ≤ b) (hb1 : b ≤ 20) (ht : tbR b i j σ) (k106 : Int32 → Int32 → Int32 → Int32 → Int32 → Sg → Option (Int32 × Sg)) (v1 v2 : Int32) : X9_run_l53 N k106 N v1 v2 (nI i) (nI j) 0 0 σ = k106 v1 v2 (nI i) (nI j) (bI (win i j)) σ := by
  have hgood : ∀ x y, x < 3 → y < 3 → X9_isGood N (nI i) (nI j) (nI x) (nI y) σ = some (bI (gXY win i j x y)) := fun x y hx hy => good_r N hi (by omega) hx hy (fun h0 h1 h2 => ht _ _ (by omega) (by omega))
  refine rectL (p := 3) (q := 3) (N := N) (Lo := fun m x (s : Bool) => X9_run_l53 N k106 m v1 v2 (nI i) (nI j) (bI s) (nI x) σ)
    (Li := fun m x f y s => X9_run_l62 N (fun v1 v2 v3 v4 v5 v6 σ => X9_run_j100 N (fun v1 v2 v3 v4 v5 v6 σ => X9_run_l53 N k106 m v1 v2 v3 v4 v5 v6 σ) v1 v2 v3 v4 v5 v6 σ) f v1 v2 (nI i) (nI j) (bI s) (nI x) (nI y) σ)
    (fun x y s => s = reS (fun x y s => s || gXY win i j x y) 3 false x y) (o := fun z => z = k106 v1 v2 (nI i) (nI j) (bI (win i j)) σ) (by omega) (by omega) ?_ ?_ ?_ ?_ ?_ (s0 := false) rfl
  · intro m x s hx _
    rw [X9_run_l53, if_neg (lt3 hx)]
    rfl
  · intro m x f y s hx hy hI
    refine ⟨s || gXY win i j x y, by rw [reS_s, hI], ?_⟩
    rw [X9_run_l62, if_neg (lt3 hy), hgood x y hx hy, Option.bind_some, nI1]
    cases s
    · rw [if_pos (show bI false = 0 from rfl)]
      cases gXY win i j x y
      · rw [if_pos (show bI false = 0 from rfl)]; rfl
      · rw [if_neg (show ¬ bI true = 0 from oneF)]; rfl
    · rw [if_neg (show ¬ bI true = 0 from oneF)]; rfl
  · intro m x f s hx _
    rw [X9_run_l62, if_pos lt3', X9_run_j100, nI1]
  · intro x s hx hI
    rw [reS_n]; exact hI
  · intro m s hI
    rw [X9_run_l53, if_pos lt3', hI, nine]
abbrev Rs : Type := Option (Nat × Nat)
def rnF (i j x y : Nat) : Rs → Rs
  | none => if gXY win i j x y = true then some (x, y) else none
  | some p => some p
def rnT : Rs → List Int64
  | none => []
  | some p => [(nI p.1).toInt64, (nI p.2).toInt64]
theorem scan (i j : Nat) : rnT (reS (rnF i j) 3 none 3 0) = rnL i j ∧ ((reS (rnF i j) 3 none 3 0).isSome = win i j) := by
  have e : reS (rnF i j) 3 none 3 0 = rnF i j 2 2 (rnF i j 2 1 (rnF i j 2 0 (rnF i j 1 2 (rnF i j 1 1 (rnF i j 1 0 (rnF i j 0 2 (rnF i j 0 1 (rnF i j 0 0 none)))))))) := rfl
  have h00 : gXY win i j 0 0 = false := rfl
  have h12 : gXY win i j 1 2 = false := rfl
  have h21 : gXY win i j 2 1 = false := rfl
  have h22 : gXY win i j 2 2 = false := rfl
  have h01 : gXY win i j 0 1 = gd1 win i j 0 := rfl
  have h02 : gXY win i j 0 2 = gd1 win i j 1 := rfl
  have h10 : gXY win i j 1 0 = gd1 win i j 2 := rfl
  have h11 : gXY win i j 1 1 = gd1 win i j 3 := rfl
  have h20 : gXY win i j 2 0 = gd1 win i j 4 := rfl
  rw [e]
  unfold rnL
  rw [win_eq]
  unfold anyG mvG
  unfold rnF
  rw [h00, h12, h21, h22, h01, h02, h10, h11, h20]
  cases gd1 win i j 0 <;> cases gd1 win i j 1 <;> cases gd1 win i j 2 <;> cases gd1 win i j 3 <;> cases gd1 win i j 4 <;> exact ⟨rfl, rfl⟩
theorem run_r {N : Nat} (hN : 555 < N) {a b : Nat} (ha : a ≤ 20) (hb1 : b ≤ 20) (σ : Sg) : ∃ σ', X9_run N (nI a) (nI b) σ = some (if win a b = true then 1 else 0, σ') ∧ ToR σ' (rnL a b) ∧ Fr scrR σ σ' := by
  have f0 := thrown_f σ 0
  unfold X9_run
  simp only [bnS]
  rw [in11 N (hi := 20) (h64 := 20) rfl (nI_pos (by omega)) (nI_le (b := 20) ha (by decide)), Option.bind_some, if_neg oneF, in11 N (hi := 20) (h64 := 20) rfl (nI_pos (by omega)) (nI_le (b := 20) hb1 (by decide)), Option.bind_some, if_neg oneF]
  refine rectL (p := a + 1) (q := b + 1) (N := N) (Lo := fun m x (τ : Sg) => X9_run_l33 N (fun v1 v2 σ => X9_run_j131 N v1 v2 σ) m (nI a) (nI b) (nI x) τ)
    (Li := fun m x f y τ => X9_run_l41 N (fun v1 v2 v3 σ => X9_run_j125 N (fun v1 v2 v3 σ => X9_run_l33 N (fun v1 v2 σ => X9_run_j131 N v1 v2 σ) m v1 v2 v3 σ) v1 v2 v3 σ) f (nI a) (nI b) (nI x) (nI y) τ)
    (fun x y τ => tbR b x y τ ∧ Fr [175] (wi σ 149 0 0) τ) (o := fun z => ∃ σ', z = some (if win a b = true then 1 else 0, σ') ∧ ToR σ' (rnL a b) ∧ Fr scrR σ σ') (by omega) (by omega) ?_ ?_ ?_ ?_ ?_ (s0 := wi σ 149 0 0) ⟨fun i j _ h => by omega, Fr.refl _ _⟩
  · intro m x τ hx _
    rw [X9_run_l33, if_neg (nI_nlt (by omega) (by omega))]
    rfl
  · intro m x f y τ hx hy hI
    obtain ⟨i1, i2⟩ := hI
    refine ⟨wi τ 175 (21 * x + y) (bI (win x y)), ⟨tbR_step (by omega) hb1 i1, i2.wi (by simp [pl])⟩, ?_⟩
    rw [X9_run_l41, if_neg (nI_nlt (by omega) (by omega)), cell_r (by omega) (by omega) (by omega) hb1 i1, X9_run_j106, show X9_pile N (nI x) (nI y) τ = some (21 * nI x + nI y) from rfl, Option.bind_some, show (21 : Int32) * nI x = nI (21 * x) from pk_mul 21 _, nI_add, inbI (show 21 * x + y < 441 by omega) (by omega), clI (by omega), bI_nar, if_pos rfl, nI1]
    rfl
  · intro m x f τ hx _
    rw [X9_run_l41, if_pos (nI_lt (by omega) (by omega)), X9_run_j125, nI1]
  · intro x τ hx hI
    exact ⟨fun i j hj h => hI.1 i j hj (by omega), hI.2⟩
  · intro m τ hI
    obtain ⟨i1, i2⟩ := hI
    have tf := told0_f τ
    rw [X9_run_l33, if_pos (nI_lt (by omega) (by omega)), X9_run_j131]
    simp only [bnS]
    have hgood : ∀ τ', Fr [3001, 150] τ τ' → ∀ x y, x < 3 → y < 3 → X9_isGood N (nI a) (nI b) (nI x) (nI y) τ' = some (bI (gXY win a b x y)) := fun τ' f x y hx hy => good_r N ha hb1 hx hy (fun h0 h1 h2 => by rw [f.g (k := 175) (by simp [pl])]; exact i1 _ _ (by omega) (by omega))
    refine rectL (p := 3) (q := 3) (N := N) (Lo := fun m x (s : Rs × Sg) => X9_run_l138 N (fun σ => X9_run_j196 N σ) m (nI a) (nI b) (nI x) s.2)
      (Li := fun m x f y s => X9_run_l146 N (fun v1 v2 v3 σ => X9_run_j190 N (fun v1 v2 v3 σ => X9_run_l138 N (fun σ => X9_run_j196 N σ) m v1 v2 v3 σ) v1 v2 v3 σ) f (nI a) (nI b) (nI x) (nI y) s.2)
      (fun x y s => s.1 = reS (rnF a b) 3 none x y ∧ ToR s.2 (rnT s.1) ∧ Fr [3001, 150] τ s.2) (o := fun z => ∃ σ', z = some (if win a b = true then 1 else 0, σ') ∧ ToR σ' (rnL a b) ∧ Fr scrR σ σ') (by omega) (by omega) ?_ ?_ ?_ ?_ ?_ (s0 := (none, wi τ 149 1 0)) ⟨rfl, told0_r τ, tf⟩
    · rintro m x ⟨s, ρ⟩ hx _
      dsimp only
      rw [X9_run_l138, if_neg (lt3 hx)]
      rfl
    · rintro m x f y ⟨s, ρ⟩ hx hy ⟨j1, j2, j3⟩
      dsimp only at j1 j2 j3 ⊢
      have hnx : reS (rnF a b) 3 none x (y + 1) = rnF a b x y s := by rw [reS_s, j1]
      cases s with
      | none =>
        have e0 : gi ρ 149 1 = 0 := j2.1
        by_cases q : gXY win a b x y = true
        · obtain ⟨ρ1, g1, g2, g3⟩ := enters_r N j2 (by simp [rnT]) (nI x).toInt64
          obtain ⟨ρ2, l1, l2, l3⟩ := enters_r N g2 (by simp [rnT]) (nI y).toInt64
          have hs : rnF a b x y none = some (x, y) := if_pos q
          rw [hs] at hnx
          refine ⟨(some (x, y), ρ2), ⟨hnx.symm, l2, (j3.trans g3).trans l3⟩, ?_⟩
          dsimp only
          rw [X9_run_l146, if_neg (lt3 hy), e0, if_pos rfl, hgood ρ j3 x y hx hy, q, Option.bind_some, if_neg (show ¬ bI true = 0 from oneF), g1, Option.bind_some, l1, Option.bind_some, nI1]
        · have hs : rnF a b x y none = none := if_neg q
          rw [hs] at hnx
          refine ⟨(none, ρ), ⟨hnx.symm, j2, j3⟩, ?_⟩
          dsimp only
          rw [X9_run_l146, if_neg (lt3 hy), e0, if_pos rfl, hgood ρ j3 x y hx hy, show gXY win a b x y = false by simpa using q, Option.bind_some, if_pos (show bI false = 0 from rfl), nI1]
      | some p =>
        have e2 : gi ρ 149 1 = nI 2 := j2.1
        have hs : rnF a b x y (some p) = some p := rfl
        rw [hs] at hnx
        refine ⟨(some p, ρ), ⟨hnx.symm, j2, j3⟩, ?_⟩
        dsimp only
        rw [X9_run_l146, if_neg (lt3 hy), e2, if_neg (by decide), nI1]
    · rintro m x f ⟨s, ρ⟩ hx _
      dsimp only
      rw [X9_run_l146, if_pos lt3', X9_run_j190, nI1]
    · rintro x ⟨s, ρ⟩ hx ⟨j1, j2, j3⟩
      exact ⟨by rw [reS_n]; exact j1, j2, j3⟩
    · rintro m ⟨s, ρ⟩ ⟨j1, j2, j3⟩
      dsimp only at j1 j2 j3 ⊢
      obtain ⟨sc1, sc2⟩ := scan a b
      rw [← j1] at sc1 sc2
      rw [← sc1, ← sc2]
      refine ⟨ρ, ?_, j2, ((f0.mono (by decide)).trans (i2.mono (by decide))).trans (j3.mono (by decide))⟩
      rw [X9_run_l138, if_pos lt3', X9_run_j196, j2.1]
      cases s with
      | none => rfl
      | some p => rfl
theorem run_op {N : Nat} (hN : 555 < N) {H : Nat} {A : Ab} (hA : OkA H A) (u v : Int32) : OpB (X8_run N u v) (X9_run N u v) H A := by
  rcases upto 20 (by omega) u with ⟨a, ha, rfl⟩ | h
  · rcases upto 20 (by omega) v with ⟨b, hb1, rfl⟩ | h
    · exact OpB.told hA _ _ (by have := rnL_len a b; omega) (fun σ _ => run_c hN ha hb1 σ) (fun σ _ => run_r hN ha hb1 σ)
    · refine OpB.no hA (-1) (fun σ _ => ?_) (fun σ _ => ?_)
      · unfold X8_run
        rw [if_neg (nI_pos (by omega)), if_neg (show ¬ (20 : Int32) < nI a from nI_nlt (a := 20) ha (by decide))]
        by_cases z : v < 0
        · rw [if_pos z]
        · rw [if_neg z, if_neg (show ¬ v ≤ 20 from fun y => h.elim z (fun u => absurd u (Int32.not_lt.mpr y)))]
      · unfold X9_run
        simp only [bnS]
        rw [in11 N (hi := 20) (h64 := 20) rfl (nI_pos (by omega)) (nI_le (b := 20) ha (by decide)), Option.bind_some, if_neg oneF, in01 N (hi := 20) (h64 := 20) rfl h, Option.bind_some, if_pos rfl]
  · refine OpB.no hA (-1) (fun σ _ => ?_) (fun σ _ => ?_)
    · unfold X8_run
      by_cases z : u < 0
      · rw [if_pos z]
      · rw [if_neg z, if_pos (show (20 : Int32) < u from h.resolve_left z)]
    · unfold X9_run
      simp only [bnS]
      rw [in01 N (hi := 20) (h64 := 20) rfl h, Option.bind_some, if_pos rfl]
