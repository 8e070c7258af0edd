/-! ===== run ===== -/
def mxS (k : Nat) : Nat := if k < 2 then 0 else if k < 4 then 1 else 2
def myS (k : Nat) : Nat := if k = 0 then 1 else if k = 1 then 2 else if k = 3 then 1 else 0
def gd1 (w : Nat → Nat → Bool) (i j k : Nat) : Bool := decide (mxS k ≤ i) && decide (myS k ≤ j) && !w (i - mxS k) (j - myS k)
def anyG (w : Nat → Nat → Bool) (i j : Nat) : Bool := gd1 w i j 0 || gd1 w i j 1 || gd1 w i j 2 || gd1 w i j 3 || gd1 w i j 4
def winF : Nat → Nat → Nat → Bool
  | 0, _, _ => false
  | f + 1, i, j => anyG (winF f) i j
theorem mv_pos : ∀ k, k < 5 → 0 < mxS k + myS k := by decide
theorem gd1_congr {w w' : Nat → Nat → Bool} {i j k : Nat} (hk : k < 5) (h : ∀ i' j', i' + j' < i + j → w i' j' = w' i' j') : gd1 w i j k = gd1 w' i j k := by
  unfold gd1
  have hp := mv_pos k hk
  by_cases h1 : mxS k ≤ i
  · by_cases h2 : myS k ≤ j
    · rw [h (i - mxS k) (j - myS k) (by omega)]
    · rw [decide_eq_false h2]; simp
  · rw [decide_eq_false h1]; simp
theorem anyG_congr {w w' : Nat → Nat → Bool} {i j : Nat} (h : ∀ i' j', i' + j' < i + j → w i' j' = w' i' j') : anyG w i j = anyG w' i j := by
  unfold anyG
  rw [gd1_congr (by omega) h, gd1_congr (by omega) h, gd1_congr (by omega) h, gd1_congr (by omega) h, gd1_congr (by omega) h]
theorem winF_st : ∀ f g i j, i + j < f → i + j < g → winF f i j = winF g i j := by
  intro f
  induction f with
  | zero => intro g i j h; omega
  | succ f ih =>
    intro g i j h1 h2
    obtain ⟨g, rfl⟩ : ∃ z, g = z + 1 := ⟨g - 1, by omega⟩
    show anyG (winF f) i j = anyG (winF g) i j
    exact anyG_congr (fun i' j' h => ih g i' j' (by omega) (by omega))
def win (i j : Nat) : Bool := winF (i + j + 1) i j
theorem win_eq (i j : Nat) : win i j = anyG win i j := by
  show anyG (winF (i + j)) i j = anyG win i j
  exact anyG_congr (fun i' j' h => winF_st _ _ i' j' (by omega) (by omega))
def mvG (g : Nat → Bool) : Int32 := if g 0 then 0 else if g 1 then 1 else if g 2 then 2 else if g 3 then 3 else if g 4 then 4 else -1
theorem oC23 : ∀ k, k < 5 → oC2.getD k 0 = nI (mxS k) ∧ oC3.getD k 0 = nI (myS k) := by decide
theorem move_step {N m : Nat} {σ : Sg} {i j k : Nat} (hi : i ≤ 20) (hj : j ≤ 20) (hk : k < 5) (ht : mxS k ≤ i → myS k ≤ j → gi σ 148 (21 * (i - mxS k) + (j - myS k)) = if win (i - mxS k) (j - myS k) = true then 0 else 1) : X8_winningMove_l2 N σ (m + 1) (nI i) (nI j) (nI k) = if gd1 win i j k = true then some (nI k) else X8_winningMove_l2 N σ m (nI i) (nI j) (nI (k + 1)) := by
  rw [X8_winningMove_l2, if_neg (show ¬ (5 : Int32) ≤ nI k from nI_ge (b := 5) hk (by decide)), inbI hk (by omega), clI (by omega), (oC23 k hk).1, (oC23 k hk).2, if_pos rfl, if_pos rfl, nI1]
  unfold gd1
  have b1 : mxS k ≤ 2 := by unfold mxS; repeat' split
                            all_goals omega
  have b2 : myS k ≤ 2 := by unfold myS; repeat' split
                            all_goals omega
  by_cases h1 : mxS k ≤ i
  · rw [pk_sub h1, if_neg (nI_pos (by omega))]
    by_cases h2 : myS k ≤ j
    · rw [pk_sub h2, if_neg (nI_pos (by omega)), show nI (i - mxS k) * 21 = nI ((i - mxS k) * 21) from pk_mul _ 21, nI_add, Nat.mul_comm (i - mxS k) 21, inbI (show 21 * (i - mxS k) + (j - myS k) < 441 by omega) (by omega), clI (by omega), if_pos rfl, ht h1 h2, decide_eq_true h1, decide_eq_true h2]
      cases win (i - mxS k) (j - myS k) <;> simp
    · rw [if_pos (pk_sneg (by omega) (by omega)), decide_eq_false h2]; simp
  · rw [if_pos (pk_sneg (by omega) (by omega)), decide_eq_false h1]; simp
def tbC (b x y : Nat) (σ : Sg) : Prop := ∀ i j, j ≤ b → (i < x ∨ (i = x ∧ j < y)) → gi σ 148 (21 * i + j) = if win i j = true then 0 else 1
theorem move_c {N : Nat} (hN : 10 < N) {σ : Sg} {b i j : Nat} (hi : i ≤ 20) (hj : j ≤ b) (hb1 : b ≤ 20) (ht : tbC b i j σ) : X8_winningMove N (nI i) (nI j) σ = some (mvG (gd1 win i j)) := by
  obtain ⟨m, rfl⟩ : ∃ k, N = k + 6 := ⟨N - 6, by omega⟩
  have hk : ∀ k, k < 5 → mxS k ≤ i → myS k ≤ j → gi σ 148 (21 * (i - mxS k) + (j - myS k)) = if win (i - mxS k) (j - myS k) = true then 0 else 1 := by
    intro k hk h1 h2
    have hp := mv_pos k hk
    exact ht _ _ (by omega) (by omega)
  unfold X8_winningMove
  rw [show (0 : Int32) = nI 0 from rfl, move_step hi (by omega) (by omega) (hk 0 (by omega)), move_step hi (by omega) (by omega) (hk 1 (by omega)), move_step hi (by omega) (by omega) (hk 2 (by omega)), move_step hi (by omega) (by omega) (hk 3 (by omega)), move_step hi (by omega) (by omega) (hk 4 (by omega)), X8_winningMove_l2, if_pos (show (5 : Int32) ≤ nI (4 + 1) by decide)]
  unfold mvG
  cases gd1 win i j 0 <;> cases gd1 win i j 1 <;> cases gd1 win i j 2 <;> cases gd1 win i j 3 <;> cases gd1 win i j 4 <;> rfl
theorem mv_win (i j : Nat) : (0 ≤ mvG (gd1 win i j)) ↔ win i j = true := by
  rw [win_eq]
  unfold mvG anyG
  cases gd1 win i j 0 <;> cases gd1 win i j 1 <;> cases gd1 win i j 2 <;> cases gd1 win i j 3 <;> cases gd1 win i j 4 <;> decide
def lastS (b : Nat) : Nat → Nat → Int32
  | 0, 0 => -1
  | x + 1, 0 => mvG (gd1 win x b)
  | x, y + 1 => mvG (gd1 win x y)
theorem narB0 : vp_nar .boolean 0 = 0 := by decide
theorem tbC_step {b x y : Nat} {σ : Sg} (hy : y ≤ b) (hb1 : b ≤ 20) (h : tbC b x y σ) {v : Int32} (hv : v = if win x y = true then 0 else 1) : tbC b x (y + 1) (wi σ 148 (21 * x + y) v) := by
  intro i j hj hl
  rw [giw]
  by_cases z : i = x ∧ j = y
  · rw [if_pos ⟨rfl, by rw [z.1, z.2]⟩, hv, z.1, z.2]
  · have hne : ¬ 21 * i + j = 21 * x + y := by
      intro e
      apply z
      have hj20 : j < 21 := by omega
      have hy20 : y < 21 := by omega
      have : i = x := by omega
      exact ⟨this, by omega⟩
    rw [if_neg (fun q => hne q.2)]
    exact h i j hj (by omega)
def rnL (a b : Nat) : List Int64 := if win a b = true then [(nI (mxS (mvG (gd1 win a b)).toNatClampNeg)).toInt64, (nI (myS (mvG (gd1 win a b)).toNatClampNeg)).toInt64] else []
theorem rnL_len (a b : Nat) : (rnL a b).length ≤ 2 := by unfold rnL; split <;> simp
theorem run_c {N : Nat} (hN : 555 < N) {a b : Nat} (ha : a ≤ 20) (hb1 : b ≤ 20) (σ : Sg) : ∃ σ', X8_run N (nI a) (nI b) σ = some (if win a b = true then 1 else 0, σ') ∧ ToC σ' (rnL a b) ∧ Fr scrC σ σ' := by
  unfold X8_run
  rw [if_neg (nI_pos (by omega)), if_neg (show ¬ (20 : Int32) < nI a from nI_nlt (a := 20) ha (by decide)), if_neg (nI_pos (by omega)), if_pos (show nI b ≤ 20 from nI_le (b := 20) hb1 (by decide))]
  refine rectL (p := a + 1) (q := b + 1) (N := N) (Lo := fun m x (s : Int32 × Sg) => X8_run_l27 N (fun v3 σ => X8_run_j85 N v3 σ) m (nI a) (nI b) s.1 (nI x) s.2)
    (Li := fun m x f y s => X8_run_l36 N (fun v1 v2 v3 v4 σ => X8_run_j79 N (fun v1 v2 v3 v4 σ => X8_run_l27 N (fun v3 σ => X8_run_j85 N v3 σ) m v1 v2 v3 v4 σ) v1 v2 v3 v4 σ) f (nI a) (nI b) s.1 (nI x) (nI y) s.2)
    (fun x y s => s.1 = lastS b x y ∧ tbC b x y s.2 ∧ Fr [148] σ s.2) (o := fun z => ∃ σ', z = some (if win a b = true then 1 else 0, σ') ∧ ToC σ' (rnL a b) ∧ Fr scrC σ σ') (by omega) (by omega) ?_ ?_ ?_ ?_ ?_ (s0 := (-1, σ)) ⟨rfl, fun i j _ h => by omega, Fr.refl _ _⟩
  · rintro m x ⟨v, τ⟩ hx _
    dsimp only
    rw [X8_run_l27, if_neg (nI_nlt (by omega) (by omega))]
    rfl
  · rintro m x f y ⟨v, τ⟩ hx hy ⟨i1, i2, i3⟩
    dsimp only at i1 i2 i3 ⊢
    have hmv := move_c (N := N) (by omega) (show x ≤ 20 by omega) (show y ≤ b by omega) hb1 i2
    have hls : lastS b x (y + 1) = mvG (gd1 win x y) := by cases x <;> rfl
    refine ⟨(mvG (gd1 win x y), wi τ 148 (21 * x + y) (if win x y = true then 0 else 1)), ⟨hls.symm, tbC_step (by omega) hb1 i2 rfl, i3.wi (by simp [pl])⟩, ?_⟩
    rw [X8_run_l36, if_neg (nI_nlt (by omega) (by omega)), hmv, Option.bind_some, show nI x * 21 = nI (x * 21) from pk_mul x 21, nI_add, Nat.mul_comm x 21, inbI (show 21 * x + y < 441 by omega) (by omega), clI (by omega), nI1, narB0, narB1]
    by_cases q : win x y = true
    · rw [if_pos ((mv_win x y).mpr q), if_pos rfl, if_pos q]; rfl
    · rw [if_neg (fun z => q ((mv_win x y).mp z)), if_pos rfl, if_neg q]; rfl
  · rintro m x f ⟨v, τ⟩ hx _
    dsimp only
    rw [X8_run_l36, if_pos (nI_lt (by omega) (by omega)), X8_run_j79, nI1]
  · rintro x ⟨v, τ⟩ hx ⟨i1, i2, i3⟩
    refine ⟨?_, fun i j hj h => i2 i j hj (by omega), i3⟩
    dsimp only at i1 ⊢
    rw [i1]
    cases x <;> rfl
  · rintro m ⟨v, τ⟩ ⟨i1, i2, i3⟩
    dsimp only at i1 i2 i3 ⊢
    have i1 : v = mvG (gd1 win a b) := i1
    subst i1
    obtain ⟨σ4, g1, g2, g3⟩ := tclear_c N τ
    rw [X8_run_l27, if_pos (nI_lt (by omega) (by omega)), X8_run_j85, g1, Option.bind_some]
    have hk : ∃ k, k < 6 ∧ ((k < 5 ∧ mvG (gd1 win a b) = nI k) ∨ mvG (gd1 win a b) = -1) := by
      unfold mvG
      cases gd1 win a b 0 <;> cases gd1 win a b 1 <;> cases gd1 win a b 2 <;> cases gd1 win a b 3 <;> cases gd1 win a b 4 <;> first | exact ⟨0, by omega, Or.inl ⟨by omega, rfl⟩⟩ | exact ⟨1, by omega, Or.inl ⟨by omega, rfl⟩⟩ | exact ⟨2, by omega, Or.inl ⟨by omega, rfl⟩⟩ | exact ⟨3, by omega, Or.inl ⟨by omega, rfl⟩⟩ | exact ⟨4, by omega, Or.inl ⟨by omega, rfl⟩⟩ | exact ⟨5, by omega, Or.inr rfl⟩
    by_cases q : win a b = true
    · have h0 := (mv_win a b).mpr q
      obtain ⟨k, _, hk⟩ := hk
      rcases hk with ⟨hk, ek⟩ | ek
      · obtain ⟨σ5, j1, j2, j3⟩ := tell2_c N (nI (mxS k)).toInt64 (nI (myS k)).toInt64 σ4
        refine ⟨σ5, ?_, ?_, ((i3.mono (by decide)).trans (g3.mono (by decide))).trans (j3.mono (by decide))⟩
        · rw [if_pos h0, ek, inbI hk (by omega), clI (by omega), (oC23 k hk).1, (oC23 k hk).2, if_pos rfl, if_pos rfl, j1, if_pos q]; rfl
        · unfold rnL
          rw [if_pos q, ek, clI (by omega)]; exact j2
      · rw [ek] at h0; exact absurd h0 (by decide)
    · refine ⟨σ4, ?_, ?_, (i3.mono (by decide)).trans (g3.mono (by decide))⟩
      · rw [if_neg (fun z => q ((mv_win a b).mp z)), if_neg q]
      · unfold rnL; rw [if_neg q]; exact g2
