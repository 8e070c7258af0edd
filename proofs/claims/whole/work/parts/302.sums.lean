/-! ===== sums over things, strings, bundles ===== -/
theorem stonesOf_b {N : Nat} (hN : 8 < N) (k0 : Nat) (s : Int32) (σ : Sg) : X5_stonesOf N k0 s σ = some (sumB (hb s) (gi σ (k0 + 1)) 8) := by
  unfold X5_stonesOf
  refine forL0 (L := fun n i a => X5_stonesOf_l4 N k0 σ n s a (nI i)) (m := 8) (fun i a => a = sumB (hb s) (gi σ (k0 + 1)) i) (o := fun x => x = some (sumB (hb s) (gi σ (k0 + 1)) 8)) hN rfl ?_ ?_
  · intro n i a hi ha
    left
    refine ⟨_, rfl, ?_⟩
    show X5_stonesOf_l4 N k0 σ (n + 1) s a (nI i) = X5_stonesOf_l4 N k0 σ n s _ (nI (i + 1))
    rw [X5_stonesOf_l4, if_neg (c8 hi)]
    simp only [hasT s (show i < 32 by omega), inbI hi (by omega), clI (show i < 2147483648 by omega), nI1, if_true]
    subst ha
    cases h : hb s i <;> simp [sumB, h]
  · intro n a ha
    show X5_stonesOf_l4 N k0 σ (n + 1) s a (nI 8) = _
    rw [X5_stonesOf_l4, if_pos c8', ha]
theorem needOf_b {N : Nat} (hN : 8 < N) (s : Int32) (σ : Sg) : X0_needOf N s σ = some (sumB (hb s) (gi σ 15) 8) := by
  unfold X0_needOf
  refine forL0 (L := fun n i a => X0_needOf_l4 N σ n s a (nI i)) (m := 8) (fun i a => a = sumB (hb s) (gi σ 15) i) (o := fun x => x = some (sumB (hb s) (gi σ 15) 8)) hN rfl ?_ ?_
  · intro n i a hi ha
    left
    refine ⟨_, rfl, ?_⟩
    show X0_needOf_l4 N σ (n + 1) s a (nI i) = X0_needOf_l4 N σ n s _ (nI (i + 1))
    rw [X0_needOf_l4, if_neg (c8 hi)]
    simp only [hasT s (show i < 32 by omega), inbI hi (by omega), clI (show i < 2147483648 by omega), nI1, if_true]
    subst ha
    cases h : hb s i <;> simp [sumB, h]
  · intro n a ha
    show X0_needOf_l4 N σ (n + 1) s a (nI 8) = _
    rw [X0_needOf_l4, if_pos c8', ha]
theorem excess_b {N : Nat} (hN : 8 < N) (k1 : Nat) (s : Int32) (σ : Sg) : X0_excess N k1 s σ = some (sumB (hb s) (gi σ (k1 + 1)) 8 - sumB (hb s) (gi σ 15) 8) := by
  unfold X0_excess
  rw [stonesOf_b hN, needOf_b hN]
  rfl
theorem sumOf_b {N : Nat} (hN : 8 < N) (k1 f : Nat) (s : Int32) {σ : Sg} {n : Nat} (hn : gi σ 149 3 = nI n) (h8 : n ≤ 8) (hf : f + n ≤ 37) : X9_sumOf N k1 (nI f) s σ = some (sumB (hb s) (fun i => gi σ k1 (f + i)) n) := by
  unfold X9_sumOf
  refine forL0 (L := fun m i a => X9_sumOf_l6 N k1 σ m (nI f) s a (nI i)) (m := n) (fun i a => a = sumB (hb s) (fun i => gi σ k1 (f + i)) i) (o := fun x => x = some (sumB (hb s) (fun i => gi σ k1 (f + i)) n)) (by omega) rfl ?_ ?_
  · intro m i a hi ha
    left
    refine ⟨_, rfl, ?_⟩
    show X9_sumOf_l6 N k1 σ (m + 1) (nI f) s a (nI i) = X9_sumOf_l6 N k1 σ m (nI f) s _ (nI (i + 1))
    rw [X9_sumOf_l6, hn, if_neg (n_le hi (by omega)), has_b N s (by omega), nI_add, inbI (show f + i < 37 by omega) (by omega), clI (by omega), nI1, Option.bind_some]
    subst ha
    cases h : hb s i <;> simp [sumB, h]
  · intro m a ha
    show X9_sumOf_l6 N k1 σ (m + 1) (nI f) s a (nI n) = _
    rw [X9_sumOf_l6, hn, if_pos (nI_le (Nat.le_refl _) (by omega)), ha]
theorem stringCount_b {N : Nat} (hN : 8 < N) (k0 : Nat) (σ : Sg) : X5_stringCount N k0 σ = some (sumB (fun _ => true) (fun i => popI (gi σ (k0 + 4) i)) 8 / 2) := by
  unfold X5_stringCount
  refine forL0 (L := fun n i a => X5_stringCount_l4 N k0 σ n a (nI i)) (m := 8) (fun i a => a = sumB (fun _ => true) (fun i => popI (gi σ (k0 + 4) i)) i) (o := fun x => x = some (sumB (fun _ => true) (fun i => popI (gi σ (k0 + 4) i)) 8 / 2)) hN rfl ?_ ?_
  · intro n i a hi ha
    left
    refine ⟨_, rfl, ?_⟩
    show X5_stringCount_l4 N k0 σ (n + 1) a (nI i) = X5_stringCount_l4 N k0 σ n _ (nI (i + 1))
    rw [X5_stringCount_l4, if_neg (c8 hi), bitCount_eq, inbI hi (by omega), clI (by omega), nI1, Option.bind_some]
    subst ha
    simp [sumB]
  · intro n a ha
    show X5_stringCount_l4 N k0 σ (n + 1) a (nI 8) = _
    rw [X5_stringCount_l4, if_pos c8', ha]
theorem stringMany_b {N : Nat} (hN : 8 < N) (k1 : Nat) {σ : Sg} {n : Nat} (hn : gi σ 149 3 = nI n) (h8 : n ≤ 8) : X9_stringMany N k1 σ = some (sumB (fun _ => true) (fun i => popI (gi σ k1 (24 + i))) n / 2) := by
  unfold X9_stringMany
  refine forL0 (L := fun m i a => X9_stringMany_l4 N k1 σ m a (nI i)) (m := n) (fun i a => a = sumB (fun _ => true) (fun i => popI (gi σ k1 (24 + i))) i) (o := fun x => x = some (sumB (fun _ => true) (fun i => popI (gi σ k1 (24 + i))) n / 2)) (by omega) rfl ?_ ?_
  · intro m i a hi ha
    left
    refine ⟨_, rfl, ?_⟩
    show X9_stringMany_l4 N k1 σ (m + 1) a (nI i) = X9_stringMany_l4 N k1 σ m _ (nI (i + 1))
    rw [X9_stringMany_l4, hn, if_neg (n_le hi (by omega)), show (24 : Int32) = nI 24 from rfl, nI_add, bitCount_eq, inbI (show 24 + i < 37 by omega) (by omega), clI (by omega), nI1, Option.bind_some]
    subst ha
    simp [sumB]
  · intro m a ha
    show X9_stringMany_l4 N k1 σ (m + 1) a (nI n) = _
    rw [X9_stringMany_l4, hn, if_pos (nI_le (Nat.le_refl _) (by omega)), ha]
/-! ===== bundles ===== -/
def subI (a b : Int32) : Prop := ∀ j, hb a j = true → hb b j = true
def Cls (f : Nat → Int32) (c : Int32) : Prop := ∀ i, i < 8 → hb c i = true → subI (f i) c
def IsBu (f : Nat → Int32) (k : Nat) (b : Int32) : Prop := hb b k = true ∧ Cls f b ∧ ∀ c, hb c k = true → Cls f c → subI b c
theorem IsBu.uniq {f : Nat → Int32} {k : Nat} {b b' : Int32} (h : IsBu f k b) (h' : IsBu f k b') : b = b' := hb_ext fun i _ => by
  have a := h.2.2 b' h'.1 h'.2.1 i
  have c := h'.2.2 b h.1 h.2.1 i
  cases hx : hb b i <;> cases hy : hb b' i <;> simp_all
theorem ne0_bit {x : Int32} (h : ¬ x = 0) : ∃ i, i < 32 ∧ hb x i = true := by
  apply Classical.byContradiction
  intro q
  apply h
  apply hb_ext
  intro i hi
  rw [hb_0]
  cases hx : hb x i
  · rfl
  · exact absurd ⟨i, hi, hx⟩ q
def orB (p : Nat → Bool) (g : Nat → Int32) : Nat → Int32
  | 0 => 0
  | n + 1 => orB p g n ||| (if p n then g n else 0)
theorem hb_orB (p : Nat → Bool) (g : Nat → Int32) (n j : Nat) : hb (orB p g n) j = true ↔ ∃ i, i < n ∧ p i = true ∧ hb (g i) j = true := by
  induction n with
  | zero => unfold orB; rw [hb_0]; constructor <;> simp
  | succ n ih =>
    unfold orB
    rw [hb_or, Bool.or_eq_true, ih]
    constructor
    · rintro (⟨i, h1, h2⟩ | h)
      · exact ⟨i, by omega, h2⟩
      · cases hp : p n
        · rw [hp] at h; simp [hb_0] at h
        · rw [hp] at h; exact ⟨n, by omega, hp, by simpa using h⟩
    · rintro ⟨i, h1, h2, h3⟩
      by_cases hi : i = n
      · subst hi; right; rw [h2]; simpa using h3
      · left; exact ⟨i, by omega, h2, h3⟩
theorem bundleOf_l26 {N : Nat} (hN : 8 < N) (k0 : Nat) (k61 : Int32 → Int32 → Int32 → Option Int32) (σ : Sg) (B F v4 : Int32) : X5_bundleOf_l26 N k0 k61 σ N B F v4 0 0 = k61 B v4 (orB (hb F) (gi σ (k0 + 4)) 8) := by
  refine forL0 (L := fun n i a => X5_bundleOf_l26 N k0 k61 σ n B F v4 a (nI i)) (m := 8) (fun i a => a = orB (hb F) (gi σ (k0 + 4)) i) (o := fun x => x = k61 B v4 (orB (hb F) (gi σ (k0 + 4)) 8)) hN rfl ?_ ?_
  · intro n i a hi ha
    left
    refine ⟨_, rfl, ?_⟩
    show X5_bundleOf_l26 N k0 k61 σ (n + 1) B F v4 a (nI i) = X5_bundleOf_l26 N k0 k61 σ n B F v4 _ (nI (i + 1))
    rw [X5_bundleOf_l26, if_neg (c8 hi)]
    simp only [hasT F (show i < 32 by omega), inbI hi (by omega), clI (show i < 2147483648 by omega), nI1, if_true]
    subst ha
    cases h : hb F i <;> simp [orB, h]
  · intro n a ha
    show X5_bundleOf_l26 N k0 k61 σ (n + 1) B F v4 a (nI 8) = _
    rw [X5_bundleOf_l26, if_pos c8', ha]
theorem bundleOf_b {N : Nat} (hN : 8 < N) (k0 : Nat) {σ : Sg} {k : Nat} (hk : k < 8) (hf : ∀ i, i < 8 → ∀ j, 8 ≤ j → hb (gi σ (k0 + 4) i) j = false) : ∃ b, X5_bundleOf N k0 (nI k) σ = some b ∧ IsBu (gi σ (k0 + 4)) k b := by
  unfold X5_bundleOf
  have h1 : ∀ j, hb (1 <<< (nI k &&& 31)) j = decide (j = k) := by
    intro j
    rcases Nat.lt_or_ge j 32 with h | h
    · exact hb_one k (by omega) j h
    · rw [hb_big h, decide_eq_false (by omega)]
  refine forL0 (L := fun n i (a : Int32 × Int32) => X5_bundleOf_l9 N k0 σ n a.1 a.2 (nI i)) (m := 8) (a := (1 <<< (nI k &&& 31), 1 <<< (nI k &&& 31)))
    (fun p a => hb a.1 k = true ∧ (∀ c, hb c k = true → Cls (gi σ (k0 + 4)) c → subI a.1 c) ∧ subI a.2 a.1 ∧ (∀ i, i < 8 → hb a.1 i = true → hb a.2 i = false → subI (gi σ (k0 + 4) i) a.1) ∧ (∀ j, 8 ≤ j → hb a.1 j = false) ∧ (a.2 = 0 ∨ p + 1 ≤ cntB (hb a.1) 8))
    (o := fun x => ∃ b, x = some b ∧ IsBu (gi σ (k0 + 4)) k b) hN ?_ ?_ ?_
  · refine ⟨by rw [h1]; simp, fun c hc _ j hj => ?_, fun j hj => hj, fun i _ hi hi2 => ?_, fun j hj => ?_, Or.inr ?_⟩
    · rw [h1] at hj
      rw [of_decide_eq_true hj]
      exact hc
    · exact absurd hi (by rw [hi2]; simp)
    · rw [h1]; exact decide_eq_false (by omega)
    · have := cntB_lt (f := fun _ => false) (g := hb (1 <<< (nI k &&& 31))) 8 (fun i _ h => by simp at h) hk (by rw [h1]; simp) rfl
      show 0 + 1 ≤ cntB (hb (1 <<< (nI k &&& 31))) 8
      omega
  · intro n p a hp hI
    obtain ⟨B, F⟩ := a
    obtain ⟨i1, i2, i3, i4, i5, i6⟩ := hI
    dsimp only at i1 i2 i3 i4 i5 i6 ⊢
    by_cases hF : F = 0
    · right
      refine ⟨B, ?_, i1, fun i hi hiB => i4 i hi hiB (by rw [hF, hb_0]), i2⟩
      rw [X5_bundleOf_l9, if_neg (c8 hp), if_pos hF]
    · left
      refine ⟨(B ||| (orB (hb F) (gi σ (k0 + 4)) 8 &&& (B ^^^ (-1))), orB (hb F) (gi σ (k0 + 4)) 8 &&& (B ^^^ (-1))), ?_, ?_⟩
      · dsimp only
        have hor : ∀ j, hb (B ||| (orB (hb F) (gi σ (k0 + 4)) 8 &&& (B ^^^ (-1)))) j = true ↔ hb B j = true ∨ hb (orB (hb F) (gi σ (k0 + 4)) 8) j = true := by
          intro j
          rcases Nat.lt_or_ge j 32 with h | h
          · rw [hb_or, hb_and, hb_not B h]
            cases hb B j <;> simp
          · rw [hb_big h, hb_big h, hb_big h]; simp
        refine ⟨(hor k).mpr (Or.inl i1), fun c hc hcc j hj => ?_, fun j hj => ?_, fun i hi hiB hiF j hj => ?_, fun j hj => ?_, ?_⟩
        · rcases (hor j).mp hj with h | h
          · exact i2 c hc hcc j h
          · obtain ⟨i, q1, q2, q3⟩ := (hb_orB _ _ _ _).mp h
            exact hcc i q1 (i2 c hc hcc i (i3 i q2)) j q3
        · rw [hb_or, hj]; simp
        · rw [hor]
          have hiB' := (hor i).mp hiB
          by_cases q : hb B i = true
          · by_cases q2 : hb F i = true
            · exact Or.inr ((hb_orB _ _ _ _).mpr ⟨i, hi, q2, hj⟩)
            · exact Or.inl (i4 i hi q (by simpa using q2) j hj)
          · rw [hb_and, hb_not B (by omega)] at hiF
            rcases hiB' with h | h
            · exact absurd h q
            · rw [h] at hiF
              simp at hiF
              exact absurd hiF q
        · cases hx : hb (B ||| (orB (hb F) (gi σ (k0 + 4)) 8 &&& (B ^^^ (-1)))) j
          · rfl
          · rcases (hor j).mp hx with h | h
            · rw [i5 j hj] at h; cases h
            · obtain ⟨i, q1, q2, q3⟩ := (hb_orB _ _ _ _).mp h
              rw [hf i q1 j hj] at q3; cases q3
        · by_cases hF2 : orB (hb F) (gi σ (k0 + 4)) 8 &&& (B ^^^ (-1)) = 0
          · exact Or.inl hF2
          · right
            obtain ⟨j, hj, hj2⟩ := ne0_bit hF2
            rw [hb_and, hb_not B hj] at hj2
            simp at hj2
            have hj8 : j < 8 := by
              rcases Nat.lt_or_ge j 8 with h | h
              · exact h
              · obtain ⟨i, q1, q2, q3⟩ := (hb_orB _ _ _ _).mp hj2.1
                rw [hf i q1 j h] at q3; cases q3
            have := cntB_lt (f := hb B) (g := hb (B ||| (orB (hb F) (gi σ (k0 + 4)) 8 &&& (B ^^^ (-1))))) 8 (fun i _ h => (hor i).mpr (Or.inl h)) hj8 ((hor j).mpr (Or.inr hj2.1)) hj2.2
            rcases i6 with h | h
            · exact absurd h hF
            · omega
      · show X5_bundleOf_l9 N k0 σ (n + 1) B F (nI p) = _
        rw [X5_bundleOf_l9, if_neg (c8 hp), if_neg hF, bundleOf_l26 hN, X5_bundleOf_j61, nI1]
  · intro n a hI
    obtain ⟨B, F⟩ := a
    obtain ⟨i1, i2, i3, i4, i5, i6⟩ := hI
    dsimp only at i1 i2 i3 i4 i5 i6 ⊢
    have hF : F = 0 := by
      rcases i6 with h | h
      · exact h
      · have := cntB_le (hb B) 8
        omega
    refine ⟨B, ?_, i1, fun i hi hiB => i4 i hi hiB (by rw [hF, hb_0]), i2⟩
    rw [X5_bundleOf_l9, if_pos c8']
theorem bundle_l34 {N : Nat} (hN : 8 < N) (k1 : Nat) (k72 : Int32 → Int32 → Option Int32) {σ : Sg} {n : Nat} (hn : gi σ 149 3 = nI n) (h8 : n ≤ 8) (B v4 : Int32) :
    ∃ B', X9_bundle_l34 N k1 k72 σ N B v4 0 = k72 B' v4 ∧ subI B B' ∧ (∀ j, j < n → hb B j = true → subI (gi σ k1 (24 + j)) B') ∧ (∀ c, Cls (fun j => gi σ k1 (24 + j)) c → subI B c → subI B' c) := by
  refine forL0 (L := fun m i a => X9_bundle_l34 N k1 k72 σ m a v4 (nI i)) (m := n) (fun i a => subI B a ∧ (∀ j, j < i → hb B j = true → subI (gi σ k1 (24 + j)) a) ∧ (∀ c, Cls (fun j => gi σ k1 (24 + j)) c → subI B c → subI a c))
    (o := fun x => ∃ B', x = k72 B' v4 ∧ subI B B' ∧ (∀ j, j < n → hb B j = true → subI (gi σ k1 (24 + j)) B') ∧ (∀ c, Cls (fun j => gi σ k1 (24 + j)) c → subI B c → subI B' c)) (by omega) ?_ ?_ ?_
  · exact ⟨fun j h => h, fun j hj => by omega, fun c _ h => h⟩
  · intro m i a hi hI
    obtain ⟨i1, i2, i3⟩ := hI
    left
    refine ⟨a ||| (if hb a i = true then gi σ k1 (24 + i) else 0), ⟨fun j hj => ?_, fun j hj hjB => ?_, fun c hc hcB j hj => ?_⟩, ?_⟩
    · rw [hb_or, i1 j hj]; rfl
    · intro l hl
      rw [hb_or]
      by_cases hji : j = i
      · subst hji
        rw [if_pos (i1 j hjB), hl]; simp
      · rw [i2 j (by omega) hjB l hl]; rfl
    · rw [hb_or, Bool.or_eq_true] at hj
      rcases hj with h | h
      · exact i3 c hc hcB j h
      · by_cases q : hb a i = true
        · rw [if_pos q] at h
          exact hc i (by omega) (i3 c hc hcB i q) j h
        · rw [if_neg q, hb_0] at h; cases h
    · show X9_bundle_l34 N k1 k72 σ (m + 1) a v4 (nI i) = X9_bundle_l34 N k1 k72 σ m _ v4 (nI (i + 1))
      rw [X9_bundle_l34, hn, if_neg (n_le hi (by omega)), has_b N a (by omega), show (24 : Int32) = nI 24 from rfl, nI_add, inbI (show 24 + i < 37 by omega) (by omega), clI (by omega), nI1, Option.bind_some]
      cases h : hb a i <;> simp
  · intro m a hI
    refine ⟨a, ?_, hI⟩
    rw [X9_bundle_l34, hn, if_pos (nI_le (Nat.le_refl _) (by omega))]
theorem bundle_l22 {N : Nat} (hN : 8 < N) (k1 : Nat) {σ : Sg} {n : Nat} (hn : gi σ 149 3 = nI n) (h8 : n ≤ 8) {k : Nat} (hk : k < n) (hf : ∀ i, i < 8 → ∀ j, n ≤ j → hb (gi σ k1 (24 + i)) j = false) : ∃ b, X9_bundle_l22 N k1 σ N (1 <<< (nI k &&& 31)) 0 = some b ∧ IsBu (fun j => gi σ k1 (24 + j)) k b := by
  have h1 : ∀ j, hb (1 <<< (nI k &&& 31)) j = decide (j = k) := by
    intro j
    rcases Nat.lt_or_ge j 32 with h | h
    · exact hb_one k (by omega) j h
    · rw [hb_big h, decide_eq_false (by omega)]
  have hcl : Cls (fun j => gi σ k1 (24 + j)) (allI n) := by
    intro i hi _ j hj
    rcases Nat.lt_or_ge j n with h | h
    · rw [hb_allI n (by omega) j (by omega)]; exact decide_eq_true h
    · rw [show hb ((fun j => gi σ k1 (24 + j)) i) j = _ from hf i hi j h] at hj; cases hj
  have hin : ∀ B, (∀ c, hb c k = true → Cls (fun j => gi σ k1 (24 + j)) c → subI B c) → ∀ j, n ≤ j → hb B j = false := by
    intro B hB j hj
    cases hx : hb B j
    · rfl
    · have := hB (allI n) (by rw [hb_allI n (by omega) k (by omega)]; exact decide_eq_true hk) hcl j hx
      rcases Nat.lt_or_ge j 32 with h | h
      · rw [hb_allI n (by omega) j h] at this
        exact absurd (of_decide_eq_true this) (by omega)
      · rw [hb_big h] at hx; cases hx
  refine forL0 (L := fun m i a => X9_bundle_l22 N k1 σ m a (nI i)) (m := n) (a := 1 <<< (nI k &&& 31))
    (fun p B => hb B k = true ∧ (∀ c, hb c k = true → Cls (fun j => gi σ k1 (24 + j)) c → subI B c) ∧ (Cls (fun j => gi σ k1 (24 + j)) B ∨ p + 1 ≤ cntB (hb B) 8))
    (o := fun x => ∃ b, x = some b ∧ IsBu (fun j => gi σ k1 (24 + j)) k b) (by omega) ?_ ?_ ?_
  · refine ⟨by rw [h1]; simp, fun c hc _ j hj => ?_, Or.inr ?_⟩
    · rw [h1] at hj
      rw [of_decide_eq_true hj]
      exact hc
    · have := cntB_lt (f := fun _ => false) (g := hb (1 <<< (nI k &&& 31))) 8 (fun i _ h => by simp at h) (show k < 8 by omega) (by rw [h1]; simp) rfl
      omega
  · intro m p B hp hI
    obtain ⟨i1, i2, i3⟩ := hI
    left
    obtain ⟨B', e, j1, j2, j3⟩ := bundle_l34 hN k1 (fun v3 v4 => X9_bundle_j72 N k1 (fun v3 v4 => X9_bundle_l22 N k1 σ m v3 v4) v3 v4 σ) hn h8 B (nI p)
    refine ⟨B', ⟨j1 k i1, fun c hc hcc => j3 c hcc (i2 c hc hcc), ?_⟩, ?_⟩
    · by_cases hs : subI B' B
      · left
        intro i hi hiB'
        have hiB := hs i hiB'
        have hin' : i < n := by
          rcases Nat.lt_or_ge i n with h | h
          · exact h
          · rw [hin B i2 i h] at hiB; cases hiB
        exact j2 i hin' hiB
      · right
        have : ∃ j, hb B' j = true ∧ hb B j = false := by
          apply Classical.byContradiction
          intro q
          apply hs
          intro j hj
          cases hx : hb B j
          · exact absurd ⟨j, hj, hx⟩ q
          · rfl
        obtain ⟨j, q1, q2⟩ := this
        have hj8 : j < 8 := by
          rcases Nat.lt_or_ge j n with h | h
          · omega
          · rw [hin B' (fun c hc hcc => j3 c hcc (i2 c hc hcc)) j h] at q1; cases q1
        have hlt := cntB_lt (f := hb B) (g := hb B') 8 (fun i _ h => j1 i h) hj8 q1 q2
        rcases i3 with h | h
        · exact absurd (fun j hj => j3 B h (fun _ h => h) j hj) hs
        · omega
    · show X9_bundle_l22 N k1 σ (m + 1) B (nI p) = _
      rw [X9_bundle_l22, hn, if_neg (n_le hp (by omega)), e, X9_bundle_j72, nI1]
  · intro m B hI
    obtain ⟨i1, i2, i3⟩ := hI
    refine ⟨B, ?_, i1, ?_, i2⟩
    · rw [X9_bundle_l22, hn, if_pos (nI_le (Nat.le_refl _) (by omega))]
    · rcases i3 with h | h
      · exact h
      · exfalso
        have h2 : cntB (hb B) 8 ≤ n := by
          have : ∀ m, cntB (hb B) (n + m) ≤ n := by
            intro m
            induction m with
            | zero => exact cntB_le _ _
            | succ m ih =>
              rw [← Nat.add_assoc, cntB, hin B i2 (n + m) (by omega)]
              simpa using ih
          have := this (8 - n)
          rwa [show n + (8 - n) = 8 by omega] at this
        omega
