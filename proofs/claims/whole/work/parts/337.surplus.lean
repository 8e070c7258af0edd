/-! ===== surplus ===== -/
theorem forBI {α β : Type} {L : Nat → Nat → α → Option β} (p : Nat → Bool) {n N : Nat} {a0 : α} (I : Nat → α → Prop) {o : Option β → Prop} (hN : cntB p n < N) (h0 : I 0 a0)
    (skip : ∀ k a, k < n → p k = false → I k a → I (k + 1) a)
    (step : ∀ m k a, k < n → p k = true → I k a → ∃ a', I (k + 1) a' ∧ L (m + 1) (cntB p k) a = L m (cntB p k + 1) a')
    (fin : ∀ m a, I n a → o (L (m + 1) (cntB p n) a)) : o (L N 0 a0) := by
  have key : ∀ d k f a, k + d = n → cntB p n < f + cntB p k → I k a → o (L f (cntB p k) a) := by
    intro d
    induction d with
    | zero =>
      intro k f a hk hf hI
      have : k = n := by omega
      subst this
      obtain ⟨f, rfl⟩ : ∃ z, f = z + 1 := ⟨f - 1, by omega⟩
      exact fin f a hI
    | succ d ih =>
      intro k f a hk hf hI
      have e : cntB p (k + 1) = cntB p k + (if p k then 1 else 0) := rfl
      cases hp : p k
      · rw [hp] at e
        have := ih (k + 1) f a (by omega) (by simp at e; omega) (skip k a (by omega) hp hI)
        rw [show cntB p (k + 1) = cntB p k by simpa using e] at this
        exact this
      · have hlt := cntB_lt_of (show k < n by omega) hp
        obtain ⟨f, rfl⟩ : ∃ z, f = z + 1 := ⟨f - 1, by omega⟩
        obtain ⟨a', h1, h2⟩ := step f k a (by omega) hp hI
        rw [hp] at e
        have := ih (k + 1) f a' (by omega) (by simp at e; omega) h1
        rw [show cntB p (k + 1) = cntB p k + 1 by simpa using e] at this
        rw [h2]
        exact this
  exact key n 0 N a0 (by omega) (by show _ < N + 0; omega) h0
def mnS (a b : Int32) : Int32 := if b < a then b else a
theorem mnS' (a b : Int32) : (if a < b then a else b) = mnS a b := by
  unfold mnS
  by_cases h : a < b
  · rw [if_pos h, if_neg (fun q => absurd (Int32.lt_trans h q) (Int32.lt_irrefl))]
  · rw [if_neg h]
    by_cases h2 : b < a
    · rw [if_pos h2]
    · rw [if_neg h2]
      exact Int32.le_antisymm (Int32.not_lt.mp h) (Int32.not_lt.mp h2)
def lfT (r : Nat → Int32) (b e : Int32) : Nat → Int32
  | 0 => e
  | i + 1 => if hb b i = true then lfT r b e i - mnS (r i) (lfT r b e i) else lfT r b e i
def shF (L : Ld) (r : Nat → Int32) (j : Nat) : Int32 := if 0 < exS L r (bun r j) then mnS (r j) (lfT r (bun r j) (exS L r (bun r j)) j) else 0
theorem lfT_0 {n S H : Nat} {r : Nat → Int32} (hW : WF n S H r) (hS : S ≤ 10) (b : Int32) (i : Nat) (hi : i ≤ 8) : lfT r b 0 i = 0 := by
  induction i with
  | zero => rfl
  | succ i ih =>
    unfold lfT
    rw [ih (by omega)]
    by_cases q : hb b i = true
    · rw [if_pos q]
      obtain ⟨s, hs, es⟩ := (hW.2.2.1 i (by omega)).1
      unfold mnS
      rw [es]
      by_cases z : (0 : Int32) < nI s
      · rw [if_pos z]; rfl
      · rw [if_neg z]
        have : s = 0 := by
          rcases Nat.lt_or_ge 0 s with y | y
          · exact absurd (show (0 : Int32) < nI s from nI_lt (a := 0) y (by omega)) z
          · omega
        subst this; rfl
    · rw [if_neg q]
theorem mn_0 {n S H : Nat} {r : Nat → Int32} (hW : WF n S H r) (hS : S ≤ 10) {i : Nat} (hi : i < 8) : mnS (r i) 0 = 0 := by
  obtain ⟨s, hs, es⟩ := (hW.2.2.1 i hi).1
  unfold mnS
  rw [es]
  by_cases z : (0 : Int32) < nI s
  · rw [if_pos z]
  · rw [if_neg z]
    have : s = 0 := by
      rcases Nat.lt_or_ge 0 s with y | y
      · exact absurd (show (0 : Int32) < nI s from nI_lt (a := 0) y (by omega)) z
      · omega
    subst this; rfl
def spI (L : Ld) (r : Nat → Int32) (g : Nat → Int32) (K : Nat) : Prop := (∀ j, j < L.1 → (∀ k, k < K → isF r k = true → hb (bun r k) j = false) → g j = 0) ∧ (∀ j, j < L.1 → ∀ k, k < K → isF r k = true → hb (bun r k) j = true → g j = shF L r j)
theorem spI_skip {L : Ld} {r g : Nat → Int32} {K : Nat} (h : spI L r g K) (hF : isF r K = false) : spI L r g (K + 1) := by
  refine ⟨fun j hj hz => h.1 j hj (fun k hk => hz k (by omega)), fun j hj k hk hkF hkj => ?_⟩
  by_cases z : k = K
  · subst z; rw [hF] at hkF; cases hkF
  · exact h.2 j hj k (by omega) hkF hkj
theorem first_uniq {n : Nat} {r : Nat → Int32} (h : WL n r) {k k' j : Nat} (hk : k < n) (hk' : k' < n) (hF : isF r k = true) (hF' : isF r k' = true) (h1 : hb (bun r k) j = true) (h2 : hb (bun r k') j = true) : k = k' := by
  have h8 := h.2.2.2.2
  have e : bun r k = bun r k' := by rw [← bun_eq h hk h1, bun_eq h hk' h2]
  have a := (isF_iff.mp hF).2
  have b := (isF_iff.mp hF').2
  rcases Nat.lt_trichotomy k k' with z | z | z
  · have := b k z
    rw [← e, (bun_is h (show k < 8 by omega)).1] at this; cases this
  · exact z
  · have := a k' z
    rw [e, (bun_is h (show k' < 8 by omega)).1] at this; cases this
theorem spI_step {L : Ld} {r g g' : Nat → Int32} {K : Nat} (hW : WL L.1 r) (hK : K < L.1) (h : spI L r g K) (hF : isF r K = true) (hin : ∀ j, j < L.1 → hb (bun r K) j = true → g' j = shF L r j) (hout : ∀ j, j < L.1 → hb (bun r K) j = false → g' j = g j) : spI L r g' (K + 1) := by
  refine ⟨fun j hj hz => ?_, fun j hj k hk hkF hkj => ?_⟩
  · rw [hout j hj (hz K (by omega) hF)]
    exact h.1 j hj (fun k hk => hz k (by omega))
  · by_cases z : k = K
    · subst z; exact hin j hj hkj
    · have : hb (bun r K) j = false := by
        cases hx : hb (bun r K) j
        · rfl
        · exact absurd (first_uniq hW (show k < L.1 by omega) hK hkF hF hkj hx) z
      rw [hout j hj this]
      exact h.2 j hj k (by omega) hkF hkj
theorem share_c {N : Nat} (hN : 8 < N) {σ : Sg} {r : Nat → Int32} (hr : rC σ 19 = r) (b e : Int32) : ∃ σ', X8_shareOut N b e σ = some σ' ∧ (∀ j, j < 8 → hb b j = true → gi σ' 142 j = mnS (r j) (lfT r b e j)) ∧ (∀ j, hb b j = false → gi σ' 142 j = gi σ 142 j) ∧ Fr [142] σ σ' := by
  unfold X8_shareOut
  refine forL0 (L := fun m i (a : Int32 × Sg) => X8_shareOut_l5 N m b a.1 (nI i) a.2) (m := 8) (a := (e, σ)) (fun i a => a.1 = lfT r b e i ∧ (∀ j, j < i → hb b j = true → gi a.2 142 j = mnS (r j) (lfT r b e j)) ∧ (∀ j, hb b j = false → gi a.2 142 j = gi σ 142 j) ∧ Fr [142] σ a.2) (o := fun x => ∃ σ', x = some σ' ∧ (∀ j, j < 8 → hb b j = true → gi σ' 142 j = mnS (r j) (lfT r b e j)) ∧ (∀ j, hb b j = false → gi σ' 142 j = gi σ 142 j) ∧ Fr [142] σ σ') hN ⟨rfl, fun j hj => absurd hj (Nat.not_lt_zero _), fun _ _ => rfl, Fr.refl _ _⟩ ?_ ?_
  · intro m i a hi hI
    obtain ⟨v, τ⟩ := a
    obtain ⟨i1, i2, i3, i4⟩ := hI
    dsimp only at i1 i2 i3 i4 ⊢
    left
    have hst : lfT r b e (i + 1) = if hb b i = true then v - mnS (r i) v else v := by rw [i1]; rfl
    have es : gi τ 20 i = r i := by rw [i4.g (k := 20) (by simp [pl]), ← hr, rC_s hi]
    by_cases q : hb b i = true
    · refine ⟨(v - mnS (r i) v, wi τ 142 i (mnS (r i) v)), ⟨by dsimp only; rw [hst, if_pos q], fun j hj hbj => ?_, fun j hbj => ?_, i4.wi (by simp [pl])⟩, ?_⟩
      · dsimp only
        rw [giw]
        by_cases z : j = i
        · rw [if_pos ⟨rfl, z⟩, z, i1]
        · rw [if_neg (fun y => z y.2)]; exact i2 j (by omega) hbj
      · dsimp only
        rw [giw, if_neg (fun y => by rw [y.2, q] at hbj; cases hbj)]; exact i3 j hbj
      · rw [X8_shareOut_l5, if_neg (c8 hi), if_pos ((hasT b (by omega)).mpr q), inbI hi (by omega), clI (by omega), es, if_pos rfl, min_b, Option.bind_some, if_pos rfl]
        simp only [bnS, if_true]
        rw [giw, if_pos ⟨rfl, rfl⟩, nI1]
        rfl
    · refine ⟨(v, τ), ⟨by dsimp only; rw [hst, if_neg q], fun j hj hbj => ?_, i3, i4⟩, ?_⟩
      · by_cases z : j = i
        · subst z; exact absurd hbj q
        · exact i2 j (by omega) hbj
      · rw [X8_shareOut_l5, if_neg (c8 hi), if_neg (fun z => q ((hasT b (by omega)).mp z)), nI1]
  · intro m a hI
    obtain ⟨v, τ⟩ := a
    obtain ⟨i1, i2, i3, i4⟩ := hI
    dsimp only at i1 i2 i3 i4 ⊢
    refine ⟨τ, ?_, i2, i3, i4⟩
    rw [X8_shareOut_l5, if_pos c8']
theorem clear_c {N : Nat} (hN : 8 < N) (σ : Sg) : ∃ σ', X8_clearShares N σ = some σ' ∧ (∀ j, j < 8 → gi σ' 142 j = 0) ∧ Fr [142] σ σ' := by
  unfold X8_clearShares
  refine forL0 (L := fun m i a => X8_clearShares_l2 N m (nI i) a) (m := 8) (a := σ) (fun i a => (∀ j, j < i → gi a 142 j = 0) ∧ Fr [142] σ a) (o := fun x => ∃ σ', x = some σ' ∧ (∀ j, j < 8 → gi σ' 142 j = 0) ∧ Fr [142] σ σ') hN ⟨fun j hj => absurd hj (Nat.not_lt_zero _), Fr.refl _ _⟩ ?_ ?_
  · intro m i a hi hI
    obtain ⟨i1, i2⟩ := hI
    left
    refine ⟨wi a 142 i 0, ⟨fun j hj => ?_, i2.wi (by simp [pl])⟩, ?_⟩
    · rw [giw]
      by_cases z : j = i
      · rw [if_pos ⟨rfl, z⟩]
      · rw [if_neg (fun y => z y.2)]; exact i1 j (by omega)
    · rw [X8_clearShares_l2, if_neg (c8 hi), inbI hi (by omega), clI (by omega), nI1]
      rfl
  · intro m a hI
    exact ⟨a, by rw [X8_clearShares_l2, if_pos c8'], hI⟩
def suF (L : Ld) (r : Nat → Int32) (k : Nat) (c : Int32) : Int32 := if 0 < exS L r (bun r k) then c + exS L r (bun r k) else c
theorem surplus_c {N : Nat} (hN : 555 < N) {H : Nat} {A : Ab} (hA : OkA H A) (hH : H < 1000000) (σ : Sg) (hσ : InvC σ A) : ∃ σ', X8_surplus N σ = some (foldF (isF A.2.1) (suF A.1 A.2.1) A.1.1 0, σ') ∧ ToC σ' (listS (fun j => if hb (A.2.1 32) j = true then 0 else shF A.1 A.2.1 j) A.1.1) ∧ Fr scrC σ σ' := by
  have h8 := hA.1.1.2.2.2.2
  have hW := hA.1.1
  obtain ⟨h, hh, e36⟩ := hA.1.h36
  obtain ⟨k2, m1, m2, m3, m4⟩ := hσ.1.rule
  obtain ⟨σ1, e1, e2, e3⟩ := weigh_b (N := N) (by omega) (Or.inl rfl : (19 : Nat) = 19 ∨ (19 : Nat) = 24) m4 (show h < 2147483648 by omega) (by rw [hσ.2.1]; exact e36)
  rw [hσ.2.1] at e2
  have r1 : rC σ1 19 = A.2.1 := (e3.row19 (by decide)).trans hσ.2.1
  obtain ⟨σ2, p1, p2, p3, p4⟩ := part_b (N := N) (by omega) (Or.inl rfl : (19 : Nat) = 19 ∨ (19 : Nat) = 24) (σ := σ1) (n := A.1.1) ((e3.g (by simp [pl])).trans hσ.1.n.1) (by rw [r1]; exact hW)
  rw [r1] at p2 p3
  obtain ⟨σ3, c1, c2, c3⟩ := clear_c (N := N) (by omega) σ2
  have f3 : Fr [15, 18, 9, 13, 16, 2006, 142] σ σ3 := ((e3.mono (by decide)).trans (p4.mono (by decide))).trans (c3.mono (by decide))
  have hc := cntB_le (isF A.2.1) A.1.1
  unfold X8_surplus
  rw [m2, m3, if_pos rfl, e1, Option.bind_some, p1, Option.bind_some, c1, Option.bind_some]
  refine forBI (L := fun m b (a : Int32 × Sg) => X8_surplus_l37 N (fun v1 σ => X8_surplus_j97 N v1 σ) m a.1 (nI b) a.2) (isF A.2.1) (n := A.1.1) (a0 := (0, σ3)) (fun k a => a.1 = foldF (isF A.2.1) (suF A.1 A.2.1) k 0 ∧ spI A.1 A.2.1 (gi a.2 142) k ∧ Fr [142] σ3 a.2) (o := fun x => ∃ σ', x = some (foldF (isF A.2.1) (suF A.1 A.2.1) A.1.1 0, σ') ∧ ToC σ' (listS (fun j => if hb (A.2.1 32) j = true then 0 else shF A.1 A.2.1 j) A.1.1) ∧ Fr scrC σ σ') (by omega) ⟨rfl, ⟨fun j hj _ => c2 j (by omega), fun j hj k hk => absurd hk (Nat.not_lt_zero _)⟩, Fr.refl _ _⟩ ?_ ?_ ?_
  · rintro k ⟨v, τ⟩ hk hp ⟨i1, i2, i3⟩
    refine ⟨?_, spI_skip i2 hp, i3⟩
    dsimp only at i1 ⊢
    rw [i1]
    show _ = (if isF A.2.1 k then _ else _)
    rw [hp]; rfl
  · rintro m k ⟨v, τ⟩ hk hp ⟨i1, i2, i3⟩
    dsimp only at i1 i2 i3 ⊢
    have hlt := cntB_lt_of hk hp
    have hst : foldF (isF A.2.1) (suF A.1 A.2.1) (k + 1) 0 = suF A.1 A.2.1 k v := by
      show (if isF A.2.1 k then _ else _) = _
      rw [hp, i1]; rfl
    have ft : Fr [15, 18, 9, 13, 16, 2006, 142] σ τ := f3.trans (i3.mono (by decide))
    have rt : rC τ 19 = A.2.1 := (ft.row19 (by decide)).trans hσ.2.1
    have ec : gi τ 5 6 = nI (cntB (isF A.2.1) A.1.1) := (i3.g (k := 5) (j := 6) (by decide)).trans ((c3.g (k := 5) (j := 6) (by decide)).trans p2)
    have eb : gi τ 16 (cntB (isF A.2.1) k) = bun A.2.1 k := (i3.g (k := 16) (by simp [pl])).trans ((c3.g (k := 16) (by simp [pl])).trans (p3 k hk hp))
    have en : ∀ i, i < A.1.1 → gi τ 15 i = needS A.1 A.2.1 i := fun i hi => (i3.g (k := 15) (by simp [pl])).trans ((c3.g (k := 15) (by simp [pl])).trans ((p4.g (k := 15) (by simp [pl])).trans (e2 i hi)))
    have ex := excess_s (N := N) (by omega) h8 rt en (bun_out hW hk)
    by_cases q : 0 < exS A.1 A.2.1 (bun A.2.1 k)
    · obtain ⟨σ4, s1, s2, s3, s4⟩ := share_c (N := N) (by omega) rt (bun A.2.1 k) (exS A.1 A.2.1 (bun A.2.1 k))
      refine ⟨(v + exS A.1 A.2.1 (bun A.2.1 k), σ4), ⟨?_, spI_step hW hk i2 hp (fun j hj hb1 => ?_) (fun j hj hb1 => s3 j hb1), i3.trans s4⟩, ?_⟩
      · dsimp only; rw [hst]; unfold suF; rw [if_pos q]
      · dsimp only
        rw [s2 j (by omega) hb1]
        unfold shF
        rw [bun_eq hW hk hb1, if_pos q]
      · rw [X8_surplus_l37, ec, if_neg (n_le hlt (by omega)), inbI (show cntB (isF A.2.1) k < 8 by omega) (by omega), clI (by omega), eb, if_pos rfl, ex, Option.bind_some, if_neg (Int32.not_le.mpr q), if_pos rfl, s1, Option.bind_some, nI1]
    · refine ⟨(v, τ), ⟨?_, spI_step hW hk i2 hp (fun j hj hb1 => ?_) (fun j hj hb1 => rfl), i3⟩, ?_⟩
      · dsimp only; rw [hst]; unfold suF; rw [if_neg q]
      · dsimp only
        rw [i2.1 j hj (fun k' hk' hF' => by
          cases hx : hb (bun A.2.1 k') j
          · rfl
          · have := first_uniq hW (show k' < A.1.1 by omega) hk hF' hp hx hb1
            omega)]
        unfold shF
        rw [bun_eq hW hk hb1, if_neg q]
      · rw [X8_surplus_l37, ec, if_neg (n_le hlt (by omega)), inbI (show cntB (isF A.2.1) k < 8 by omega) (by omega), clI (by omega), eb, if_pos rfl, ex, Option.bind_some, if_pos (Int32.not_lt.mp q), nI1]
  · rintro m ⟨v, τ⟩ ⟨i1, i2, i3⟩
    dsimp only at i1 i2 i3 ⊢
    subst i1
    have ft : Fr [15, 18, 9, 13, 16, 2006, 142] σ τ := f3.trans (i3.mono (by decide))
    have ec : gi τ 5 6 = nI (cntB (isF A.2.1) A.1.1) := (i3.g (k := 5) (j := 6) (by decide)).trans ((c3.g (k := 5) (j := 6) (by decide)).trans p2)
    have hval : ∀ j, j < A.1.1 → gi τ 142 j = (if hb (A.2.1 32) j = true then 0 else shF A.1 A.2.1 j) := by
      intro j hj
      by_cases g : hb (A.2.1 32) j = true
      · rw [if_pos g]
        refine i2.1 j hj (fun k hk hF => ?_)
        cases hx : hb (bun A.2.1 k) j
        · rfl
        · rw [bun_here hW hk (isF_iff.mp hF).1 hx] at g; cases g
      · rw [if_neg g]
        obtain ⟨k, q1, q2, q3, q4⟩ := first_of hW hj (by simpa using g)
        exact i2.2 j hj k (by omega) q2 (by rw [q4]; exact (bun_is hW (by omega)).1)
    obtain ⟨σ4, g1, g2, g3⟩ := tclear_c N τ
    rw [X8_surplus_l37, ec, if_pos (nI_le (Nat.le_refl _) (by omega)), X8_surplus_j97, g1, Option.bind_some]
    refine forL0 (L := fun m i a => X8_surplus_l106 N m (foldF (isF A.2.1) (suF A.1 A.2.1) A.1.1 0) (nI i) a) (m := A.1.1) (a := σ4) (fun i a => ToC a (listS (fun j => if hb (A.2.1 32) j = true then 0 else shF A.1 A.2.1 j) i) ∧ Fr [3, 4] τ a) (o := fun x => ∃ σ', x = some (foldF (isF A.2.1) (suF A.1 A.2.1) A.1.1 0, σ') ∧ ToC σ' (listS (fun j => if hb (A.2.1 32) j = true then 0 else shF A.1 A.2.1 j) A.1.1) ∧ Fr scrC σ σ') (by omega) ⟨g2, g3⟩ ?_ ?_
    · intro m i a hi hI
      obtain ⟨j1, j2⟩ := hI
      left
      obtain ⟨σ5, a1, a2, a3⟩ := tadd_c N j1 (by rw [listS_len]; omega) (if hb (A.2.1 32) i = true then 0 else shF A.1 A.2.1 i).toInt64
      refine ⟨σ5, ⟨by rw [listS_s]; exact a2, j2.trans a3⟩, ?_⟩
      rw [X8_surplus_l106, (j2.g (k := 5) (j := 1) (by decide)).trans ((ft.g (k := 5) (j := 1) (by decide)).trans hσ.1.n.1), if_neg (n_le hi (by omega)), inbI (show i < 8 by omega) (by omega), clI (by omega), if_pos rfl, j2.g (k := 142) (by simp [pl]), hval i hi, a1, Option.bind_some, nI1]
    · intro m a hI
      obtain ⟨j1, j2⟩ := hI
      refine ⟨a, ?_, j1, (ft.mono (by decide)).trans (j2.mono (by decide))⟩
      rw [X8_surplus_l106, (j2.g (k := 5) (j := 1) (by decide)).trans ((ft.g (k := 5) (j := 1) (by decide)).trans hσ.1.n.1), if_pos (nI_le (Nat.le_refl _) (by omega))]
