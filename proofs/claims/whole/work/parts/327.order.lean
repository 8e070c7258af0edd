/-! ===== order ===== -/
def e1S (L : Ld) (r : Nat → Int32) (k : Nat) : Int32 := r k - needS L r k
def hvS (L : Ld) (r : Nat → Int32) (left : Int32) : Nat → Option Nat
  | 0 => none
  | i + 1 => if hb left i = true then (match hvS L r left i with
    | none => some i
    | some j => if e1S L r i ≤ e1S L r j then some j else some i) else hvS L r left i
theorem hvS_lt (L : Ld) (r : Nat → Int32) (left : Int32) (i : Nat) : ∀ j, hvS L r left i = some j → j < i ∧ hb left j = true := by
  induction i with
  | zero => intro j h; cases h
  | succ i ih =>
    intro j h
    unfold hvS at h
    by_cases q : hb left i = true
    · rw [if_pos q] at h
      cases hx : hvS L r left i with
      | none => rw [hx] at h; cases h; exact ⟨by omega, q⟩
      | some l =>
        rw [hx] at h
        dsimp only at h
        by_cases z : e1S L r i ≤ e1S L r l
        · rw [if_pos z] at h; cases h; have := ih _ hx; exact ⟨by omega, this.2⟩
        · rw [if_neg z] at h; cases h; exact ⟨by omega, q⟩
    · rw [if_neg q] at h
      have := ih j h
      exact ⟨by omega, this.2⟩
theorem hvS_some (L : Ld) (r : Nat → Int32) (left : Int32) (i : Nat) {j : Nat} (hj : j < i) (hb1 : hb left j = true) : ∃ k, hvS L r left i = some k := by
  induction i with
  | zero => omega
  | succ i ih =>
    unfold hvS
    by_cases q : hb left i = true
    · rw [if_pos q]
      cases hx : hvS L r left i with
      | none => exact ⟨i, rfl⟩
      | some l =>
        dsimp only
        by_cases z : e1S L r i ≤ e1S L r l
        · rw [if_pos z]; exact ⟨l, rfl⟩
        · rw [if_neg z]; exact ⟨i, rfl⟩
    · rw [if_neg q]
      exact ih (by
        rcases Nat.lt_or_ge j i with z | z
        · exact z
        · have : j = i := by omega
          subst this; exact absurd hb1 q)
theorem hvS_cut (L : Ld) (r : Nat → Int32) (left : Int32) {n : Nat} (h : ∀ i, n ≤ i → hb left i = false) (m : Nat) : hvS L r left (n + m) = hvS L r left n := by
  induction m with
  | zero => rfl
  | succ m ih =>
    show (if hb left (n + m) = true then _ else _) = _
    rw [if_neg (by rw [h (n + m) (by omega)]; simp)]
    exact ih
def isS : Option Nat → Int32
  | none => 0
  | some _ => 1
theorem heaviest_c {N : Nat} (hN : 8 < N) {σ : Sg} {L : Ld} {r : Nat → Int32} (h8 : L.1 ≤ 8) (hr : rC σ 19 = r) (hd : ∀ i, i < L.1 → gi σ 15 i = needS L r i) {left : Int32} (hl : ∀ i, L.1 ≤ i → hb left i = false) {k : Nat} (hk : hvS L r left L.1 = some k) : X8_heaviestOf N left σ = some (nI k) := by
  have he : ∀ i, i < L.1 → X8_excessOf N (nI i) σ = some (e1S L r i) := by
    intro i hi
    unfold X8_excessOf e1S
    rw [inbI (show i < 8 by omega) (by omega), clI (by omega), if_pos rfl, if_pos rfl, hd i hi, ← hr, rC_s (show i < 8 by omega)]
  have h88 : hvS L r left 8 = hvS L r left L.1 := by
    have := hvS_cut L r left hl (8 - L.1)
    rwa [show L.1 + (8 - L.1) = 8 by omega] at this
  unfold X8_heaviestOf
  refine forL0 (L := fun m i (a : Option Nat) => X8_heaviestOf_l7 N σ m left (nI (a.getD 0)) (isS a) (nI i)) (m := 8) (a := none) (fun i a => a = hvS L r left i) (o := fun x => x = some (nI k)) hN rfl ?_ ?_
  · intro m i a hi ha
    left
    refine ⟨_, rfl, ?_⟩
    rw [X8_heaviestOf_l7, if_neg (c8 hi)]
    show _ = X8_heaviestOf_l7 N σ m left (nI (Option.getD (if hb left i = true then _ else _) 0)) (isS (if hb left i = true then _ else _)) _
    by_cases q : hb left i = true
    · have hin : i < L.1 := by
        rcases Nat.lt_or_ge i L.1 with z | z
        · exact z
        · rw [hl i z] at q; cases q
      rw [if_pos ((hasT left (by omega)).mpr q), if_pos q]
      subst ha
      cases hx : hvS L r left i with
      | none =>
        rw [if_pos (show isS none = 0 from rfl)]
        show X8_heaviestOf_l7 N σ m left (nI i) 1 (nI i + 1) = _
        rw [nI1]; rfl
      | some l =>
        have hlt := hvS_lt L r left i l hx
        rw [if_neg (show ¬ isS (some l) = 0 from oneF), he i hin, Option.bind_some, show nI ((some l).getD 0) = nI l from rfl, he l (by omega), Option.bind_some]
        dsimp only
        by_cases z : e1S L r i ≤ e1S L r l
        · rw [if_pos z, if_pos z, nI1]; rfl
        · rw [if_neg z, if_neg z, X8_heaviestOf_j42, nI1]; rfl
    · rw [if_neg (fun z => q ((hasT left (by omega)).mp z)), if_neg q, nI1, ← ha]
  · intro m a ha
    rw [X8_heaviestOf_l7, if_pos c8', ha, h88, hk]
    rfl
theorem sum_one {n k : Nat} (hk : k < n) (hn : n ≤ 8) (g : Nat → Int32) : sumB (hb (1 <<< (nI k &&& 31))) g n = g k := by
  have h : ∀ m, m ≤ n → sumB (hb (1 <<< (nI k &&& 31))) g m = if k < m then g k else 0 := by
    intro m
    induction m with
    | zero => intro _; rfl
    | succ m ih =>
      intro hm
      unfold sumB
      rw [ih (by omega), hb_one k (by omega) m (by omega)]
      by_cases z : m = k
      · subst z; simp
      · by_cases y : k < m
        · simp [y, z, show k < m + 1 by omega]
        · simp [y, z, show ¬ k < m + 1 by omega]
  rw [h n (Nat.le_refl _), if_pos hk]
theorem ex_one {L : Ld} {r : Nat → Int32} {k : Nat} (hk : k < L.1) (h8 : L.1 ≤ 8) : exS L r (1 <<< (nI k &&& 31)) = e1S L r k := by
  unfold exS e1S
  rw [sum_one hk h8, sum_one hk h8]
theorem heaviest_r {N : Nat} (hN : 40 < N) {σ : Sg} {L : Ld} {r : Nat → Int32} (hL : LR σ L) (hr : rR σ 153 = r) {h : Nat} (hh : h < 2147483648) (e36 : r 36 = nI h) (left : Int32) (k84 : Int32 → Int32 → Sg → Option (Int32 × Sg)) {k : Nat} (hk : hvS L r left L.1 = some k) : ∃ σ', X9_order_l27 N k84 N left (-1) 0 σ = k84 left (nI k) σ' ∧ Fr [159, 160] σ σ' := by
  have h8 := hL.2.1
  refine forL0 (L := fun m i (a : Option Nat × Sg) => X9_order_l27 N k84 m left (match a.1 with | none => -1 | some j => nI j) (nI i) a.2) (m := L.1) (a := (none, σ)) (fun i a => a.1 = hvS L r left i ∧ Fr [159, 160] σ a.2) (o := fun x => ∃ σ', x = k84 left (nI k) σ' ∧ Fr [159, 160] σ σ') (by omega) ⟨rfl, Fr.refl _ _⟩ ?_ ?_
  · intro m i a hi hI
    obtain ⟨b, τ⟩ := a
    obtain ⟨i1, i2⟩ := hI
    dsimp only at i1 i2 ⊢
    left
    have Lt := hL.fr i2 (by decide)
    have rt : rR τ 153 = r := (rR_congr (i2.r (by simp [pl]))).trans hr
    have hst : hvS L r left (i + 1) = if hb left i = true then (match hvS L r left i with
      | none => some i
      | some j => if e1S L r i ≤ e1S L r j then some j else some i) else hvS L r left i := rfl
    by_cases q : hb left i = true
    · cases hx : hvS L r left i with
      | none =>
        refine ⟨(some i, τ), ⟨?_, i2⟩, ?_⟩
        · dsimp only; rw [hst, if_pos q, hx]
        · rw [i1, hx, X9_order_l27, Lt.1, if_neg (n_le hi (by omega)), has_t N (by omega) q, Option.bind_some, if_neg oneF, if_pos (by decide), nI1]
      | some l =>
        have hlt := hvS_lt L r left i l hx
        obtain ⟨σ2, u1, u2⟩ := above_r (N := N) hN (Or.inl rfl : (153 : Nat) = 153 ∨ (153 : Nat) = 154) Lt hh (by rw [rt]; exact e36) (1 <<< (nI i &&& 31))
        have r2 : rR σ2 153 = r := (rR_congr (u2.r (by simp [pl]))).trans rt
        obtain ⟨σ3, w1, w2⟩ := above_r (N := N) hN (Or.inl rfl : (153 : Nat) = 153 ∨ (153 : Nat) = 154) (Lt.fr u2 (by decide)) hh (by rw [r2]; exact e36) (1 <<< (nI l &&& 31))
        rw [rt, ex_one hi h8] at u1
        rw [r2, ex_one (by omega) h8] at w1
        by_cases z : e1S L r i ≤ e1S L r l
        · refine ⟨(some l, σ3), ⟨?_, (i2.trans u2).trans w2⟩, ?_⟩
          · dsimp only; rw [hst, if_pos q, hx]; dsimp only; rw [if_pos z]
          · rw [i1, hx, X9_order_l27, Lt.1, if_neg (n_le hi (by omega)), has_t N (by omega) q, Option.bind_some, if_neg oneF]
            dsimp only
            rw [if_neg (nI_pos (by omega)), u1, Option.bind_some, w1, Option.bind_some, if_pos z, nI1]
        · refine ⟨(some i, σ3), ⟨?_, (i2.trans u2).trans w2⟩, ?_⟩
          · dsimp only; rw [hst, if_pos q, hx]; dsimp only; rw [if_neg z]
          · rw [i1, hx, X9_order_l27, Lt.1, if_neg (n_le hi (by omega)), has_t N (by omega) q, Option.bind_some, if_neg oneF]
            dsimp only
            rw [if_neg (nI_pos (by omega)), u1, Option.bind_some, w1, Option.bind_some, if_neg z, nI1]
    · refine ⟨(b, τ), ⟨?_, i2⟩, ?_⟩
      · dsimp only; rw [hst, if_neg q, i1]
      · rw [X9_order_l27, Lt.1, if_neg (n_le hi (by omega)), has_f N (by omega) (by simpa using q), Option.bind_some, if_pos rfl, nI1]
  · intro m a hI
    obtain ⟨b, τ⟩ := a
    obtain ⟨i1, i2⟩ := hI
    dsimp only at i1 i2 ⊢
    refine ⟨τ, ?_, i2⟩
    rw [X9_order_l27, (hL.fr i2 (by decide)).1, if_pos (nI_le (Nat.le_refl _) (by omega)), i1, hk]
/-- what is left, and what was placed -/
def orS (L : Ld) (r : Nat → Int32) : Nat → Int32 × List Int64
  | 0 => (hereS L r, [])
  | i + 1 => match hvS L r (orS L r i).1 L.1 with
    | none => orS L r i
    | some k => ((orS L r i).1 &&& ((1 <<< (nI k &&& 31)) ^^^ (-1)), (orS L r i).2 ++ [(nI k).toInt64])
theorem hb_here {L : Ld} {r : Nat → Int32} (h8 : L.1 ≤ 8) (i : Nat) : hb (hereS L r) i = true ↔ i < L.1 ∧ hb (r 32) i = false := by
  unfold hereS
  rcases Nat.lt_or_ge i 32 with q | q
  · rw [hb_and, hb_allI L.1 (by omega) i q, hb_not _ q]; simp
  · rw [hb_big q]; constructor
    · intro z; cases z
    · intro z; omega
theorem orS_in {L : Ld} {r : Nat → Int32} (h8 : L.1 ≤ 8) (i : Nat) : (∀ j, L.1 ≤ j → hb (orS L r i).1 j = false) ∧ (orS L r i).2.length ≤ i ∧ ((orS L r i).1 = 0 ∨ ((orS L r i).2.length = i ∧ cntB (hb (orS L r i).1) L.1 + i ≤ L.1)) := by
  induction i with
  | zero =>
    refine ⟨fun j hj => ?_, Nat.le_refl _, Or.inr ⟨rfl, cntB_le _ _⟩⟩
    cases hx : hb (orS L r 0).1 j
    · rfl
    · have := ((hb_here h8 j).mp hx).1; omega
  | succ i ih =>
    obtain ⟨a, b, c⟩ := ih
    unfold orS
    cases hx : hvS L r (orS L r i).1 L.1 with
    | none =>
      dsimp only
      refine ⟨a, by omega, Or.inl ?_⟩
      apply hb_ext
      intro j _
      rw [hb_0]
      cases hy : hb (orS L r i).1 j
      · rfl
      · have hj : j < L.1 := by
          rcases Nat.lt_or_ge j L.1 with z | z
          · exact z
          · rw [a j z] at hy; cases hy
        obtain ⟨k, hk⟩ := hvS_some L r _ L.1 hj hy
        rw [hk] at hx; cases hx
    | some k =>
      dsimp only
      have hk := hvS_lt L r _ L.1 k hx
      have hn0 : ¬ (orS L r i).1 = 0 := by
        intro z
        have := hk.2
        rw [z, hb_0] at this; cases this
      have hc := c.resolve_left hn0
      have hbits : ∀ j, hb ((orS L r i).1 &&& ((1 <<< (nI k &&& 31)) ^^^ (-1))) j = (hb (orS L r i).1 j && !decide (j = k)) := by
        intro j
        rcases Nat.lt_or_ge j 32 with q | q
        · rw [hb_and, hb_not _ q, hb_one k (by omega) j q]
        · rw [hb_big q, hb_big q]; rfl
      refine ⟨fun j hj => by rw [hbits, a j hj]; rfl, by simp; omega, Or.inr ⟨by simp [hc.1], ?_⟩⟩
      have := cntB_lt (f := hb ((orS L r i).1 &&& ((1 <<< (nI k &&& 31)) ^^^ (-1)))) (g := hb (orS L r i).1) L.1 (fun j _ hj => by rw [hbits, Bool.and_eq_true] at hj; exact hj.1) hk.1 hk.2 (by rw [hbits]; simp)
      omega
theorem orS_stop {L : Ld} {r : Nat → Int32} {i : Nat} (h : (orS L r i).1 = 0) (d : Nat) : orS L r (i + d) = orS L r i := by
  induction d with
  | zero => rfl
  | succ d ih =>
    show (match hvS L r (orS L r (i + d)).1 L.1 with | none => orS L r (i + d) | some k => _) = _
    rw [ih, h]
    cases hx : hvS L r 0 L.1 with
    | none => rfl
    | some k =>
      have := (hvS_lt L r 0 L.1 k hx).2
      rw [hb_0] at this; cases this
theorem order_op {N : Nat} (hN : 555 < N) {H : Nat} {A : Ab} (hA : OkA H A) (hH : H < 1000000) : OpB (X8_order N) (X9_order N) H A := by
  have h8 := hA.1.1.2.2.2.2
  obtain ⟨h, hh, e36⟩ := hA.1.h36
  have h88 := orS_in (L := A.1) (r := A.2.1) h8
  have hz : (orS A.1 A.2.1 8).1 = 0 ∨ A.1.1 = 8 := by
    rcases (h88 8).2.2 with z | z
    · exact Or.inl z
    · right; omega
  have hz8 : (orS A.1 A.2.1 8).1 = 0 := by
    rcases (h88 8).2.2 with z | z
    · exact z
    · have : cntB (hb (orS A.1 A.2.1 8).1) A.1.1 = 0 := by omega
      apply hb_ext
      intro j _
      rw [hb_0]
      cases hy : hb (orS A.1 A.2.1 8).1 j
      · rfl
      · have hj : j < A.1.1 := by
          rcases Nat.lt_or_ge j A.1.1 with y | y
          · exact y
          · rw [(h88 8).1 j y] at hy; cases hy
        have := cntB_lt_of hj hy
        omega
  have hnext : ∀ i, ¬ (orS A.1 A.2.1 i).1 = 0 → ∃ k, hvS A.1 A.2.1 (orS A.1 A.2.1 i).1 A.1.1 = some k := by
    intro i q
    obtain ⟨j, hj, hj2⟩ := ne0_bit q
    have hj3 : j < A.1.1 := by
      rcases Nat.lt_or_ge j A.1.1 with y | y
      · exact y
      · rw [(h88 i).1 j y] at hj2; cases hj2
    exact hvS_some _ _ _ _ hj3 hj2
  refine OpB.told hA (nI (orS A.1 A.2.1 8).2.length) (orS A.1 A.2.1 8).2 (by have := (h88 8).2.1; omega) (fun σ hσ => ?_) (fun σ hσ => ?_)
  · obtain ⟨k2, m1, m2, m3, m4⟩ := hσ.1.rule
    obtain ⟨σ1, e1, e2, e3⟩ := weigh_b (N := N) (by omega) (Or.inl rfl : (19 : Nat) = 19 ∨ (19 : Nat) = 24) m4 (show h < 2147483648 by omega) (by rw [hσ.2.1]; exact e36)
    rw [hσ.2.1] at e2
    obtain ⟨σ2, g1, g2, g3⟩ := tclear_c N σ1
    have f2 : Fr scrC σ σ2 := (e3.mono (by decide)).trans (g3.mono (by decide))
    have n2 : gi σ2 5 1 = nI A.1.1 := (f2.g (k := 5) (j := 1) (by decide)).trans hσ.1.n.1
    have r2 : rC σ2 19 = A.2.1 := (f2.row19 (by decide)).trans hσ.2.1
    unfold X8_order
    rw [m2, m3, if_pos rfl, e1, Option.bind_some, g1, Option.bind_some, present_c N n2, Option.bind_some, r2]
    refine forL0 (L := fun m i (a : Int32 × Sg) => X8_order_l41 N m a.1 (nI i) (nI i) a.2) (m := 8) (a := (hereS A.1 A.2.1, σ2)) (fun i a => a.1 = (orS A.1 A.2.1 i).1 ∧ (orS A.1 A.2.1 i).2.length = i ∧ ToC a.2 (orS A.1 A.2.1 i).2 ∧ Fr [3, 4] σ1 a.2) (o := fun x => ∃ σ', x = some (nI (orS A.1 A.2.1 8).2.length, σ') ∧ ToC σ' (orS A.1 A.2.1 8).2 ∧ Fr scrC σ σ') (by omega) ⟨rfl, rfl, g2, g3⟩ ?_ ?_
    · intro m i a hi hI
      obtain ⟨lf, τ⟩ := a
      obtain ⟨i1, i2, i3, i4⟩ := hI
      dsimp only at i1 i2 i3 i4 ⊢
      subst i1
      by_cases q : (orS A.1 A.2.1 i).1 = 0
      · right
        have hs := orS_stop q (8 - i)
        rw [show i + (8 - i) = 8 by omega] at hs
        rw [hs, i2]
        refine ⟨τ, ?_, i3, (e3.mono (by decide)).trans (i4.mono (by decide))⟩
        rw [X8_order_l41, if_neg (c8 hi), if_pos q]
      · left
        obtain ⟨k, hk⟩ := hnext i q
        have f4 : Fr scrC σ τ := (e3.mono (by decide)).trans (i4.mono (by decide))
        have rt : rC τ 19 = A.2.1 := (f4.row19 (by decide)).trans hσ.2.1
        obtain ⟨σ3, a1, a2, a3⟩ := tadd_c N i3 (by omega) (nI k).toInt64
        have hor : orS A.1 A.2.1 (i + 1) = ((orS A.1 A.2.1 i).1 &&& ((1 <<< (nI k &&& 31)) ^^^ (-1)), (orS A.1 A.2.1 i).2 ++ [(nI k).toInt64]) := by
          show (match hvS A.1 A.2.1 (orS A.1 A.2.1 i).1 A.1.1 with | none => _ | some k => _) = _
          rw [hk]
        refine ⟨((orS A.1 A.2.1 i).1 &&& ((1 <<< (nI k &&& 31)) ^^^ (-1)), σ3), ⟨?_, ?_, ?_, i4.trans a3⟩, ?_⟩
        · rw [hor]
        · rw [hor]; simp [i2]
        · rw [hor]; exact a2
        · rw [X8_order_l41, if_neg (c8 hi), if_neg q, heaviest_c (by omega) h8 rt (fun j hj => (i4.g (k := 15) (by simp [pl])).trans (e2 j hj)) (h88 i).1 hk, Option.bind_some, a1, Option.bind_some, nI1]
    · intro m a hI
      obtain ⟨lf, τ⟩ := a
      obtain ⟨i1, i2, i3, i4⟩ := hI
      dsimp only at i1 i2 i3 i4 ⊢
      refine ⟨τ, ?_, i3, (e3.mono (by decide)).trans (i4.mono (by decide))⟩
      rw [X8_order_l41, if_pos c8', i2]
  · have f0 := thrown_f σ 0
    have c1 := hσ.1.fr f0 (by decide)
    have r0' : rR (wi σ 149 0 0) 153 = A.2.1 := (rR_congr (f0.r (by simp [pl]))).trans hσ.2.1
    have tf := told0_f (wi σ 149 0 0)
    unfold X9_order
    simp only [bnS]
    rw [here_r N c1.1, Option.bind_some, r0']
    refine forL0 (L := fun m i (a : Int32 × Sg) => X9_order_l19 N m a.1 a.2) (m := 8) (a := (hereS A.1 A.2.1, wi (wi σ 149 0 0) 149 1 0)) (fun i a => a.1 = (orS A.1 A.2.1 i).1 ∧ ToR a.2 (orS A.1 A.2.1 i).2 ∧ Fr [3001, 150, 159, 160] (wi σ 149 0 0) a.2) (o := fun x => ∃ σ', x = some (nI (orS A.1 A.2.1 8).2.length, σ') ∧ ToR σ' (orS A.1 A.2.1 8).2 ∧ Fr scrR σ σ') (by omega) ⟨rfl, told0_r _, tf.mono (by decide)⟩ ?_ ?_
    · intro m i a hi hI
      obtain ⟨lf, τ⟩ := a
      obtain ⟨i1, i3, i4⟩ := hI
      dsimp only at i1 i3 i4 ⊢
      subst i1
      by_cases q : (orS A.1 A.2.1 i).1 = 0
      · right
        have hs := orS_stop q (8 - i)
        rw [show i + (8 - i) = 8 by omega] at hs
        rw [hs]
        refine ⟨τ, ?_, i3, (f0.mono (by decide)).trans (i4.mono (by decide))⟩
        rw [X9_order_l19, if_pos q, i3.1]
      · left
        obtain ⟨k, hk⟩ := hnext i q
        have rt : rR τ 153 = A.2.1 := (rR_congr (i4.r (by simp [pl]))).trans r0'
        obtain ⟨σ2, w1, w2⟩ := heaviest_r (N := N) (by omega) (c1.fr i4 (by decide)) rt (show h < 2147483648 by omega) e36 (orS A.1 A.2.1 i).1 (fun v1 v2 σ => X9_order_j84 N (fun v1 σ => X9_order_l19 N m v1 σ) v1 v2 σ) hk
        obtain ⟨σ3, a1, a2, a3⟩ := enters_r N (i3.fr w2 (by decide)) (by have := (h88 i).2.1; omega) (nI k).toInt64
        have hor : orS A.1 A.2.1 (i + 1) = ((orS A.1 A.2.1 i).1 &&& ((1 <<< (nI k &&& 31)) ^^^ (-1)), (orS A.1 A.2.1 i).2 ++ [(nI k).toInt64]) := by
          show (match hvS A.1 A.2.1 (orS A.1 A.2.1 i).1 A.1.1 with | none => _ | some k => _) = _
          rw [hk]
        refine ⟨((orS A.1 A.2.1 i).1 &&& ((1 <<< (nI k &&& 31)) ^^^ (-1)), σ3), ⟨?_, ?_, (i4.trans (w2.mono (by decide))).trans (a3.mono (by decide))⟩, ?_⟩
        · rw [hor]
        · rw [hor]; exact a2
        · rw [X9_order_l19, if_neg q, w1, X9_order_j84, a1, Option.bind_some]
    · intro m a hI
      obtain ⟨lf, τ⟩ := a
      obtain ⟨i1, i3, i4⟩ := hI
      dsimp only at i1 i3 i4 ⊢
      refine ⟨τ, ?_, i3, (f0.mono (by decide)).trans (i4.mono (by decide))⟩
      rw [X9_order_l19, if_pos (i1.trans hz8), i3.1]
