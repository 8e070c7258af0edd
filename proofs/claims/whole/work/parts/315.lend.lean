/-! ===== loans, returns, strings, debts: both sides ===== -/
theorem S5_19 {σ σ' : Sg} {k1 : Nat} (hk : k1 = 19 ∨ k1 = 24) (f : Fr (S5 k1) σ σ') : Fr (HK k1) σ σ' := f.mono (by intro x hx; unfold S5 at hx; unfold HK; simp at hx ⊢; omega)
def noThing (n : Nat) (a : Int32) : Prop := a < 0 ∨ nI n ≤ a
theorem one9 {v : Int32} (h1 : ¬ v < 1) (h2 : v ≤ 9) : ∃ u, 1 ≤ u ∧ u ≤ 9 ∧ v = nI u := by
  have h0 : ¬ v < 0 := fun q => h1 (Int32.lt_trans q (by decide))
  obtain ⟨j, hj, rfl⟩ := nI_of2 (M := 9) (n := 9) rfl h0 h2
  refine ⟨j, ?_, hj, rfl⟩
  rcases Nat.lt_or_ge j 1 with q | q
  · have : j = 0 := by omega
    subst this; exact absurd (by decide) h1
  · exact q
def lendS (r : Nat → Int32) (k : Nat) (v : Int32) : Int32 × (Nat → Int32) := if hb (r 32) k = true then (-2, r) else if v ≤ r 33 then (if r k + v ≤ 9 then (r k + v, upd (upd r 33 (r 33 - v)) k (r k + v)) else (-4, r)) else (-3, r)
theorem lend_no {N k1 : Nat} {σ : Sg} {n : Nat} (hn : gi σ 5 1 = nI n) (h8 : n ≤ 8) {a v : Int32} (h : noThing n a ∨ v < 1 ∨ ¬ v ≤ 9) : X0_lend N k1 a v σ = some (-1, σ) := by
  unfold X0_lend
  rcases thing_or h8 a with ⟨k, hk, rfl⟩ | hno
  · rw [isThing_t N hn h8 hk, Option.bind_some, if_neg oneF]
    by_cases q : v < 1
    · rw [if_pos q]
    · rw [if_neg q]
      rcases h with h | h | h
      · rcases h with h | h
        · exact absurd h (nI_pos (by omega))
        · exact absurd h (n_le hk (by omega))
      · exact absurd h q
      · rw [if_neg h]
  · rw [isThing_f N hn hno, Option.bind_some, if_pos rfl]
theorem lend_yes {N k1 : Nat} (hk1 : k1 = 19 ∨ k1 = 24) {σ : Sg} {n : Nat} (hn : gi σ 5 1 = nI n) (h8 : n ≤ 8) {k : Nat} (hk : k < n) {v : Int32} (h1 : ¬ v < 1) (h2 : v ≤ 9) : ∃ σ', X0_lend N k1 (nI k) v σ = some ((lendS (rC σ k1) k v).1, σ') ∧ rC σ' k1 = (lendS (rC σ k1) k v).2 ∧ Fr (HK k1) σ σ' := by
  have hk8 : k < 8 := by omega
  unfold X0_lend lendS
  rw [isThing_t N hn h8 hk, Option.bind_some, if_neg oneF, if_neg h1, if_pos h2, isGone_b N k1 (by omega), Option.bind_some]
  by_cases g : hb (rC σ k1 32) k = true
  · rw [if_pos (show hb (gi σ k1 4) k = true from g), if_neg oneF, if_pos g]
    exact ⟨σ, rfl, rfl, Fr.refl _ _⟩
  · rw [if_neg (show ¬ hb (gi σ k1 4) k = true from g), if_pos rfl, if_neg g]
    by_cases q : v ≤ rC σ k1 33
    · rw [if_pos (show v ≤ gi σ k1 5 from q), if_pos q, inbI hk8 (by omega), clI (by omega), ← rC_s hk8]
      by_cases q2 : rC σ k1 k + v ≤ 9
      · rw [if_pos rfl, if_pos q2, if_pos q2]
        refine ⟨wi (wi σ k1 5 (gi σ k1 5 - v)) (k1 + 1) k (rC σ k1 k + v), ?_, ?_, S5_19 hk1 (((Fr.refl _ _).wi (S5_pl (by omega) (by omega) (by omega) (by omega) _)).wi (S5_pl (by omega) (by omega) (by omega) (by omega) _))⟩
        · simp only [bnS, if_true]
          rw [show gi (wi σ k1 5 (gi σ k1 5 - v)) (k1 + 1) k = rC σ k1 k by rw [gi_wi_ne (by omega), rC_s hk8], giw, if_pos ⟨rfl, rfl⟩]
        · rw [rC_ws hk8, rC_wf (by omega) (by omega)]; rfl
      · rw [if_pos rfl, if_neg q2, if_neg q2]
        exact ⟨σ, rfl, rfl, Fr.refl _ _⟩
    · rw [if_neg (show ¬ v ≤ gi σ k1 5 from q), if_neg q]
      exact ⟨σ, rfl, rfl, Fr.refl _ _⟩
theorem lendR_no {N k1 : Nat} {σ : Sg} {n : Nat} (hn : gi σ 149 3 = nI n) (h8 : n ≤ 8) {a v : Int32} (h : noThing n a ∨ v < 1 ∨ ¬ v ≤ 9) : X9_lendsTo N k1 a v σ = some (-1, σ) := by
  unfold X9_lendsTo
  rcases thing_or h8 a with ⟨k, hk, rfl⟩ | hno
  · rw [isThingR_t N hn h8 hk, Option.bind_some, if_neg oneF]
    have : v < 1 ∨ 9 < v := by
      rcases h with h | h | h
      · rcases h with h | h
        · exact absurd h (nI_pos (by omega))
        · exact absurd h (n_le hk (by omega))
      · exact Or.inl h
      · exact Or.inr (Int32.not_le.mp h)
    rw [show (1 : Int64) = (1 : Int32).toInt64 from rfl, show (9 : Int64) = (9 : Int32).toInt64 from rfl, in_f N this, Option.bind_some, if_pos rfl]
  · rw [isThingR_f N hn h8 hno, Option.bind_some, if_pos rfl]
theorem upd_comm {f : Nat → Int32} {a b : Nat} {x y : Int32} (h : a ≠ b) : upd (upd f a x) b y = upd (upd f b y) a x := by
  funext j
  by_cases q : j = b
  · subst q; rw [pk_us, pk_un (fun z => h z.symm), pk_us]
  · by_cases q2 : j = a
    · subst q2; rw [pk_un q, pk_us, pk_us]
    · rw [pk_un q, pk_un q2, pk_un q2, pk_un q]
theorem lendR_yes {N k1 : Nat} (hk1 : k1 = 153 ∨ k1 = 154) {σ : Sg} {n : Nat} (hn : gi σ 149 3 = nI n) (h8 : n ≤ 8) {k : Nat} (hk : k < n) {v : Int32} (h1 : ¬ v < 1) (h2 : v ≤ 9) : ∃ σ', X9_lendsTo N k1 (nI k) v σ = some ((lendS (rR σ k1) k v).1, σ') ∧ rR σ' k1 = (lendS (rR σ k1) k v).2 ∧ Fr [k1] σ σ' := by
  have hk8 : k < 8 := by omega
  have pk : ∀ j, pl k1 j ∈ [k1] := by intro j; rcases hk1 with rfl | rfl <;> simp [pl]
  unfold X9_lendsTo lendS
  rw [isThingR_t N hn h8 hk, Option.bind_some, if_neg oneF, show (1 : Int64) = (1 : Int32).toInt64 from rfl, show (9 : Int64) = (9 : Int32).toInt64 from rfl, in_t N (Int32.not_lt.mp h1) h2, Option.bind_some, if_neg oneF, isHere_b N hn h8 hk, Option.bind_some]
  by_cases g : hb (rR σ k1 32) k = true
  · rw [if_pos g, if_pos rfl, if_pos g]
    exact ⟨σ, rfl, rfl, Fr.refl _ _⟩
  · rw [if_neg g, if_neg oneF, if_neg g, if_pos i37_33, cl33]
    by_cases q : v ≤ rR σ k1 33
    · rw [if_pos (show v ≤ gi σ k1 33 from q), if_pos q, inbI (show k < 37 by omega) (by omega), clI (by omega), ← rR_j (k := k1) (show k < 37 by omega)]
      by_cases q2 : rR σ k1 k + v ≤ 9
      · rw [if_pos rfl, if_pos q2, if_pos q2]
        refine ⟨wi (wi σ k1 k (rR σ k1 k + v)) k1 33 (gi σ k1 33 - v), ?_, ?_, ((Fr.refl _ _).wi (pk _)).wi (pk _)⟩
        · simp only [bnS, if_true, i37_33]
          rw [show gi (wi σ k1 k (rR σ k1 k + v)) k1 33 = gi σ k1 33 by rw [giw, if_neg (by omega)], giw, if_neg (by omega), giw, if_pos ⟨rfl, rfl⟩]
        · rw [rR_w (by omega), rR_w (by omega), upd_comm (by omega)]; rfl
      · rw [if_pos rfl, if_neg q2, if_neg q2]
        exact ⟨σ, rfl, rfl, Fr.refl _ _⟩
    · rw [if_neg (show ¬ v ≤ gi σ k1 33 from q), if_neg q]
      exact ⟨σ, rfl, rfl, Fr.refl _ _⟩
theorem WF.mono {n S H H' : Nat} {r : Nat → Int32} (h : WF n S H r) (hh : H ≤ H') : WF n S H' r := by
  obtain ⟨w1, w2, w3, w4, w5, w6, w7, t, ht, e⟩ := h
  exact ⟨w1, w2, w3, w4, w5, w6, w7, t, by omega, e⟩
theorem WL.congr {n : Nat} {r r' : Nat → Int32} (h : WL n r) (hl : ∀ i, i < 8 → r' (24 + i) = r (24 + i)) (hg : r' 32 = r 32) : WL n r' := by
  obtain ⟨a, b, c, d, e⟩ := h
  refine ⟨fun i hi => by rw [hl i hi]; exact a i hi, fun i j hi hj => by rw [hl i hi, hl j hj]; exact b i j hi hj, fun i hi hx => ?_, fun i hi => by rw [hg]; exact d i hi, e⟩
  rw [hg] at hx
  rw [hl i hi]
  exact c i hi hx
theorem WF.upd3 {n S H : Nat} {r r' : Nat → Int32} (h : WF n S H r) (hl : ∀ i, i < 8 → r' (24 + i) = r (24 + i)) (hg : r' 32 = r 32) (hh : ∀ i, i < 8 → r' (8 + i) = r (8 + i)) (hs : ∀ i, i < 8 → (∃ s, s ≤ S ∧ r' i = nI s) ∧ ∃ d, d ≤ 999 ∧ r' (16 + i) = nI d) (hgo : ∀ i, i < 8 → hb (r 32) i = true → r' i = 0) (hz : ∀ i, n ≤ i → i < 8 → r' i = 0 ∧ r' (16 + i) = 0) (h34 : ∃ t, t ≤ 9999 ∧ r' 34 = nI t) (h36 : r' 36 = r 36) : WF n S H r' := by
  obtain ⟨w1, w2, w3, w4, w5, w6, w7, w8⟩ := h
  refine ⟨w1.congr hl hg, fun i hi => by rw [hh i hi]; exact w2 i hi, hs, fun i hi hx => ?_, fun i hi hi8 => ?_, fun i hi => by rw [hl i hi]; exact w6 i hi, h34, by rw [h36]; exact w8⟩
  · rw [hg] at hx
    exact ⟨hgo i hi hx, by rw [hh i hi]; exact (w4 i hi hx).2⟩
  · exact ⟨(hz i hi hi8).1, by rw [hh i hi8]; exact (w5 i hi hi8).2.1, (hz i hi hi8).2⟩
theorem lend_wf {n S H : Nat} {r : Nat → Int32} (hS : 9 ≤ S) (hS2 : S ≤ 10) (h : WF n S H r) {k : Nat} (hk : k < n) {v : Int32} (h1 : ¬ v < 1) (h2 : v ≤ 9) : WF n S H (lendS r k v).2 := by
  have h0 := h
  obtain ⟨w1, w2, w3, w4, w5, w6, w7, w8⟩ := h
  have h8 := w1.2.2.2.2
  unfold lendS
  by_cases g : hb (r 32) k = true
  · rw [if_pos g]; exact h0
  · rw [if_neg g]
    by_cases q : v ≤ r 33
    · rw [if_pos q]
      by_cases q2 : r k + v ≤ 9
      · rw [if_pos q2]
        obtain ⟨u, hu1, hu2, rfl⟩ := one9 h1 h2
        obtain ⟨s, hs, es⟩ := (w3 k (by omega)).1
        dsimp only
        rw [es, nI_add] at q2 ⊢
        have hsu : s + u ≤ 9 := (nI_leI (b := 9) (by omega) (by decide)).mp q2
        refine h0.upd3 (fun i hi => by rw [pk_un (by omega), pk_un (by omega)]) (by rw [pk_un (by omega), pk_un (by omega)]) (fun i hi => by rw [pk_un (by omega), pk_un (by omega)]) (fun i hi => ⟨?_, ?_⟩) (fun i hi hx => ?_) (fun i hi hi8 => ?_) (by rw [pk_un (by omega), pk_un (by omega)]; exact w7) (by rw [pk_un (by omega), pk_un (by omega)])
        · by_cases z : i = k
          · subst z; rw [pk_us]; exact ⟨s + u, by omega, rfl⟩
          · rw [pk_un z, pk_un (by omega)]; exact (w3 i hi).1
        · rw [pk_un (by omega), pk_un (by omega)]; exact (w3 i hi).2
        · have z : i ≠ k := by intro z; subst z; exact g hx
          rw [pk_un z, pk_un (by omega)]
          exact (w4 i hi hx).1
        · rw [pk_un (show i ≠ k by omega), pk_un (by omega), pk_un (show 16 + i ≠ k by omega), pk_un (by omega)]
          exact ⟨(w5 i hi hi8).1, (w5 i hi hi8).2.2⟩
      · rw [if_neg q2]; exact h0
    · rw [if_neg q]; exact h0
/-! ===== returns ===== -/
def backS (r : Nat → Int32) (k : Nat) (v : Int32) : Int32 × (Nat → Int32) := if v ≤ r k then (if r 33 + v ≤ 99 then (r 33 + v, upd (upd r k (r k - v)) 33 (r 33 + v)) else (-3, r)) else (-2, r)
theorem back_no {N k1 : Nat} {σ : Sg} {n : Nat} (hn : gi σ 5 1 = nI n) (h8 : n ≤ 8) {a v : Int32} (h : noThing n a ∨ v < 1 ∨ ¬ v ≤ 9) : X0_takeBack N k1 a v σ = some (-1, σ) := by
  unfold X0_takeBack
  rcases thing_or h8 a with ⟨k, hk, rfl⟩ | hno
  · rw [isThing_t N hn h8 hk, Option.bind_some, if_neg oneF]
    by_cases q : v < 1
    · rw [if_pos q]
    · rw [if_neg q]
      rcases h with h | h | h
      · rcases h with h | h
        · exact absurd h (nI_pos (by omega))
        · exact absurd h (n_le hk (by omega))
      · exact absurd h q
      · rw [if_neg h]
  · rw [isThing_f N hn hno, Option.bind_some, if_pos rfl]
theorem back_yes {N k1 : Nat} (hk1 : k1 = 19 ∨ k1 = 24) {σ : Sg} {n : Nat} (hn : gi σ 5 1 = nI n) (h8 : n ≤ 8) {k : Nat} (hk : k < n) {v : Int32} (h1 : ¬ v < 1) (h2 : v ≤ 9) : ∃ σ', X0_takeBack N k1 (nI k) v σ = some ((backS (rC σ k1) k v).1, σ') ∧ rC σ' k1 = (backS (rC σ k1) k v).2 ∧ Fr (HK k1) σ σ' := by
  have hk8 : k < 8 := by omega
  unfold X0_takeBack backS
  rw [isThing_t N hn h8 hk, Option.bind_some, if_neg oneF, if_neg h1, if_pos h2, inbI hk8 (by omega), clI (by omega), ← rC_s hk8, if_pos rfl]
  by_cases q : v ≤ rC σ k1 k
  · rw [if_pos q, if_pos q]
    by_cases q2 : rC σ k1 33 + v ≤ 99
    · rw [if_pos (show gi σ k1 5 + v ≤ 99 from q2), if_pos q2]
      refine ⟨wi (wi σ (k1 + 1) k (rC σ k1 k - v)) k1 5 (gi σ k1 5 + v), ?_, ?_, S5_19 hk1 (((Fr.refl _ _).wi (S5_pl (by omega) (by omega) (by omega) (by omega) _)).wi (S5_pl (by omega) (by omega) (by omega) (by omega) _))⟩
      · simp only [bnS, if_true]
        rw [show gi (wi σ (k1 + 1) k (rC σ k1 k - v)) k1 5 = gi σ k1 5 by rw [gi_wi_ne (by omega)], giw, if_pos ⟨rfl, rfl⟩]
        rfl
      · rw [rC_wf (by omega) (by omega), rC_ws hk8]; rfl
    · rw [if_neg (show ¬ gi σ k1 5 + v ≤ 99 from q2), if_neg q2]
      exact ⟨σ, rfl, rfl, Fr.refl _ _⟩
  · rw [if_neg q, if_neg q]
    exact ⟨σ, rfl, rfl, Fr.refl _ _⟩
theorem backR_no {N : Nat} {σ : Sg} {n : Nat} (hn : gi σ 149 3 = nI n) (h8 : n ≤ 8) {a v : Int32} (h : noThing n a ∨ v < 1 ∨ ¬ v ≤ 9) : X9_givesBack N a v σ = some (-1, σ) := by
  unfold X9_givesBack
  rcases thing_or h8 a with ⟨k, hk, rfl⟩ | hno
  · rw [isThingR_t N hn h8 hk, Option.bind_some, if_neg oneF]
    have : v < 1 ∨ 9 < v := by
      rcases h with h | h | h
      · rcases h with h | h
        · exact absurd h (nI_pos (by omega))
        · exact absurd h (n_le hk (by omega))
      · exact Or.inl h
      · exact Or.inr (Int32.not_le.mp h)
    rw [show (1 : Int64) = (1 : Int32).toInt64 from rfl, show (9 : Int64) = (9 : Int32).toInt64 from rfl, in_f N this, Option.bind_some, if_pos rfl]
  · rw [isThingR_f N hn h8 hno, Option.bind_some, if_pos rfl]
theorem backR_yes {N : Nat} {σ : Sg} {n : Nat} (hn : gi σ 149 3 = nI n) (h8 : n ≤ 8) {k : Nat} (hk : k < n) {v : Int32} (h1 : ¬ v < 1) (h2 : v ≤ 9) : ∃ σ', X9_givesBack N (nI k) v σ = some ((backS (rR σ 153) k v).1, σ') ∧ rR σ' 153 = (backS (rR σ 153) k v).2 ∧ Fr [153] σ σ' := by
  have hk8 : k < 8 := by omega
  unfold X9_givesBack backS
  rw [isThingR_t N hn h8 hk, Option.bind_some, if_neg oneF, show (1 : Int64) = (1 : Int32).toInt64 from rfl, show (9 : Int64) = (9 : Int32).toInt64 from rfl, in_t N (Int32.not_lt.mp h1) h2, Option.bind_some, if_neg oneF, inbI (show k < 37 by omega) (by omega), clI (by omega), ← rR_j (k := 153) (show k < 37 by omega), if_pos rfl]
  by_cases q : v ≤ rR σ 153 k
  · rw [if_pos q, if_pos q, if_pos i37_33, cl33]
    by_cases q2 : rR σ 153 33 + v ≤ 99
    · rw [if_pos (show gi σ 153 33 + v ≤ 99 from q2), if_pos q2]
      refine ⟨wi (wi σ 153 k (rR σ 153 k - v)) 153 33 (gi σ 153 33 + v), ?_, ?_, ((Fr.refl _ _).wi (by simp [pl])).wi (by simp [pl])⟩
      · simp only [bnS, if_true, i37_33]
        rw [show gi (wi σ 153 k (rR σ 153 k - v)) 153 33 = gi σ 153 33 by rw [giw, if_neg (by omega)], giw, if_pos ⟨rfl, rfl⟩]
        rfl
      · rw [rR_w (by omega), rR_w (by omega)]; rfl
    · rw [if_neg (show ¬ gi σ 153 33 + v ≤ 99 from q2), if_neg q2]
      exact ⟨σ, rfl, rfl, Fr.refl _ _⟩
  · rw [if_neg q, if_neg q]
    exact ⟨σ, rfl, rfl, Fr.refl _ _⟩
theorem back_wf {n S H : Nat} {r : Nat → Int32} (hS2 : S ≤ 10) (h : WF n S H r) {k : Nat} (hk : k < n) {v : Int32} (h1 : ¬ v < 1) (h2 : v ≤ 9) : WF n S H (backS r k v).2 := by
  have h0 := h
  obtain ⟨w1, w2, w3, w4, w5, w6, w7, w8⟩ := h
  have h8 := w1.2.2.2.2
  unfold backS
  by_cases q : v ≤ r k
  · rw [if_pos q]
    by_cases q2 : r 33 + v ≤ 99
    · rw [if_pos q2]
      obtain ⟨u, hu1, hu2, rfl⟩ := one9 h1 h2
      obtain ⟨s, hs, es⟩ := (w3 k (by omega)).1
      have hus : u ≤ s := by rw [es] at q; exact (nI_leI (by omega) (by omega)).mp q
      dsimp only
      rw [es, pk_sub hus]
      refine h0.upd3 (fun i hi => by rw [pk_un (by omega), pk_un (by omega)]) (by rw [pk_un (by omega), pk_un (by omega)]) (fun i hi => by rw [pk_un (by omega), pk_un (by omega)]) (fun i hi => ⟨?_, ?_⟩) (fun i hi hx => ?_) (fun i hi hi8 => ?_) (by rw [pk_un (by omega), pk_un (by omega)]; exact w7) (by rw [pk_un (by omega), pk_un (by omega)])
      · rw [pk_un (by omega)]
        by_cases z : i = k
        · subst z; rw [pk_us]; exact ⟨s - u, by omega, rfl⟩
        · rw [pk_un z]; exact (w3 i hi).1
      · rw [pk_un (by omega), pk_un (by omega)]; exact (w3 i hi).2
      · have z : i ≠ k := by
          intro z; subst z
          have := (w4 i hi hx).1
          rw [es] at this
          have : s = 0 := (nI_eq (b := 0) (by omega) (by omega)).mp this
          omega
        rw [pk_un (by omega), pk_un z]
        exact (w4 i hi hx).1
      · rw [pk_un (by omega), pk_un (show i ≠ k by omega), pk_un (show 16 + i ≠ 33 by omega), pk_un (show 16 + i ≠ k by omega)]
        exact ⟨(w5 i hi hi8).1, (w5 i hi hi8).2.2⟩
    · rw [if_neg q2]; exact h0
  · rw [if_neg q]; exact h0
/-! ===== debts ===== -/
def mn9999 (x : Int32) : Int32 := if 9999 < x then 9999 else x
theorem mn9999' (x : Int32) : (if x < 9999 then x else 9999) = mn9999 x := by
  unfold mn9999
  by_cases h : x < 9999
  · rw [if_pos h, if_neg (fun q => absurd (Int32.lt_trans h q) (Int32.lt_irrefl))]
  · rw [if_neg h]
    by_cases h2 : 9999 < x
    · rw [if_pos h2]
    · rw [if_neg h2]
      exact Int32.le_antisymm (Int32.not_lt.mp h) (Int32.not_lt.mp h2)
def payS (r : Nat → Int32) (k : Nat) : Int32 × (Nat → Int32) := if r (16 + k) = 0 then (-2, r) else (r (16 + k), upd (upd r (16 + k) 0) 34 (mn9999 (r 34 + r (16 + k))))
theorem pay_no {N k1 : Nat} {σ : Sg} {n : Nat} (hn : gi σ 5 1 = nI n) {a : Int32} (h : noThing n a) : X0_takeDebt N k1 a σ = some (-1, σ) := by
  unfold X0_takeDebt
  rw [isThing_f N hn h, Option.bind_some, if_pos rfl]
theorem pay_yes {N k1 : Nat} (hk1 : k1 = 19 ∨ k1 = 24) {σ : Sg} {n : Nat} (hn : gi σ 5 1 = nI n) (h8 : n ≤ 8) {k : Nat} (hk : k < n) : ∃ σ', X0_takeDebt N k1 (nI k) σ = some ((payS (rC σ k1) k).1, σ') ∧ rC σ' k1 = (payS (rC σ k1) k).2 ∧ Fr (HK k1) σ σ' := by
  have hk8 : k < 8 := by omega
  unfold X0_takeDebt payS
  rw [isThing_t N hn h8 hk, Option.bind_some, if_neg oneF, inbI hk8 (by omega), clI (by omega), ← rC_d hk8, if_pos rfl]
  by_cases q : rC σ k1 (16 + k) = 0
  · rw [if_pos q, if_pos q]
    exact ⟨σ, rfl, rfl, Fr.refl _ _⟩
  · rw [if_neg q, if_neg q]
    refine ⟨wi (wi σ (k1 + 3) k 0) k1 6 (mn9999 (rC σ k1 34 + rC σ k1 (16 + k))), ?_, ?_, S5_19 hk1 (((Fr.refl _ _).wi (S5_pl (by omega) (by omega) (by omega) (by omega) _)).wi (S5_pl (by omega) (by omega) (by omega) (by omega) _))⟩
    · simp only [bnS, if_true]
      rw [gi_wi_ne (show k1 ≠ k1 + 3 by omega), min_b, Option.bind_some]
      rfl
    · rw [rC_wf (by omega) (by omega), rC_wd hk8]
theorem payR_no {N : Nat} {σ : Sg} {n : Nat} (hn : gi σ 149 3 = nI n) (h8 : n ≤ 8) {a : Int32} (h : noThing n a) : X9_paysAll N a σ = some (-1, σ) := by
  unfold X9_paysAll
  rw [isThingR_f N hn h8 h, Option.bind_some, if_pos rfl]
theorem payR_yes {N : Nat} {σ : Sg} {n : Nat} (hn : gi σ 149 3 = nI n) (h8 : n ≤ 8) {k : Nat} (hk : k < n) {t : Nat} (ht : t ≤ 9999) (et : rR σ 153 34 = nI t) : ∃ σ', X9_paysAll N (nI k) σ = some ((payS (rR σ 153) k).1, σ') ∧ rR σ' 153 = (payS (rR σ 153) k).2 ∧ Fr [153] σ σ' := by
  have hk8 : k < 8 := by omega
  refine ⟨wi (wi σ 153 (16 + k) 0) 153 34 (mn9999 (rR σ 153 34 + rR σ 153 (16 + k))), ?_, ?_, ((Fr.refl _ _).wi (by simp [pl])).wi (by simp [pl])⟩
  · unfold X9_paysAll payS
    rw [isThingR_t N hn h8 hk, Option.bind_some, if_neg oneF, show (16 : Int32) + nI k = nI (16 + k) from nI_add 16 k, inbI (show 16 + k < 37 by omega) (by omega), clI (by omega), ← rR_j (k := 153) (show 16 + k < 37 by omega), if_pos rfl, if_pos rfl]
    simp only [bnS]
    rw [if_pos i37_34, cl34, show gi (wi σ 153 (16 + k) 0) 153 34 = rR σ 153 34 by rw [giw, if_neg (by omega)]; rfl, min_b, mn9999', Option.bind_some, if_pos i37_34]
    by_cases q : rR σ 153 (16 + k) = 0
    · rw [if_pos q, if_pos q]
    · rw [if_neg q, if_neg q]
  · rw [rR_w (by omega), rR_w (by omega)]
    unfold payS
    by_cases q : rR σ 153 (16 + k) = 0
    · rw [if_pos q, q]
      have : mn9999 (rR σ 153 34 + 0) = rR σ 153 34 := by
        unfold mn9999
        rw [et, show nI t + 0 = nI t by simp, if_neg (show ¬ (9999 : Int32) < nI t from nI_nlt (a := 9999) ht (by decide))]
      rw [this]
      funext j
      by_cases z : j = 34
      · subst z; rw [pk_us]
      · rw [pk_un z]
        by_cases z2 : j = 16 + k
        · subst z2; rw [pk_us]; exact q.symm
        · rw [pk_un z2]
    · rw [if_neg q]
theorem pay_wf {n S H : Nat} {r : Nat → Int32} (h : WF n S H r) {k : Nat} (hk : k < n) : WF n S H (payS r k).2 := by
  have h0 := h
  obtain ⟨w1, w2, w3, w4, w5, w6, w7, w8⟩ := h
  have h8 := w1.2.2.2.2
  unfold payS
  by_cases q : r (16 + k) = 0
  · rw [if_pos q]; exact h0
  · rw [if_neg q]
    dsimp only
    refine h0.upd3 (fun i hi => by rw [pk_un (by omega), pk_un (by omega)]) (by rw [pk_un (by omega), pk_un (by omega)]) (fun i hi => by rw [pk_un (by omega), pk_un (by omega)]) (fun i hi => ⟨?_, ?_⟩) (fun i hi hx => ?_) (fun i hi hi8 => ?_) ?_ (by rw [pk_un (by omega), pk_un (by omega)])
    · rw [pk_un (by omega), pk_un (by omega)]; exact (w3 i hi).1
    · rw [pk_un (by omega)]
      by_cases z : i = k
      · subst z; rw [pk_us]; exact ⟨0, by omega, rfl⟩
      · rw [pk_un (by omega)]; exact (w3 i hi).2
    · rw [pk_un (by omega), pk_un (by omega)]; exact (w4 i hi hx).1
    · rw [pk_un (by omega), pk_un (by omega), pk_un (show 16 + i ≠ 34 by omega), pk_un (show 16 + i ≠ 16 + k by omega)]
      exact ⟨(w5 i hi hi8).1, (w5 i hi hi8).2.2⟩
    · rw [pk_us]
      obtain ⟨t, ht, et⟩ := w7
      obtain ⟨d, hd, ed⟩ := (w3 k (by omega)).2
      rw [et, ed, nI_add]
      unfold mn9999
      by_cases z : (9999 : Int32) < nI (t + d)
      · rw [if_pos z]; exact ⟨9999, by omega, rfl⟩
      · rw [if_neg z]
        refine ⟨t + d, ?_, rfl⟩
        rcases Nat.lt_or_ge 9999 (t + d) with y | y
        · exact absurd (show (9999 : Int32) < nI (t + d) from nI_lt (a := 9999) y (by omega)) z
        · exact y
