/-! ===== strings ===== -/
def tgP (n : Nat) (r : Nat → Int32) (x : Nat) : Bool := decide (48 ≤ x) && decide (x - 48 < n) && !hb (r 32) (x - 48)
def srP (t : List Nat) (n : Nat) (r : Nat → Int32) : Nat → Bool := fun i => if i % 3 = 2 then decide (t.getD i 0 = 59) else tgP n r (t.getD i 0) && (decide (i % 3 = 0) || !decide (t.getD (i - 1) 0 = t.getD i 0))
theorem tgP_t {n : Nat} {r : Nat → Int32} {x : Nat} (h : tgP n r x = true) : 48 ≤ x ∧ x - 48 < n ∧ hb (r 32) (x - 48) = false := by
  unfold tgP at h
  simp only [Bool.and_eq_true, decide_eq_true_eq, Bool.not_eq_true'] at h
  exact ⟨h.1.1, h.1.2, h.2⟩
theorem dg_thing {n x : Nat} (h8 : n ≤ 8) (h1 : 48 ≤ x) (h2 : x - 48 < n) : dgI x = nI (x - 48) ∧ isD x = true := by
  have : isD x = true := by
    unfold isD
    simp only [Bool.and_eq_true, decide_eq_true_eq]
    omega
  exact ⟨(dgI_pos this).1, this⟩
theorem dg_none {n x : Nat} (h8 : n ≤ 8) (h : ¬ (48 ≤ x ∧ x - 48 < n)) : dgI x < 0 ∨ nI n ≤ dgI x := by
  cases hd : isD x with
  | true =>
    have := dgI_pos hd
    right
    rw [this.1]
    exact nI_le (by omega) (by omega)
  | false => left; rw [dgI_neg hd]; decide
theorem dg_same {x y : Nat} (hx : isD x = true) : dgI x = dgI y ↔ y = x := by
  have h1 := dgI_pos hx
  constructor
  · intro h
    cases hd : isD y with
    | true =>
      have h2 := dgI_pos hd
      rw [h1.1, h2.1, nI_eq (by omega) (by omega)] at h
      omega
    | false =>
      rw [h1.1, dgI_neg hd] at h
      exact absurd h (nIm1 (by omega))
  · intro h; rw [h]
theorem faultS {N : Nat} (hN : 40 < N) {σ : Sg} {t : List Nat} (h : TxC σ t) (hl : t.length ≤ 80) (hx : ∀ x ∈ t, x < 256) {n : Nat} (hn : gi σ 5 1 = nI n) (hn8 : n ≤ 8) {r : Nat → Int32} (hr : rC σ 19 = r) {q : Nat} (q1 : q ≤ min t.length 35) (q2 : ∀ i, i < q → srP t n r i = true) (q3 : q < min t.length 35 → srP t n r q = false) : X8_faultOfStrings N σ = some (if q < t.length ∨ (0 < q ∧ q % 3 ≠ 2) then nI q else -1) := by
  unfold X8_faultOfStrings
  rw [h.1, show (35 : Int32) = nI 35 from rfl, min_n N (by omega) (by omega), Option.bind_some]
  have step : ∀ m i, i < min t.length 35 → X8_faultOfStrings_l15 N (fun v1 => X8_faultOfStrings_j122 N v1 σ) σ (m + 1) (nI (min t.length 35)) (nI i) = if srP t n r i = true then X8_faultOfStrings_l15 N (fun v1 => X8_faultOfStrings_j122 N v1 σ) σ m (nI (min t.length 35)) (nI (i + 1)) else some (nI i) := by
    intro m i hi
    rw [X8_faultOfStrings_l15, if_neg (nI_ge hi (by omega)), show (3 : Int32) = nI 3 from rfl, pk_rem (by omega) (by omega) (by omega)]
    unfold srP X8_faultOfStrings_j110
    by_cases z : i % 3 = 2
    · rw [z, if_pos (show nI 2 = 2 from rfl), if_pos (show (2 : Nat) = 2 from rfl), at_c N h hl hx (by omega), Option.bind_some]
      by_cases y : t.getD i 0 = 59
      · rw [if_pos ((e59 _ (get256 hx i)).mpr y), if_neg oneF, if_pos (decide_eq_true y), nI1]
      · rw [if_neg (fun u => y ((e59 _ (get256 hx i)).mp u)), if_pos rfl, if_neg (by rw [decide_eq_true_eq]; exact y)]
    · rw [if_neg (show ¬ nI (i % 3) = 2 from fun u => z ((nI_eq (b := 2) (by omega) (by omega)).mp u)), if_neg z, dig_c N h hl hx (by omega), Option.bind_some]
      by_cases y : 48 ≤ t.getD i 0 ∧ t.getD i 0 - 48 < n
      · have hd := dg_thing hn8 y.1 y.2
        rw [hd.1, isThing_t N hn hn8 y.2, Option.bind_some, if_neg oneF, isGone_b N 19 (by omega), Option.bind_some, ← rC_32, hr]
        cases hg : hb (r 32) (t.getD i 0 - 48) with
        | true =>
          rw [if_pos rfl, if_neg oneF, if_pos rfl, if_neg (by unfold tgP; rw [hg]; simp)]
        | false =>
          have ht : tgP n r (t.getD i 0) = true := by
            unfold tgP
            rw [hg, decide_eq_true y.1, decide_eq_true y.2]; rfl
          rw [if_neg (show ¬ false = true by decide), if_pos (show (0 : Int32) = 0 from rfl), ht]
          by_cases u : i % 3 = 0
          · rw [if_pos (show nI (i % 3) = 0 by rw [u]; rfl), if_neg oneF, if_pos (by rw [decide_eq_true u]; rfl), nI1]
          · rw [if_neg (nI_ne0 (by omega) (by omega)), show nI i - 1 = nI (i - 1) from pk_sub (b := 1) (by omega), dig_c N h hl hx (by omega), Option.bind_some, ← hd.1, decide_eq_false u]
            by_cases x : t.getD (i - 1) 0 = t.getD i 0
            · rw [if_pos ((dg_same hd.2).mpr x), if_pos rfl, decide_eq_true x, if_neg (by decide)]
            · rw [if_neg (fun s => x ((dg_same hd.2).mp s)), if_neg oneF, decide_eq_false x, if_pos (by decide), nI1]
      · rw [isThing_f N hn (dg_none hn8 y), Option.bind_some, if_pos rfl, if_pos rfl, if_neg]
        intro u
        rw [Bool.and_eq_true] at u
        have := tgP_t u.1
        exact y ⟨this.1, this.2.1⟩
  refine forL0 (L := fun m i (_ : Unit) => X8_faultOfStrings_l15 N (fun v1 => X8_faultOfStrings_j122 N v1 σ) σ m (nI (min t.length 35)) (nI i)) (m := q) (a := ()) (fun i _ => i ≤ q) (o := fun x => x = some (if q < t.length ∨ (0 < q ∧ q % 3 ≠ 2) then nI q else -1)) (by omega) (by omega) ?_ ?_
  · intro m i a hi hI
    left
    refine ⟨(), by omega, ?_⟩
    rw [step m i (by omega), q2 i hi, if_pos rfl]
  · intro m a _
    by_cases z : q < min t.length 35
    · rw [step m q z, q3 z, if_neg (by decide), if_pos (by omega)]
    · have e : q = min t.length 35 := by omega
      rw [X8_faultOfStrings_l15, if_pos (nI_le (by omega) (by omega)), X8_faultOfStrings_j122, h.1, ← e, show (35 : Int32) = nI 35 from rfl]
      by_cases y : 35 < t.length
      · rw [if_pos (nI_lt y (by omega)), if_pos (by omega)]
      · rw [if_neg (nI_nlt (by omega) (by omega))]
        by_cases u : q = 0
        · rw [u, if_pos (show nI 0 ≤ 0 by decide), if_neg (by omega)]
        · rw [if_neg (nI_nle (by omega) (by omega)), show (3 : Int32) = nI 3 from rfl, pk_rem (by omega) (by omega) (by omega)]
          by_cases x : q % 3 = 2
          · rw [x, if_pos (show nI 2 = 2 from rfl), if_neg (by omega)]
          · rw [if_neg (show ¬ nI (q % 3) = 2 from fun u => x ((nI_eq (b := 2) (by omega) (by omega)).mp u)), if_pos (by omega)]
def stA (t : List Nat) (c : Nat) : Nat := t.getD (3 * c) 0 - 48
def stB (t : List Nat) (c : Nat) : Nat := t.getD (3 * c + 1) 0 - 48
def tyR (t : List Nat) (r : Nat → Int32) : Nat → Nat → Int32
  | 0 => r
  | c + 1 => if hb (tyR t r c (24 + stA t c)) (stB t c) = true then tyR t r c else togS (tyR t r c) (stA t c) (stB t c)
def tyN (t : List Nat) (r : Nat → Int32) : Nat → Nat
  | 0 => 0
  | c + 1 => if hb (tyR t r c (24 + stA t c)) (stB t c) = true then tyN t r c else tyN t r c + 1
theorem tyN_le (t : List Nat) (r : Nat → Int32) (c : Nat) : tyN t r c ≤ c := by
  induction c with
  | zero => exact Nat.le_refl _
  | succ c ih =>
    rw [tyN]
    split <;> omega
def stOk (t : List Nat) (n : Nat) (r : Nat → Int32) (c : Nat) : Prop := ∀ i, i < c → stA t i < n ∧ stB t i < n ∧ stA t i ≠ stB t i ∧ hb (r 32) (stA t i) = false ∧ hb (r 32) (stB t i) = false ∧ isD (t.getD (3 * i) 0) = true ∧ isD (t.getD (3 * i + 1) 0) = true
theorem stOk_of {t : List Nat} {n : Nat} (h8 : n ≤ 8) {r : Nat → Int32} {q c : Nat} (q2 : ∀ i, i < q → srP t n r i = true) (hc : 3 * c ≤ q + 1) : stOk t n r c := by
  intro i hi
  have a0 := q2 (3 * i) (by omega)
  have a1 := q2 (3 * i + 1) (by omega)
  unfold srP at a0 a1
  rw [if_neg (by omega), Bool.and_eq_true] at a0 a1
  have b0 := tgP_t a0.1
  have b1 := tgP_t a1.1
  have b2 := a1.2
  rw [show 3 * i + 1 - 1 = 3 * i by omega, decide_eq_false (by omega)] at b2
  simp only [Bool.false_or, Bool.not_eq_true', decide_eq_false_iff_not] at b2
  refine ⟨b0.2.1, b1.2.1, ?_, b0.2.2, b1.2.2, (dg_thing h8 b0.1 b0.2.1).2, (dg_thing h8 b1.1 b1.2.1).2⟩
  show t.getD (3 * i) 0 - 48 ≠ t.getD (3 * i + 1) 0 - 48
  omega
theorem tyR_32 {t : List Nat} {n : Nat} (h8 : n ≤ 8) {r : Nat → Int32} {c : Nat} (h : stOk t n r c) : ∀ i, i ≤ c → tyR t r i 32 = r 32 := by
  intro i
  induction i with
  | zero => intro _; rfl
  | succ i ih =>
    intro hi
    have h1 := h i (by omega)
    rw [tyR]
    split
    · exact ih (by omega)
    · rw [togS_o _ (by omega) (by omega) (by omega)]; exact ih (by omega)
theorem tyR_wf {t : List Nat} {n S H : Nat} {r : Nat → Int32} (hW : WF n S H r) {c : Nat} (h : stOk t n r c) : ∀ i, i ≤ c → WF n S H (tyR t r i) := by
  intro i
  have h8 : n ≤ 8 := hW.1.2.2.2.2
  induction i with
  | zero => intro _; exact hW
  | succ i ih =>
    intro hi
    have h1 := h i (by omega)
    have e := tyR_32 h8 h i (by omega)
    rw [tyR]
    split
    · exact ih (by omega)
    · exact tog_wf (ih (by omega)) h1.1 h1.2.1 h1.2.2.1 (by rw [e]; exact h1.2.2.2.1) (by rw [e]; exact h1.2.2.2.2.1)
theorem tieTold_c {N : Nat} (hN : 40 < N) {σ : Sg} {t : List Nat} (h : TxC σ t) (hl : t.length ≤ 35) (hx : ∀ x ∈ t, x < 256) {n : Nat} (hn : gi σ 5 1 = nI n) (hn8 : n ≤ 8) {r : Nat → Int32} (hr : rC σ 19 = r) {c : Nat} (hc : (c = 0 ∧ t.length = 0) ∨ t.length + 1 = 3 * c) (hs : stOk t n r c) : ∃ σ', X8_tieTold N σ = some (nI (tyN t r c), σ') ∧ rC σ' 19 = tyR t r c ∧ Fr [23] σ σ' := by
  unfold X8_tieTold
  refine forL0 (L := fun m i (x : Nat × Sg) => X8_tieTold_l4 N m (nI x.1) (nI (3 * i)) x.2) (m := c) (a := (0, σ)) (fun i x => x.1 = tyN t r i ∧ rC x.2 19 = tyR t r i ∧ Fr [23] σ x.2) (o := fun x => ∃ σ', x = some (nI (tyN t r c), σ') ∧ rC σ' 19 = tyR t r c ∧ Fr [23] σ σ') (by omega) ⟨rfl, hr, Fr.refl _ _⟩ ?_ ?_
  · intro m i x hi hI
    obtain ⟨y, a⟩ := x
    obtain ⟨g1, g2, g3⟩ := hI
    dsimp only at g1 g2 g3
    left
    have h1 := hs i hi
    have ht := h.fr g3 (by decide)
    have hn' := (g3.g (k := 5) (j := 1) (by decide)).trans hn
    have ebit : gi a (19 + 4) (stA t i) = tyR t r i (24 + stA t i) := by rw [← g2, rC_l (by omega)]
    have base : X8_tieTold_l4 N (m + 1) (nI y) (nI (3 * i)) a = ((X5_isTied N 19 (nI (stA t i)) (nI (stB t i)) a).bind fun r12 => (if r12 = 0 then ((X5_toggle N 19 (nI (stA t i)) (nI (stB t i)) a).bind fun r15 => (X8_tieTold_l4 N m (nI y + 1) (nI (3 * i) + 3) r15)) else (X8_tieTold_l4 N m (nI y) (nI (3 * i) + 3) a))) := by
      rw [X8_tieTold_l4, ht.1, nI1, if_neg (nI_ge (by omega) (by omega)), dig_c N ht (by omega) hx (by omega), Option.bind_some, dig_c N ht (by omega) hx (by omega), Option.bind_some, (dgI_pos h1.2.2.2.2.2.1).1, (dgI_pos h1.2.2.2.2.2.2).1, show t.getD (3 * i) 0 - 48 = stA t i from rfl, show t.getD (3 * i + 1) 0 - 48 = stB t i from rfl, isThing_t N hn' hn8 h1.1, Option.bind_some, if_neg oneF, isThing_t N hn' hn8 h1.2.1, Option.bind_some, if_neg oneF]
    rw [isTied_b N 19 (by omega) (by omega), Option.bind_some, ebit, show nI (3 * i) + 3 = nI (3 * (i + 1)) from nI_add _ 3, nI1] at base
    by_cases z : hb (tyR t r i (24 + stA t i)) (stB t i) = true
    · refine ⟨(y, a), ⟨?_, ?_, g3⟩, ?_⟩
      · rw [tyN, if_pos z]; exact g1
      · rw [tyR, if_pos z]; exact g2
      · dsimp only
        rw [base, if_pos z, if_neg oneF]
    · obtain ⟨a', t1, t2, t3⟩ := toggle_b N (k1 := 19) (Or.inl rfl) (show stA t i < 8 by omega) (show stB t i < 8 by omega) a
      refine ⟨(y + 1, a'), ⟨?_, ?_, g3.trans t3⟩, ?_⟩
      · rw [tyN, if_neg z, ← g1]
      · rw [tyR, if_neg z, ← g2]; exact t2
      · dsimp only
        rw [base, if_neg z, if_pos rfl, t1, Option.bind_some]
  · intro m x hI
    obtain ⟨y, a⟩ := x
    obtain ⟨g1, g2, g3⟩ := hI
    dsimp only at g1 g2 g3
    refine ⟨a, ?_, g2, g3⟩
    dsimp only
    rw [X8_tieTold_l4, (h.fr g3 (by decide)).1, nI1, if_pos (nI_le (by omega) (by omega)), g1]
