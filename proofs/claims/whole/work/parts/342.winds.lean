/-! ===== texts read; winds ===== -/
theorem upto_p (p : Nat → Bool) (m : Nat) : ∃ q, q ≤ m ∧ (∀ i, i < q → p i = true) ∧ (q < m → p q = false) := by
  induction m with
  | zero => exact ⟨0, Nat.le_refl _, fun i hi => absurd hi (Nat.not_lt_zero _), fun h => absurd h (Nat.lt_irrefl _)⟩
  | succ m ih =>
    obtain ⟨q, h1, h2, h3⟩ := ih
    by_cases e : q = m
    · subst e
      cases hp : p q with
      | true =>
        refine ⟨q + 1, Nat.le_refl _, fun i hi => ?_, fun h => absurd h (Nat.lt_irrefl _)⟩
        by_cases z : i = q
        · rw [z]; exact hp
        · exact h2 i (by omega)
      | false => exact ⟨q, by omega, h2, fun _ => hp⟩
    · exact ⟨q, by omega, h2, fun _ => h3 (by omega)⟩
def isD (x : Nat) : Bool := decide (48 ≤ x) && decide (x ≤ 57)
def dgI (x : Nat) : Int32 := if isD x = true then nI (x - 48) else -1
theorem isC_256 : ∀ x, x < 256 → isC (nI x) = true := by decide +kernel
theorem dg_256 : ∀ x, x < 256 → (if nI x < 48 then (-1) else (if 57 < nI x then (-1) else nI x - 48)) = dgI x := by decide +kernel
theorem get256 {t : List Nat} (hx : ∀ x ∈ t, x < 256) (i : Nat) : t.getD i 0 < 256 := by
  induction t generalizing i with
  | nil => simp
  | cons a t ih =>
    cases i with
    | zero => simpa using hx a (by simp)
    | succ i => simpa using ih (fun x h => hx x (by simp [h])) i
theorem at_c (N : Nat) {σ : Sg} {t : List Nat} (h : TxC σ t) (hl : t.length ≤ 80) (hx : ∀ x ∈ t, x < 256) {i : Nat} (hi : i < t.length) : X6_at N (nI i) σ = some (nI (t.getD i 0)) := by
  unfold X6_at
  rw [if_neg (nI_pos (by omega)), h.1, if_neg (nI_ge hi (by omega)), inbI (show i < 80 by omega) (by omega), clI (by omega), h.2 i hi, if_pos rfl, isC_256 _ (get256 hx i), if_pos rfl]
theorem dig_c (N : Nat) {σ : Sg} {t : List Nat} (h : TxC σ t) (hl : t.length ≤ 80) (hx : ∀ x ∈ t, x < 256) {i : Nat} (hi : i < t.length) : X6_digitAt N (nI i) σ = some (dgI (t.getD i 0)) := by
  unfold X6_digitAt
  rw [at_c N h hl hx hi, Option.bind_some, ← dg_256 _ (get256 hx i)]
  repeat' split
  all_goals rfl
theorem dgI_pos {x : Nat} (h : isD x = true) : dgI x = nI (x - 48) ∧ x - 48 ≤ 9 ∧ 48 ≤ x := by
  unfold dgI
  rw [if_pos h]
  unfold isD at h
  simp at h
  exact ⟨rfl, by omega, by omega⟩
theorem dgI_neg {x : Nat} (h : isD x = false) : dgI x = -1 := by
  unfold dgI
  rw [h]; simp
theorem min_n (N : Nat) {a b : Nat} (ha : a < 2147483648) (hb1 : b < 2147483648) (σ : Sg) : J9_min_7cf53 N (nI a) (nI b) σ = some (nI (min a b)) := by
  rw [min_b]
  by_cases h : b < a
  · rw [if_pos (nI_lt h (by omega)), Nat.min_eq_right (by omega)]
  · rw [if_neg (nI_nlt (by omega) (by omega)), Nat.min_eq_left (by omega)]
theorem txClear_c (N : Nat) (σ : Sg) : ∃ σ', X6_clear N σ = some σ' ∧ TxC σ' [] ∧ Fr [1] σ σ' := ⟨wi σ 1 1 0, rfl, ⟨by rw [giw, if_pos ⟨rfl, rfl⟩]; rfl, fun i hi => absurd hi (Nat.not_lt_zero _)⟩, (Fr.refl _ _).wi (by simp [pl])⟩
def wdP (t : List Nat) : Nat → Bool := fun i => isD (t.getD i 0)
theorem faultW {N : Nat} (hN : 20 < N) {σ : Sg} {t : List Nat} (h : TxC σ t) (hl : t.length ≤ 80) (hx : ∀ x ∈ t, x < 256) {q : Nat} (q1 : q ≤ min t.length 20) (q2 : ∀ i, i < q → wdP t i = true) (q3 : q < min t.length 20 → wdP t q = false) : X8_faultOfWinds N σ = some (if q < t.length ∨ q = 0 then nI q else -1) := by
  unfold X8_faultOfWinds
  rw [h.1, show (20 : Int32) = nI 20 from rfl, min_n N (by omega) (by omega), Option.bind_some]
  refine forL0 (L := fun m i (_ : Unit) => X8_faultOfWinds_l15 N (fun v1 => X8_faultOfWinds_j39 N v1 σ) σ m (nI (min t.length 20)) (nI i)) (m := q) (a := ()) (fun i _ => i ≤ q) (o := fun x => x = some (if q < t.length ∨ q = 0 then nI q else -1)) (by omega) (by omega) ?_ ?_
  · intro m i a hi hI
    left
    refine ⟨(), by omega, ?_⟩
    rw [X8_faultOfWinds_l15, if_neg (nI_ge (by omega) (by omega)), dig_c N h hl hx (by omega), Option.bind_some, (dgI_pos (q2 i hi)).1, if_pos (nI_pos' (by have := (dgI_pos (q2 i hi)).2.1; omega)), nI1]
  · intro m a _
    by_cases z : q < min t.length 20
    · rw [X8_faultOfWinds_l15, if_neg (nI_ge (by omega) (by omega)), dig_c N h hl hx (by omega), Option.bind_some, dgI_neg (q3 z), if_neg (by decide), if_pos (by omega)]
    · have e : q = min t.length 20 := by omega
      rw [X8_faultOfWinds_l15, if_pos (nI_le (by omega) (by omega)), X8_faultOfWinds_j39, h.1, ← e, show (20 : Int32) = nI 20 from rfl]
      by_cases y : 20 < t.length
      · rw [if_pos (nI_lt y (by omega)), if_pos (by omega)]
      · rw [if_neg (nI_nlt (by omega) (by omega))]
        by_cases u : q = 0
        · rw [u, if_pos (show nI 0 = 0 from rfl), if_pos (Or.inr rfl)]
        · rw [if_neg (nI_ne0 (by omega) (by omega)), if_neg (by omega)]
theorem setW {N : Nat} (hN : 20 < N) {σ : Sg} {t : List Nat} (h : TxC σ t) (h1 : 1 ≤ t.length) (hl : t.length ≤ 20) (hx : ∀ x ∈ t, x < 256) (hd : ∀ i, i < t.length → wdP t i = true) : ∃ σ', X0_setWinds N σ = some σ' ∧ gi σ' 5 8 = nI t.length ∧ (∀ i, i < t.length → gi σ' 17 i = nI (t.getD i 0 - 48)) ∧ Fr [2008, 17] σ σ' := by
  unfold X0_setWinds
  rw [h.1, show (20 : Int32) = nI 20 from rfl, min_n N (by omega) (by omega), Nat.min_eq_left hl, Option.bind_some, max_b, Option.bind_some]
  have e1 : (if (1 : Int32) < nI t.length then nI t.length else 1) = nI t.length := by
    by_cases z : t.length = 1
    · rw [z]; rfl
    · rw [if_pos (show (1 : Int32) < nI t.length from nI_lt (a := 1) (by omega) (by omega))]
  rw [e1]
  simp only [bnS]
  refine forL0 (L := fun m i a => X0_setWinds_l19 N m (nI i) a) (m := t.length) (a := wi σ 5 8 (nI t.length)) (fun i a => Fr [2008, 17] σ a ∧ gi a 5 8 = nI t.length ∧ ∀ j, j < i → gi a 17 j = nI (t.getD j 0 - 48)) (o := fun x => ∃ σ', x = some σ' ∧ gi σ' 5 8 = nI t.length ∧ (∀ i, i < t.length → gi σ' 17 i = nI (t.getD i 0 - 48)) ∧ Fr [2008, 17] σ σ') (by omega) ⟨(Fr.refl _ _).wi (by simp [pl]), by rw [giw, if_pos ⟨rfl, rfl⟩], fun j hj => absurd hj (Nat.not_lt_zero _)⟩ ?_ ?_
  · intro m i a hi hI
    obtain ⟨g0, g1, g2⟩ := hI
    left
    have hd1 := dgI_pos (hd i hi)
    refine ⟨wi a 17 i (nI (t.getD i 0 - 48)), ⟨g0.wi (by simp [pl]), by rw [gi_wi_ne (by omega)]; exact g1, fun j hj => ?_⟩, ?_⟩
    · rw [giw]
      by_cases z : j = i
      · rw [if_pos ⟨rfl, z⟩, z]
      · rw [if_neg (fun y => z y.2)]; exact g2 j (by omega)
    · rw [X0_setWinds_l19, g1, if_neg (nI_ge hi (by omega)), dig_c N (h.fr g0 (by decide)) (by omega) hx hi, Option.bind_some, max_b, Option.bind_some, hd1.1, inbI (show i < 20 by omega) (by omega), if_pos rfl, clI (by omega), nI1]
      have e : (if (0 : Int32) < nI (t.getD i 0 - 48) then nI (t.getD i 0 - 48) else 0) = nI (t.getD i 0 - 48) := by
        by_cases y : t.getD i 0 - 48 = 0
        · rw [y]; rfl
        · rw [if_pos (show (0 : Int32) < nI (t.getD i 0 - 48) from nI_lt (a := 0) (by omega) (by omega))]
      rw [e]; rfl
  · intro m a hI
    obtain ⟨g0, g1, g2⟩ := hI
    exact ⟨a, by rw [X0_setWinds_l19, g1, if_pos (nI_le (Nat.le_refl _) (by omega))], g1, g2, g0⟩
/-- the reader of the reference: it stands at place q of a text of m signs -/
def RdR (σ : Sg) (t : List Nat) (m q : Nat) : Prop := gi σ 149 12 = nI q ∧ gi σ 149 13 = nI m ∧ m ≤ t.length ∧ ∀ i, i < t.length → gi σ 155 i = nI (t.getD i 0)
def rdL : List Nat := [3000, 3011, 3012, 3013, 3014]
theorem begins_r (N : Nat) {σ : Sg} {t : List Nat} (h : TxR σ t) (hl : t.length ≤ 80) {b : Nat} (hb1 : b ≤ 80) : ∃ σ', X9_begins N (nI b) (wi σ 149 0 0) = some (nI t.length, σ') ∧ RdR σ' t (min t.length b) 0 ∧ gi σ' 149 11 = nI 0 ∧ gi σ' 149 14 = 0 ∧ Fr rdL σ σ' := by
  have e : gi (wi σ 149 0 0) 149 11 = nI t.length := by rw [giw, if_neg (by omega)]; exact h.1
  unfold X9_begins
  rw [e]
  simp only [bnS]
  rw [min_n N (by omega) (by omega), Option.bind_some]
  refine ⟨_, rfl, ⟨?_, ?_, by omega, fun i hi => ?_⟩, ?_, ?_, ?_⟩
  · rw [giw, if_neg (by omega), giw, if_neg (by omega), giw, if_pos ⟨rfl, rfl⟩]; rfl
  · rw [giw, if_pos ⟨rfl, rfl⟩]
  · rw [giw, if_neg (by omega), giw, if_neg (by omega), giw, if_neg (by omega), giw, if_neg (by omega), giw, if_neg (by omega)]; exact h.2 i hi
  · rw [giw, if_neg (by omega), giw, if_neg (by omega), giw, if_neg (by omega), giw, if_pos ⟨rfl, rfl⟩]; rfl
  · rw [giw, if_neg (by omega), giw, if_pos ⟨rfl, rfl⟩]
  · exact (((((Fr.refl _ _).wi (by decide)).wi (by decide)).wi (by decide)).wi (by decide)).wi (by decide)
theorem in_256 : ∀ x, x < 256 → ((nI x < 48 ∨ 57 < nI x) ↔ isD x = false) := by decide +kernel
theorem in_256' : ∀ x, x < 256 → ((48 ≤ nI x ∧ nI x ≤ 57) ↔ isD x = true) := by decide +kernel
theorem isDigit_r (N : Nat) {σ : Sg} {t : List Nat} {m q : Nat} (h : RdR σ t m q) (hl : t.length ≤ 80) (hx : ∀ x ∈ t, x < 256) (hq : q < 2147483648) : X9_isDigit N σ = some (if q < m ∧ wdP t q = true then 1 else 0) := by
  obtain ⟨h1, h2, h3, h4⟩ := h
  unfold X9_isDigit
  rw [h1, h2]
  by_cases z : q < m
  · rw [if_neg (nI_ge z (by omega)), inbI (show q < 80 by omega) (by omega), if_pos rfl, clI (by omega), h4 q (by omega)]
    cases hd : wdP t q with
    | true =>
      have := (in_256' _ (get256 hx q)).mpr hd
      rw [show (48 : Int64) = (48 : Int32).toInt64 from rfl, show (57 : Int64) = (57 : Int32).toInt64 from rfl, in_t N this.1 this.2, Option.bind_some, if_neg oneF, if_pos ⟨z, rfl⟩]
    | false =>
      have := (in_256 _ (get256 hx q)).mpr hd
      rw [show (48 : Int64) = (48 : Int32).toInt64 from rfl, show (57 : Int64) = (57 : Int32).toInt64 from rfl, in_f N this, Option.bind_some, if_pos rfl, if_neg (by simp)]
  · rw [if_pos (nI_le (by omega) (by omega)), if_neg (fun y => z y.1)]
theorem RdR.fr {l : List Nat} {σ σ' : Sg} {t : List Nat} {m q : Nat} (h : RdR σ t m q) (f : Fr l σ σ') (hl : ∀ x ∈ [3012, 3013, 155], x ∉ l) : RdR σ' t m q := by
  obtain ⟨h1, h2, h3, h4⟩ := h
  refine ⟨(f.g (k := 149) (j := 12) (hl 3012 (by simp))).trans h1, (f.g (k := 149) (j := 13) (hl 3013 (by simp))).trans h2, h3, fun i hi => (f.g (k := 155) (j := i) (hl 155 (by simp))).trans (h4 i hi)⟩
theorem RdR.next {σ : Sg} {t : List Nat} {m q : Nat} (h : RdR σ t m q) : RdR (wi σ 149 12 (nI q + 1)) t m (q + 1) := by
  obtain ⟨h1, h2, h3, h4⟩ := h
  refine ⟨by rw [giw, if_pos ⟨rfl, rfl⟩, nI1], by rw [giw, if_neg (by omega)]; exact h2, h3, fun i hi => by rw [gi_wi_ne (by omega)]; exact h4 i hi⟩
theorem dg_sub {x : Nat} (h : isD x = true) : 10 * (0 : Int32) + nI x - 48 = nI (x - 48) := by
  unfold isD at h
  simp at h
  rw [show (10 * (0 : Int32)) = nI 0 from rfl, nI_add, show (48 : Int32) = nI 48 from rfl, pk_sub (by omega)]
  congr 1; omega
theorem number1_r {N : Nat} (hN : 2 < N) {σ : Sg} {t : List Nat} {m q : Nat} (h : RdR σ t m q) (hl : t.length ≤ 80) (hx : ∀ x ∈ t, x < 256) (hq : q < m) (hd : wdP t q = true) : X9_number N 1 σ = some (nI (t.getD q 0 - 48), wi σ 149 12 (nI q + 1)) := by
  obtain ⟨k, rfl⟩ : ∃ k, N = k + 2 := ⟨N - 2, by omega⟩
  have h3 := h.2.2.1
  unfold X9_number
  rw [isDigit_r _ h hl hx (by omega), if_pos ⟨hq, hd⟩, Option.bind_some, if_neg oneF, X9_number_l13, if_neg (by decide), isDigit_r _ h hl hx (by omega), if_pos ⟨hq, hd⟩, Option.bind_some, if_neg oneF, h.1, inbI (show q < 80 by omega) (by omega), if_pos rfl, clI (by omega), h.2.2.2 q (by omega), dg_sub hd]
  simp only [bnS]
  rw [X9_number_l13, if_pos (by decide)]
theorem winds_l14 {N : Nat} (hN : 20 < N) {σ : Sg} {t : List Nat} (h : RdR σ t t.length 0) (hl : t.length ≤ 80) (hx : ∀ x ∈ t, x < 256) {q : Nat} (q1 : q ≤ min t.length 20) (q2 : ∀ i, i < q → wdP t i = true) (q3 : q < min t.length 20 → wdP t q = false) (K : Int32 → Sg → Option (Int32 × Sg)) : ∃ σ', X9_winds_l14 N K N 0 σ = K (nI q) σ' ∧ RdR σ' t t.length q ∧ (∀ i, i < q → gi σ' 156 i = nI (t.getD i 0 - 48)) ∧ Fr [3012, 156] σ σ' := by
  refine forL0 (L := fun m i a => X9_winds_l14 N K m (nI i) a) (m := q) (a := σ) (fun i a => RdR a t t.length i ∧ (∀ j, j < i → gi a 156 j = nI (t.getD j 0 - 48)) ∧ Fr [3012, 156] σ a) (o := fun x => ∃ σ', x = K (nI q) σ' ∧ RdR σ' t t.length q ∧ (∀ i, i < q → gi σ' 156 i = nI (t.getD i 0 - 48)) ∧ Fr [3012, 156] σ σ') (by omega) ⟨h, fun j hj => absurd hj (Nat.not_lt_zero _), Fr.refl _ _⟩ ?_ ?_
  · intro m i a hi hI
    obtain ⟨g0, g1, g2⟩ := hI
    left
    refine ⟨wi (wi a 149 12 (nI i + 1)) 156 i (nI (t.getD i 0 - 48)), ⟨g0.next.fr (l := [156]) ((Fr.refl _ _).wi (by simp [pl])) (by decide), fun j hj => ?_, (g2.wi (by simp [pl])).wi (by simp [pl])⟩, ?_⟩
    · rw [giw]
      by_cases z : j = i
      · rw [if_pos ⟨rfl, z⟩, z]
      · rw [if_neg (fun y => z y.2), gi_wi_ne (by omega)]; exact g1 j (by omega)
    · rw [X9_winds_l14, if_neg (show ¬ (20 : Int32) ≤ nI i from nI_ge (b := 20) (by omega) (by decide)), isDigit_r N g0 hl hx (by omega), if_pos ⟨by omega, q2 i hi⟩, Option.bind_some, if_neg oneF, number1_r (by omega) g0 hl hx (by omega) (q2 i hi), Option.bind_some, inbI (show i < 48 by omega) (by omega), if_pos rfl, clI (by omega), nI1]
      rfl
  · intro m a hI
    obtain ⟨g0, g1, g2⟩ := hI
    refine ⟨a, ?_, g0, g1, g2⟩
    by_cases z : q = 20
    · subst z
      rw [X9_winds_l14, if_pos (by decide)]
    · rw [X9_winds_l14, if_neg (show ¬ (20 : Int32) ≤ nI q from nI_ge (b := 20) (by omega) (by decide)), isDigit_r N g0 hl hx (by omega), if_neg, Option.bind_some, if_pos rfl]
      intro y
      have := q3 (by omega)
      rw [y.2] at this
      exact Bool.noConfusion this
theorem winds_l73 {N : Nat} (hN : 20 < N) {σ : Sg} {q : Nat} (hq : q ≤ 20) : ∃ σ', X9_winds_l73 N N (nI q) 0 σ = some (nI q, σ') ∧ (∀ i, i < q → gi σ' 152 i = gi σ 156 i) ∧ Fr [152] σ σ' := by
  refine forL0 (L := fun m i a => X9_winds_l73 N m (nI q) (nI i) a) (m := q) (a := σ) (fun i a => (∀ j, j < i → gi a 152 j = gi σ 156 j) ∧ Fr [152] σ a) (o := fun x => ∃ σ', x = some (nI q, σ') ∧ (∀ i, i < q → gi σ' 152 i = gi σ 156 i) ∧ Fr [152] σ σ') (by omega) ⟨fun j hj => absurd hj (Nat.not_lt_zero _), Fr.refl _ _⟩ ?_ ?_
  · intro m i a hi hI
    obtain ⟨g1, g2⟩ := hI
    left
    refine ⟨wi a 152 i (gi σ 156 i), ⟨fun j hj => ?_, g2.wi (by simp [pl])⟩, ?_⟩
    · rw [giw]
      by_cases z : j = i
      · rw [if_pos ⟨rfl, z⟩, z]
      · rw [if_neg (fun y => z y.2)]; exact g1 j (by omega)
    · rw [X9_winds_l73, if_neg (nI_ge hi (by omega)), inbI (show i < 48 by omega) (by omega), if_pos rfl, inbI (show i < 20 by omega) (by omega), if_pos rfl, clI (by omega), g2.g (k := 156) (by simp [pl]), nI1]
      rfl
  · intro m a hI
    obtain ⟨g1, g2⟩ := hI
    exact ⟨a, by rw [X9_winds_l73, if_pos (nI_le (Nat.le_refl _) (by omega))], g1, g2⟩
theorem winds_op {N : Nat} (hN : 555 < N) {H : Nat} {A : Ab} (hA : OkA H A) : OpB (X8_winds N) (X9_winds N) H A := by
  obtain ⟨L, now, t, to, p, s, w⟩ := A
  obtain ⟨k1, ⟨k2, k2'⟩, k3, ⟨k4, k4'⟩, k5, k6⟩ := hA
  dsimp only at k1 k2 k2' k3 k4 k4' k5 k6
  obtain ⟨q, q1, q2, q3⟩ := upto_p (wdP t) (min t.length 20)
  by_cases hbad : q < t.length ∨ q = 0
  · refine ⟨-1 - nI q, (L, now, [], to, p, s, w), ?_, ?_, k1.mono (by omega), ⟨by simp, by simp⟩, k3, ⟨k4, fun q hq => (k4' q hq).mono (by omega)⟩, fun i r hi hr => (k5 i r hi hr).mono (by omega), k6⟩
    · rintro σ ⟨c1, c2, c3, c4, c5, c6, c7⟩
      dsimp only at c1 c2 c3 c4 c5 c6 c7
      obtain ⟨σ1, a1, a2, a3⟩ := txClear_c N σ
      refine ⟨σ1, ?_, ⟨c1.fr a3 (by decide), (a3.row19 (by decide)).trans c2, a2, c4.fr a3 (by decide), c5.fr a3 (by decide +kernel), c6.fr a3 (by decide +kernel), c7.fr a3 (by decide)⟩, fun B hB => hB.fr a3 (by decide)⟩
      unfold X8_winds
      rw [faultW (by omega) c3 k2 k2' q1 q2 q3, if_pos hbad, Option.bind_some, if_neg (by rw [show (-1 : Int32) = -1 from rfl]; intro z; have := nI_pos (n := q) (by omega); rw [z] at this; exact this (by decide)), X8_winds_j29, a1, Option.bind_some, if_neg (by intro z; have := nI_pos (n := q) (by omega); rw [z] at this; exact this (by decide))]
    · rintro σ ⟨c1, c2, c3, c4, c5, c6, c7⟩
      dsimp only at c1 c2 c3 c4 c5 c6 c7
      obtain ⟨σ1, a1, a2, a3, a4, a5⟩ := begins_r N c3 k2 (b := 80) (by omega)
      rw [Nat.min_eq_left k2] at a2
      obtain ⟨σ2, b1, b2, b3, b4⟩ := winds_l14 (N := N) (by omega) a2 k2 k2' q1 q2 q3 (fun v1 σ => X9_winds_j44 N v1 σ)
      have f : Fr (rdL ++ [156]) σ σ2 := (a5.mono (by decide)).trans (b4.mono (by decide))
      refine ⟨σ2, ?_, ⟨c1.fr f (by decide), (rR_congr (f.r (by simp [pl, rdL]))).trans c2, ⟨?_, fun i hi => absurd hi (Nat.not_lt_zero _)⟩, c4.fr f (by decide), c5.fr f (by decide), c6.fr f (by decide), c7.fr f (by decide)⟩, fun B hB => hB.fr f (by decide +kernel)⟩
      · unfold X9_winds
        simp only [bnS]
        rw [show (80 : Int32) = nI 80 from rfl, a1, Option.bind_some, b1, X9_winds_j44, b2.1, b2.2.1]
        by_cases z : q = 0
        · rw [z, if_pos (show nI 0 = 0 from rfl)]
        · rw [if_neg (nI_ne0 (by omega) (by omega)), if_neg (nI_ge (by omega) (by omega))]
      · exact (b4.g (k := 149) (j := 11) (by decide)).trans a3
  · have e1 : q = t.length := by omega
    subst e1
    have hlen : 1 ≤ t.length ∧ t.length ≤ 20 := by omega
    refine ⟨nI t.length, ((L.1, L.2.1, fun i => nI (t.getD i 0 - 48), t.length, L.2.2.2.2), now, [], to, p, s, w), ?_, ?_, k1.mono (by omega), ⟨by simp, by simp⟩, k3, ⟨k4, fun q hq => (k4' q hq).mono (by omega)⟩, fun i r hi hr => (k5 i r hi hr).mono (by omega), k6⟩
    · rintro σ ⟨c1, c2, c3, c4, c5, c6, c7⟩
      dsimp only at c1 c2 c3 c4 c5 c6 c7
      obtain ⟨σ0, d1, d2, d3, d4⟩ := setW (N := N) (by omega) c3 hlen.1 hlen.2 k2' q2
      obtain ⟨σ1, a1, a2, a3⟩ := txClear_c N σ0
      have f : Fr [2008, 17, 1] σ σ1 := (d4.mono (by decide)).trans (a3.mono (by decide))
      refine ⟨σ1, ?_, ⟨?_, (f.row19 (by decide)).trans c2, a2, c4.fr f (by decide), c5.fr f (by decide +kernel), c6.fr f (by decide +kernel), c7.fr f (by decide)⟩, fun B hB => hB.fr f (by decide)⟩
      · unfold X8_winds
        rw [faultW (by omega) c3 k2 k2' q1 q2 q3, if_neg hbad, Option.bind_some, if_pos rfl, d1, Option.bind_some, X8_winds_j29, a1, Option.bind_some, if_pos rfl, c3.1]
      · obtain ⟨kk, e2, e3, l1, l2, l3, l4, l5, l6, l7, l8, l9, l10⟩ := c1
        have f' : Fr [2008, 17, 1] σ σ1 := f
        refine ⟨kk, (f.g (k := 5) (j := 2) (by decide)).trans e2, (f.g (k := 5) (j := 3) (by decide)).trans e3, (f.g (k := 5) (j := 1) (by decide)).trans l1, l2, fun i hi => (f.g (k := 6) (by simp [pl])).trans (l3 i hi), (a3.g (k := 5) (j := 8) (by decide)).trans d2, hlen.1, hlen.2, fun i hi => (a3.g (k := 17) (by simp [pl])).trans (d3 i hi), ⟨?_, fun i hi => ?_⟩, l9, l10⟩
        · rcases l10 with z | z <;> subst z
          · exact (f.g (k := 7) (j := 3) (by decide)).trans l8.1
          · exact (f.g (k := 11) (j := 3) (by decide)).trans l8.1
        · rcases l10 with z | z <;> subst z
          · exact (f.g (k := 7 + 1) (by simp [pl])).trans (l8.2 i hi)
          · exact (f.g (k := 11 + 1) (by simp [pl])).trans (l8.2 i hi)
    · rintro σ ⟨c1, c2, c3, c4, c5, c6, c7⟩
      dsimp only at c1 c2 c3 c4 c5 c6 c7
      obtain ⟨σ1, a1, a2, a3, a4, a5⟩ := begins_r N c3 k2 (b := 80) (by omega)
      rw [Nat.min_eq_left k2] at a2
      obtain ⟨σ2, b1, b2, b3, b4⟩ := winds_l14 (N := N) (by omega) a2 k2 k2' q1 q2 q3 (fun v1 σ => X9_winds_j44 N v1 σ)
      obtain ⟨σ3, d1, d2, d3⟩ := winds_l73 (N := N) (by omega) (σ := wi σ2 149 5 (nI t.length)) (q := t.length) hlen.2
      have f3 : Fr [3005, 152] σ2 σ3 := ((Fr.refl _ _).wi (by decide)).trans (d3.mono (by decide))
      have f : Fr (rdL ++ [156, 3005, 152]) σ σ3 := ((a5.mono (by decide)).trans (b4.mono (by decide))).trans (f3.mono (by decide))
      refine ⟨σ3, ?_, ⟨?_, (rR_congr (f.r (by simp [pl, rdL]))).trans c2, ⟨?_, fun i hi => absurd hi (Nat.not_lt_zero _)⟩, c4.fr f (by decide), c5.fr f (by decide), c6.fr f (by decide), c7.fr f (by decide)⟩, fun B hB => hB.fr f (by decide +kernel)⟩
      · unfold X9_winds
        simp only [bnS]
        rw [show (80 : Int32) = nI 80 from rfl, a1, Option.bind_some, b1, X9_winds_j44, b2.1, b2.2.1, if_neg (nI_ne0 (by omega) (by omega)), if_pos (nI_le (Nat.le_refl _) (by omega))]
        exact d1
      · obtain ⟨l1, l2, l3, l4, l5, l6, l7, l8, l9⟩ := c1
        refine ⟨(f.g (k := 149) (j := 3) (by decide)).trans l1, l2, fun i hi => (f.g (k := 151) (by simp [pl, rdL])).trans (l3 i hi), ?_, hlen.1, hlen.2, fun i hi => ?_, ?_, l9⟩
        · rw [d3.g (k := 149) (j := 5) (by decide), giw, if_pos ⟨rfl, rfl⟩]
        · rw [d2 i hi, gi_wi_ne (by omega)]; exact b3 i hi
        · rcases l8 with ⟨z1, z2, z3⟩ | ⟨z1, z2, z3⟩
          · exact Or.inl ⟨(f.g (k := 149) (j := 19) (by decide)).trans z1, z2, fun i hi => (f.g (k := 157) (by simp [pl, rdL])).trans (z3 i hi)⟩
          · exact Or.inr ⟨(f.g (k := 149) (j := 19) (by decide)).trans z1, z2, z3⟩
      · exact (f3.g (k := 149) (j := 11) (by decide)).trans ((b4.g (k := 149) (j := 11) (by decide)).trans a3)
