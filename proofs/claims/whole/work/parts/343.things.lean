/-! ===== things ===== -/
theorem digitIn_no (N : Nat) {σ : Sg} {t : List Nat} {m q : Nat} (h : RdR σ t m q) (hl : t.length ≤ 80) (hq : q < 2147483648) {lo hi : Int32} (hn : q < m → (nI (t.getD q 0) - 48 < lo ∨ hi < nI (t.getD q 0) - 48)) : X9_digitIn N lo hi σ = some (-1, σ) := by
  obtain ⟨h1, h2, h3, h4⟩ := h
  unfold X9_digitIn
  rw [h1, h2]
  by_cases z : q < m
  · rw [if_neg (nI_ge z (by omega)), inbI (show q < 80 by omega) (by omega), if_pos rfl, clI (by omega), h4 q (by omega), in_f N (hn z), Option.bind_some, if_pos rfl]
  · rw [if_pos (nI_le (by omega) (by omega))]
theorem digitIn_yes (N : Nat) {σ : Sg} {t : List Nat} {m q : Nat} (h : RdR σ t m q) (hl : t.length ≤ 80) {lo hi : Int32} (hq : q < m) (h1 : lo ≤ nI (t.getD q 0) - 48) (h2 : nI (t.getD q 0) - 48 ≤ hi) : X9_digitIn N lo hi σ = some (nI (t.getD q 0) - 48, wi σ 149 12 (nI q + 1)) := by
  obtain ⟨g1, g2, g3, g4⟩ := h
  unfold X9_digitIn
  rw [g1, g2, if_neg (nI_ge hq (by omega)), inbI (show q < 80 by omega) (by omega), if_pos rfl, clI (by omega), g4 q (by omega), in_t N h1 h2, Option.bind_some, if_neg oneF]
  simp only [bnS]
  have e : gi (wi σ 149 12 (nI q + 1)) 149 12 - 1 = nI q := by rw [giw, if_pos ⟨rfl, rfl⟩, nI1, nI_pred]
  rw [e, inbI (show q < 80 by omega) (by omega), if_pos rfl, clI (by omega), gi_wi_ne (by omega), g4 q (by omega)]
theorem takes_yes (N : Nat) {σ : Sg} {t : List Nat} {m q : Nat} (h : RdR σ t m q) (hl : t.length ≤ 80) {v : Int32} (hq : q < m) (h1 : nI (t.getD q 0) = v) : X9_takes N v σ = some (1, wi σ 149 12 (nI q + 1)) := by
  obtain ⟨g1, g2, g3, g4⟩ := h
  unfold X9_takes
  rw [g1, g2, if_neg (nI_ge hq (by omega)), inbI (show q < 80 by omega) (by omega), if_pos rfl, clI (by omega), g4 q (by omega), if_pos h1, X9_takes_j29, g1]
  rfl
theorem takes_no (N : Nat) {σ : Sg} {t : List Nat} {m q : Nat} (h : RdR σ t m q) (hl : t.length ≤ 80) (hq : q < 2147483648) {v : Int32} (h1 : q < m → ¬ nI (t.getD q 0) = v) : X9_takes N v σ = some (0, wi σ 149 12 (nI q + 0)) ∧ RdR (wi σ 149 12 (nI q + 0)) t m q := by
  have h0 := h
  obtain ⟨g1, g2, g3, g4⟩ := h
  constructor
  · unfold X9_takes
    rw [g1, g2]
    by_cases z : q < m
    · rw [if_neg (nI_ge z (by omega)), inbI (show q < 80 by omega) (by omega), if_pos rfl, clI (by omega), g4 q (by omega), if_neg (h1 z), X9_takes_j29, g1]
      rfl
    · rw [if_pos (nI_le (by omega) (by omega)), X9_takes_j29, g1]
      rfl
  · refine ⟨by rw [giw, if_pos ⟨rfl, rfl⟩]; exact nI_add q 0, by rw [giw, if_neg (by omega)]; exact g2, g3, fun i hi => by rw [gi_wi_ne (by omega)]; exact g4 i hi⟩
theorem faultOf_r (N : Nat) {σ : Sg} {t : List Nat} {m q : Nat} (h : RdR σ t m q) {b : Nat} (hb1 : b ≤ 80) (hm : m = min t.length b) (hl : t.length ≤ 80) (hq : q ≤ m) {v : Int32} {ok : Bool} (hv : v = 1 ∨ v = 0) (hok : ok = true ↔ v = 1 ∧ q = t.length ∧ t.length ≤ b) (h0 : v = 0 → q = b → t.length ≤ b) : X9_faultOf N (nI t.length) (nI b) v σ = some (if ok = true then 0 else -1 - nI q) := by
  obtain ⟨g1, g2, g3, g4⟩ := h
  unfold X9_faultOf
  have J : ∀ s0 : Int32, X9_faultOf_j44 N s0 σ = if s0 = 0 then some (-1 - nI q) else some 0 := fun s0 => by rw [X9_faultOf_j44, g1]
  rcases hv with z | z
  · rw [g1, g2, z, if_neg oneF]
    by_cases y : q = m
    · rw [if_pos (by rw [y]), X9_faultOf_j20, J, if_neg oneF]
      by_cases x : t.length ≤ b
      · rw [if_pos (nI_le x (by omega)), if_pos (hok.mpr ⟨z, by omega, x⟩)]
      · rw [if_neg (nI_ge (by omega) (by omega)), if_neg oneF, if_neg (show ¬ ok = true from fun u => x (hok.mp u).2.2), show q = b by omega]
    · rw [if_neg (fun u => y ((nI_eq (by omega) (by omega)).mp u)), if_neg (show ¬ ok = true from fun u => by have := (hok.mp u).2; omega), X9_faultOf_j20, J, if_pos rfl]
      by_cases x : t.length ≤ b
      · rw [if_pos (nI_le x (by omega))]
      · rw [if_neg (nI_ge (by omega) (by omega)), if_pos rfl, g1, if_pos (nI_lt (by omega) (by omega))]
  · have hno : ¬ ok = true := fun u => by have := (hok.mp u).1; rw [z] at this; exact absurd this (by decide)
    rw [z, if_pos rfl, if_neg hno, X9_faultOf_j20, J, if_pos rfl]
    by_cases x : t.length ≤ b
    · rw [if_pos (nI_le x (by omega))]
    · rw [if_neg (nI_ge (by omega) (by omega)), if_pos rfl, g1, if_pos (nI_lt (by have := h0 z; omega) (by omega))]
def thP (t : List Nat) (n : Nat) : Nat → Bool := fun i => if i % 2 = 1 then decide (t.getD i 0 = 59) else decide (49 ≤ t.getD i 0) && decide (t.getD i 0 ≤ 57) && decide (n + i / 2 < 8)
theorem dg_1 : ∀ x, x < 256 → (dgI x ≤ 0 ↔ ¬ (49 ≤ x ∧ x ≤ 57)) := by decide +kernel
theorem e59 : ∀ x, x < 256 → (nI x = 59 ↔ x = 59) := by decide +kernel
theorem dgI_1 {x : Nat} (h : 49 ≤ x ∧ x ≤ 57) : dgI x = nI (x - 48) := by
  unfold dgI isD
  rw [if_pos (by simp; omega)]
theorem faultT {N : Nat} (hN : 20 < N) {σ : Sg} {t : List Nat} (h : TxC σ t) (hl : t.length ≤ 80) (hx : ∀ x ∈ t, x < 256) {n : Nat} (hn : gi σ 5 1 = nI n) (hn8 : n ≤ 8) {q : Nat} (q1 : q ≤ min t.length 15) (q2 : ∀ i, i < q → thP t n i = true) (q3 : q < min t.length 15 → thP t n q = false) : X8_faultOfThings N σ = some (if q < t.length ∨ (0 < q ∧ q % 2 = 0) then nI q else -1) := by
  unfold X8_faultOfThings
  rw [h.1, show (15 : Int32) = nI 15 from rfl, min_n N (by omega) (by omega), Option.bind_some]
  have step : ∀ m i, i < min t.length 15 → X8_faultOfThings_l15 N (fun v1 => X8_faultOfThings_j94 N v1 σ) σ (m + 1) (nI (min t.length 15)) (nI i) = if thP t n i = true then X8_faultOfThings_l15 N (fun v1 => X8_faultOfThings_j94 N v1 σ) σ m (nI (min t.length 15)) (nI (i + 1)) else some (nI i) := by
    intro m i hi
    rw [X8_faultOfThings_l15, if_neg (nI_ge hi (by omega)), show (2 : Int32) = nI 2 from rfl, pk_rem (by omega) (by omega) (by omega), pk_div (by omega) (by omega) (by omega), hn, nI_add]
    unfold thP X8_faultOfThings_j82
    by_cases z : i % 2 = 1
    · rw [z, if_pos (show nI 1 = 1 from rfl), if_pos (show (1 : Nat) = 1 from rfl), at_c N h hl hx (by omega), Option.bind_some]
      by_cases y : t.getD i 0 = 59
      · rw [if_pos ((e59 _ (get256 hx i)).mpr y), if_neg oneF, if_pos (decide_eq_true y), nI1]
      · rw [if_neg (fun u => y ((e59 _ (get256 hx i)).mp u)), if_pos rfl, if_neg (by rw [decide_eq_true_eq]; exact y)]
    · rw [show i % 2 = 0 by omega, if_neg (show ¬ nI 0 = 1 by decide), if_neg (show ¬ (0 : Nat) = 1 by decide), dig_c N h hl hx (by omega), Option.bind_some]
      by_cases y : 49 ≤ t.getD i 0 ∧ t.getD i 0 ≤ 57
      · rw [if_neg (fun u => ((dg_1 _ (get256 hx i)).mp u) y)]
        by_cases x : n + i / 2 < 8
        · rw [if_neg (show ¬ (8 : Int32) ≤ nI (n + i / 2) from nI_ge (b := 8) x (by decide)), if_neg oneF, if_pos (by simp only [Bool.and_eq_true, decide_eq_true_eq]; exact ⟨y, x⟩), nI1]
        · rw [if_pos (show (8 : Int32) ≤ nI (n + i / 2) from nI_le (a := 8) (by omega) (by omega)), if_pos rfl, if_neg (by simp only [Bool.and_eq_true, decide_eq_true_eq]; omega)]
      · rw [if_pos ((dg_1 _ (get256 hx i)).mpr y), if_pos rfl, if_neg (by simp only [Bool.and_eq_true, decide_eq_true_eq]; omega)]
  refine forL0 (L := fun m i (_ : Unit) => X8_faultOfThings_l15 N (fun v1 => X8_faultOfThings_j94 N v1 σ) σ m (nI (min t.length 15)) (nI i)) (m := q) (a := ()) (fun i _ => i ≤ q) (o := fun x => x = some (if q < t.length ∨ (0 < q ∧ q % 2 = 0) then nI q else -1)) (by omega) (by omega) ?_ ?_
  · intro m i a hi hI
    left
    refine ⟨(), by omega, ?_⟩
    rw [step m i (by omega), q2 i hi, if_pos rfl]
  · intro m a _
    by_cases z : q < min t.length 15
    · rw [step m q z, q3 z, if_neg (by decide), if_pos (by omega)]
    · have e : q = min t.length 15 := by omega
      rw [X8_faultOfThings_l15, if_pos (nI_le (by omega) (by omega)), X8_faultOfThings_j94, h.1, ← e, show (15 : Int32) = nI 15 from rfl]
      by_cases y : 15 < t.length
      · rw [if_pos (nI_lt y (by omega)), if_pos (by omega)]
      · rw [if_neg (nI_nlt (by omega) (by omega))]
        by_cases u : q = 0
        · rw [u, if_pos (show nI 0 ≤ 0 by decide), if_neg (by omega)]
        · rw [if_neg (nI_nle (by omega) (by omega)), show (2 : Int32) = nI 2 from rfl, pk_rem (by omega) (by omega) (by omega)]
          by_cases x : q % 2 = 0
          · rw [x, if_pos (show nI 0 = 0 from rfl), if_pos (by omega)]
          · rw [if_neg (nI_ne0 (by omega) (by omega)), if_neg (by omega)]
theorem addThings_c {N : Nat} (hN : 20 < N) {σ : Sg} {t : List Nat} (h : TxC σ t) (hl : t.length ≤ 80) (hx : ∀ x ∈ t, x < 256) {n : Nat} (hn : gi σ 5 1 = nI n) {c : Nat} (hc : 2 * c ≤ t.length + 1) (hn8 : n + c ≤ 8) (hd : ∀ i, i < c → 49 ≤ t.getD (2 * i) 0 ∧ t.getD (2 * i) 0 ≤ 57) (v : Int32) (K : Int32 → Int32 → Sg → Option (Int32 × Sg)) : ∃ σ', X8_things_l28 N K N v (nI c) 0 σ = K v (nI c) σ' ∧ gi σ' 5 1 = nI (n + c) ∧ (∀ i, i < n → gi σ' 6 i = gi σ 6 i) ∧ (∀ i, i < c → gi σ' 6 (n + i) = nI (t.getD (2 * i) 0 - 48)) ∧ Fr [2001, 6] σ σ' := by
  refine forL0 (L := fun m i a => X8_things_l28 N K m v (nI c) (nI i) a) (m := c) (a := σ) (fun i a => gi a 5 1 = nI (n + i) ∧ (∀ j, j < n → gi a 6 j = gi σ 6 j) ∧ (∀ j, j < i → gi a 6 (n + j) = nI (t.getD (2 * j) 0 - 48)) ∧ Fr [2001, 6] σ a) (o := fun x => ∃ σ', x = K v (nI c) σ' ∧ gi σ' 5 1 = nI (n + c) ∧ (∀ i, i < n → gi σ' 6 i = gi σ 6 i) ∧ (∀ i, i < c → gi σ' 6 (n + i) = nI (t.getD (2 * i) 0 - 48)) ∧ Fr [2001, 6] σ σ') (by omega) ⟨hn, fun j _ => rfl, fun j hj => absurd hj (Nat.not_lt_zero _), Fr.refl _ _⟩ ?_ ?_
  · intro m i a hi hI
    obtain ⟨g1, g2, g3, g4⟩ := hI
    left
    refine ⟨wi (wi a 6 (n + i) (nI (t.getD (2 * i) 0 - 48))) 5 1 (nI (n + i) + 1), ⟨by rw [giw, if_pos ⟨rfl, rfl⟩, nI1]; rfl, fun j hj => ?_, fun j hj => ?_, (g4.wi (by simp [pl])).wi (by simp [pl])⟩, ?_⟩
    · rw [gi_wi_ne (by omega), giw, if_neg (by omega)]; exact g2 j hj
    · rw [gi_wi_ne (by omega), giw]
      by_cases z : j = i
      · rw [if_pos ⟨rfl, by omega⟩, z]
      · rw [if_neg (by omega)]; exact g3 j (by omega)
    · rw [X8_things_l28, if_neg (nI_ge hi (by omega)), show (2 : Int32) = nI 2 from rfl, pk_mul, dig_c N (h.fr g4 (by decide)) hl hx (by omega), Option.bind_some, dgI_1 (hd i hi), X0_addThing, g1, if_neg (show ¬ (8 : Int32) ≤ nI (n + i) from nI_ge (b := 8) (by omega) (by decide)), inbI (show n + i < 8 by omega) (by omega), if_pos rfl, clI (by omega), nI1]
      simp only [bnS, Option.bind_some]
      rw [gi_wi_ne (show (5 : Nat) ≠ 6 by omega), g1]
  · intro m a hI
    obtain ⟨g1, g2, g3, g4⟩ := hI
    exact ⟨a, by rw [X8_things_l28, if_pos (nI_le (Nat.le_refl _) (by omega))], g1, g2, g3, g4⟩
theorem dg_in : ∀ x, x < 256 → 49 ≤ x ∧ x ≤ 57 → 1 ≤ nI x - 48 ∧ nI x - 48 ≤ 9 ∧ nI x - 48 = nI (x - 48) ∧ ¬ nI x - 48 ≤ 0 := by decide +kernel
theorem dg_out : ∀ x, x < 256 → ¬ (49 ≤ x ∧ x ≤ 57) → (nI x - 48 < 1 ∨ 9 < nI x - 48) := by decide +kernel
theorem thP_0 {t : List Nat} {n c : Nat} (h : thP t n (2 * c) = true) : (49 ≤ t.getD (2 * c) 0 ∧ t.getD (2 * c) 0 ≤ 57) ∧ n + c < 8 := by
  unfold thP at h
  rw [if_neg (by omega)] at h
  simp only [Bool.and_eq_true, decide_eq_true_eq] at h
  rw [show 2 * c / 2 = c by omega] at h
  exact h
theorem thP_0f {t : List Nat} {n c : Nat} (h : thP t n (2 * c) = false) (h2 : n + c < 8) : ¬ (49 ≤ t.getD (2 * c) 0 ∧ t.getD (2 * c) 0 ≤ 57) := by
  intro z
  have : thP t n (2 * c) = true := by
    unfold thP
    rw [if_neg (by omega), show 2 * c / 2 = c by omega]
    simp only [Bool.and_eq_true, decide_eq_true_eq]
    exact ⟨z, h2⟩
  rw [this] at h
  exact Bool.noConfusion h
theorem thP_1 {t : List Nat} {n c : Nat} : thP t n (2 * c + 1) = decide (t.getD (2 * c + 1) 0 = 59) := by
  unfold thP
  rw [if_pos (by omega)]
def thR (t : List Nat) (a : Sg) (m c q : Nat) : Prop := RdR a t m q ∧ gi a 149 16 = nI c ∧ ∀ j, j < c → gi a 156 j = nI (t.getD (2 * j) 0 - 48)
theorem things_dig {N m0 : Nat} {a : Sg} {t : List Nat} (hl : t.length ≤ 80) (hx : ∀ x ∈ t, x < 256) {n : Nat} (hn : gi a 149 3 = nI n) {m c : Nat} (hm : m ≤ 15) (h : thR t a m c (2 * c)) (hc : 2 * c < m) (hp : thP t n (2 * c) = true) (K : Int32 → Int32 → Sg → Option (Int32 × Sg)) (v w : Int32) : ∃ a', X9_things_l29 N K (m0 + 1) v w 1 a = ((X9_takes N 59 a').bind fun r20 => (if r20.1 = 0 then (X9_things_l29 N K m0 v 1 0 r20.2) else (X9_things_l29 N K m0 v 1 1 r20.2))) ∧ thR t a' m (c + 1) (2 * c + 1) ∧ Fr [3012, 156, 3016] a a' := by
  obtain ⟨h1, h2, h3⟩ := h
  have hd := thP_0 hp
  have hd2 := dg_in _ (get256 hx _) hd.1
  have ed := digitIn_yes N h1 hl hc hd2.1 hd2.2.1
  have f1 : Fr [3012, 156, 3016] a (wi (wi (wi a 149 12 (nI (2 * c) + 1)) 156 c (nI (t.getD (2 * c) 0 - 48))) 149 16 (nI c + 1)) := (((Fr.refl _ _).wi (by simp [pl])).wi (by simp [pl])).wi (by simp [pl])
  refine ⟨wi (wi (wi a 149 12 (nI (2 * c) + 1)) 156 c (nI (t.getD (2 * c) 0 - 48))) 149 16 (nI c + 1), ?_, ⟨(h1.next.fr (l := [156, 3016]) (((Fr.refl _ _).wi (by simp [pl])).wi (by simp [pl])) (by decide)), ?_, fun j hj => ?_⟩, f1⟩
  · have e1 : gi (wi a 149 12 (nI (2 * c) + 1)) 149 16 = nI c := by rw [giw, if_neg (by omega)]; exact h2
    have e2 : gi (wi (wi a 149 12 (nI (2 * c) + 1)) 156 c (nI (t.getD (2 * c) 0 - 48))) 149 16 = nI c := by rw [gi_wi_ne (by omega)]; exact e1
    have e3 : gi (wi (wi a 149 12 (nI (2 * c) + 1)) 156 c (nI (t.getD (2 * c) 0 - 48))) 156 c = nI (t.getD (2 * c) 0 - 48) := by rw [giw, if_pos ⟨rfl, rfl⟩]
    rw [X9_things_l29, if_neg oneF, hn, h2, nI_add, if_neg (show ¬ (8 : Int32) ≤ nI (n + c) from nI_ge (b := 8) hd.2 (by decide)), ed, Option.bind_some, hd2.2.2.1, X9_things_j66, inbI (show c < 48 by omega) (by omega), if_pos rfl, clI (by omega)]
    simp only [bnS]
    rw [e2, inbI (show c < 48 by omega) (by omega), if_pos rfl, clI (by omega), e3, if_neg (by rw [← hd2.2.2.1]; exact hd2.2.2.2), X9_things_j84, show X9_flag N 1 _ = some 1 from rfl, Option.bind_some]
    simp only [bnS]
    rw [if_neg oneF, e2]
  · rw [giw, if_pos ⟨rfl, rfl⟩, nI1]
  · rw [gi_wi_ne (by omega), giw]
    by_cases z : j = c
    · rw [if_pos ⟨rfl, z⟩, z]
    · rw [if_neg (fun y => z y.2), gi_wi_ne (by omega)]; exact h3 j (by omega)
theorem things_l29 {N : Nat} (hN : 20 < N) {σ : Sg} {t : List Nat} (hl : t.length ≤ 80) (hx : ∀ x ∈ t, x < 256) {n : Nat} (hn : gi σ 149 3 = nI n) (hn8 : n ≤ 8) {q : Nat} (q1 : q ≤ min t.length 15) (q2 : ∀ i, i < q → thP t n i = true) (q3 : q < min t.length 15 → thP t n q = false) (h : thR t σ (min t.length 15) 0 0) (K : Int32 → Int32 → Sg → Option (Int32 × Sg)) (v : Int32) : ∃ σ', X9_things_l29 N K N v 1 1 σ = K v (nI (q % 2)) σ' ∧ thR t σ' (min t.length 15) ((q + 1) / 2) q ∧ Fr [3012, 156, 3016] σ σ' := by
  obtain ⟨N', hN'⟩ : ∃ k, N = k + 1 := ⟨N - 1, by omega⟩
  refine forL0 (L := fun m i a => X9_things_l29 N K (m + 1) v 1 1 a) (m := q / 2) (N := N') (a := σ) (fun i a => thR t a (min t.length 15) i (2 * i) ∧ Fr [3012, 156, 3016] σ a) (o := fun x => ∃ σ', x = K v (nI (q % 2)) σ' ∧ thR t σ' (min t.length 15) ((q + 1) / 2) q ∧ Fr [3012, 156, 3016] σ σ') (by omega) ⟨h, Fr.refl _ _⟩ ?_ ?_ |> fun z => by rw [hN'] at z ⊢; exact z
  · intro m i a hi hI
    obtain ⟨g1, g2⟩ := hI
    left
    obtain ⟨a', b1, b2, b3⟩ := things_dig (N := N) (m0 := m + 1) hl hx ((g2.g (k := 149) (j := 3) (by decide)).trans hn) (by omega) g1 (by omega) (q2 (2 * i) (by omega)) K v 1
    have h59 : t.getD (2 * i + 1) 0 = 59 := by have := q2 (2 * i + 1) (by omega); rw [thP_1, decide_eq_true_eq] at this; exact this
    have et := takes_yes N b2.1 hl (v := 59) (by omega) (by rw [h59]; rfl)
    refine ⟨wi a' 149 12 (nI (2 * i + 1) + 1), ⟨⟨b2.1.next, by rw [giw, if_neg (by omega)]; exact b2.2.1, fun j hj => by rw [gi_wi_ne (by omega)]; exact b2.2.2 j hj⟩, (g2.trans b3).wi (by simp [pl])⟩, ?_⟩
    rw [b1, et, Option.bind_some, if_neg oneF]
  · intro m a hI
    obtain ⟨g1, g2⟩ := hI
    have hn' := (g2.g (k := 149) (j := 3) (by decide)).trans hn
    by_cases z : q % 2 = 1
    · obtain ⟨a', b1, b2, b3⟩ := things_dig (N := N) (m0 := m + 1) hl hx hn' (by omega) g1 (by omega) (q2 (2 * (q / 2)) (by omega)) K v 1
      have eq : 2 * (q / 2) + 1 = q := by omega
      rw [eq] at b2
      have et := takes_no N b2.1 hl (v := 59) (by omega) (fun y u => by
        have := q3 y
        rw [← eq, thP_1, eq, (e59 _ (get256 hx _)).mp u] at this
        exact absurd this (by decide))
      refine ⟨wi a' 149 12 (nI q + 0), ?_, ⟨et.2, by rw [giw, if_neg (by omega), show (q + 1) / 2 = q / 2 + 1 by omega]; exact b2.2.1, fun j hj => by rw [gi_wi_ne (by omega)]; exact b2.2.2 j (by omega)⟩, (g2.trans b3).wi (by simp [pl])⟩
      rw [b1, et.1, Option.bind_some, if_pos rfl, X9_things_l29, if_pos rfl, z]
      rfl
    · have eq : 2 * (q / 2) = q := by omega
      rw [eq] at g1
      obtain ⟨h1, h2, h3⟩ := g1
      have ec : (q + 1) / 2 = q / 2 := by omega
      refine ⟨wi (wi a 156 (q / 2) (-1)) 149 16 (nI (q / 2) + 0), ?_, ⟨h1.fr (l := [156, 3016]) (((Fr.refl _ _).wi (by simp [pl])).wi (by simp [pl])) (by decide), ?_, fun j hj => ?_⟩, (g2.wi (by simp [pl])).wi (by simp [pl])⟩
      · have e2 : gi (wi a 156 (q / 2) (-1)) 149 16 = nI (q / 2) := by rw [gi_wi_ne (by omega)]; exact h2
        have e3 : gi (wi a 156 (q / 2) (-1)) 156 (q / 2) = -1 := by rw [giw, if_pos ⟨rfl, rfl⟩]
        have body : X9_things_j66 N (fun v1 v2 v3 σ => X9_things_l29 N K (m + 1) v1 v2 v3 σ) v (-1) (nI (q / 2)) a = K v (nI (q % 2)) (wi (wi a 156 (q / 2) (-1)) 149 16 (nI (q / 2) + 0)) := by
          rw [X9_things_j66, inbI (show q / 2 < 48 by omega) (by omega), if_pos rfl, clI (by omega)]
          simp only [bnS]
          rw [e2, inbI (show q / 2 < 48 by omega) (by omega), if_pos rfl, clI (by omega), e3, if_pos (by decide), X9_things_j84, show X9_flag N 0 _ = some 0 from rfl, Option.bind_some]
          simp only [bnS]
          rw [if_pos trivial, e2, X9_things_l29, if_pos rfl, show q % 2 = 0 by omega]
          rfl
        rw [X9_things_l29, if_neg oneF, hn', h2, nI_add]
        by_cases y : n + q / 2 < 8
        · rw [if_neg (show ¬ (8 : Int32) ≤ nI (n + q / 2) from nI_ge (b := 8) y (by decide)), digitIn_no N h1 hl (by omega) (fun u => ?_), Option.bind_some]
          · exact body
          · have := q3 u
            rw [← eq] at this
            have := thP_0f this y
            rw [eq] at this
            exact dg_out _ (get256 hx _) this
        · rw [if_pos (show (8 : Int32) ≤ nI (n + q / 2) from nI_le (a := 8) (by omega) (by omega))]
          exact body
      · rw [giw, if_pos ⟨rfl, rfl⟩, ec]; exact nI_add _ 0
      · rw [gi_wi_ne (by omega), giw, if_neg (by omega)]; exact h3 j (by omega)
