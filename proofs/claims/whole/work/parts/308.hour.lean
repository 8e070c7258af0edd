/-! ===== an hour: the row behind it, with deaths and heights of the things below a and debts of those below b ===== -/
theorem one_hb : ∀ i, i < 32 → hb 1 i = decide (i = 0) := by decide +kernel
theorem and1' (x : Int32) : (x &&& 1) = 0 ↔ hb x 0 = false := by
  constructor
  · intro h
    cases hx : hb x 0
    · rfl
    · have := (and1 x).mpr hx
      rw [this] at h
      exact absurd h (by decide)
  · intro h
    apply hb_ext
    intro i hi
    rw [hb_and, one_hb i hi, hb_0]
    by_cases h0 : i = 0
    · subst h0; rw [h]; rfl
    · simp [h0]
theorem hasF (v : Int32) {j : Nat} (hj : j < 32) : ((v >>> (nI j &&& 31)) &&& 1) = 0 ↔ hb v j = false := by rw [and1', hb_sshr v hj]
def diesS (L : Ld) (r : Nat → Int32) (k : Nat) : Bool := hb (floatS L r) k && decide (r (8 + k) = 9)
def mn999 (x : Int32) : Int32 := if 999 < x then 999 else x
theorem mn999' (x : Int32) : (if x < 999 then x else 999) = mn999 x := by
  unfold mn999
  by_cases h : x < 999
  · rw [if_pos h, if_neg (fun q => absurd (Int32.lt_trans h q) (Int32.lt_irrefl))]
  · rw [if_neg h]
    by_cases h2 : 999 < x
    · rw [if_pos h2]
    · rw [if_neg h2]
      exact Int32.le_antisymm (Int32.not_lt.mp h) (Int32.not_lt.mp h2)
def hupS (L : Ld) (r : Nat → Int32) (k : Nat) : Int32 := if hb (floatS L r) k = true then (if 0 < r (8 + k) + 1 then r (8 + k) + 1 else 0) else (if 0 < r (8 + k) + (-1) then r (8 + k) + (-1) else 0)
def lostS (L : Ld) (r : Nat → Int32) : Nat → Int32
  | 0 => r 35
  | k + 1 => if diesS L r k = true then mn999 (lostS L r k + r k) else lostS L r k
def hS (L : Ld) (r : Nat → Int32) (a b : Nat) : Nat → Int32 := fun j =>
  if j < 8 then (if decide (j < a) && diesS L r j then 0 else r j)
  else if j < 16 then (if decide (j - 8 < a) && !hb (r 32) (j - 8) && !diesS L r (j - 8) then hupS L r (j - 8) else r j)
  else if j < 24 then (if decide (j - 16 < b) && !hb (r 32) (j - 16) && !diesS L r (j - 16) then mn999 (r j + r (j - 16)) else r j)
  else if j < 32 then mkB (fun i => hb (r j) i && !(decide (j - 24 < a) && diesS L r (j - 24)) && !(decide (i < a) && diesS L r i)) 8
  else if j = 32 then r 32 ||| mkB (diesS L r) a
  else if j = 35 then lostS L r a
  else r j
/-- a thing goes up for ever -/
def killS (R : Nat → Int32) (k : Nat) : Nat → Int32 := fun j =>
  if j < 8 then (if j = k then 0 else R j)
  else if j < 24 then R j
  else if j < 32 then mkB (fun i => hb (R j) i && !decide (j - 24 = k) && !decide (i = k)) 8
  else if j = 32 then R 32 ||| (1 <<< (nI k &&& 31))
  else if j = 35 then mn999 (R 35 + R k)
  else R j
theorem row_ext {R R' : Nat → Int32} (h1 : ∀ k, k < 8 → R k = R' k) (h2 : ∀ k, k < 8 → R (8 + k) = R' (8 + k)) (h3 : ∀ k, k < 8 → R (16 + k) = R' (16 + k)) (h4 : ∀ k, k < 8 → R (24 + k) = R' (24 + k)) (h5 : ∀ j, 32 ≤ j → R j = R' j) : R = R' := by
  funext j
  by_cases a : j < 8
  · exact h1 j a
  · by_cases b : j < 16
    · have := h2 (j - 8) (by omega)
      rwa [show 8 + (j - 8) = j by omega] at this
    · by_cases c : j < 24
      · have := h3 (j - 16) (by omega)
        rwa [show 16 + (j - 16) = j by omega] at this
      · by_cases d : j < 32
        · have := h4 (j - 24) (by omega)
          rwa [show 24 + (j - 24) = j by omega] at this
        · exact h5 j (by omega)
section HS
variable {L : Ld} {r : Nat → Int32}
theorem hS_s {a b k : Nat} (hk : k < 8) : hS L r a b k = if decide (k < a) && diesS L r k then 0 else r k := if_pos hk
theorem hS_h {a b k : Nat} (hk : k < 8) : hS L r a b (8 + k) = if decide (k < a) && !hb (r 32) k && !diesS L r k then hupS L r k else r (8 + k) := by
  unfold hS
  rw [if_neg (by omega), if_pos (by omega), show 8 + k - 8 = k by omega]
theorem hS_d {a b k : Nat} (hk : k < 8) : hS L r a b (16 + k) = if decide (k < b) && !hb (r 32) k && !diesS L r k then mn999 (r (16 + k) + r k) else r (16 + k) := by
  unfold hS
  rw [if_neg (by omega), if_neg (by omega), if_pos (by omega), show 16 + k - 16 = k by omega]
theorem hS_l {a b k : Nat} (hk : k < 8) : hS L r a b (24 + k) = mkB (fun i => hb (r (24 + k)) i && !(decide (k < a) && diesS L r k) && !(decide (i < a) && diesS L r i)) 8 := by
  unfold hS
  rw [if_neg (by omega), if_neg (by omega), if_neg (by omega), if_pos (by omega), show 24 + k - 24 = k by omega]
theorem hb_8 (f : Nat → Bool) (i : Nat) : hb (mkB f 8) i = (decide (i < 8) && f i) := by
  rcases Nat.lt_or_ge i 32 with q | q
  · exact hb_mkB f 8 (by omega) i q
  · rw [hb_big q, decide_eq_false (by omega)]; rfl
theorem hb_n (f : Nat → Bool) {n : Nat} (hn : n ≤ 8) (i : Nat) : hb (mkB f n) i = (decide (i < n) && f i) := by
  rcases Nat.lt_or_ge i 32 with q | q
  · exact hb_mkB f n (by omega) i q
  · rw [hb_big q, decide_eq_false (by omega)]; rfl
theorem hS_32 {a b : Nat} : hS L r a b 32 = r 32 ||| mkB (diesS L r) a := rfl
theorem hS_35 {a b : Nat} : hS L r a b 35 = lostS L r a := rfl
theorem hS_o {a b j : Nat} (h : 32 ≤ j) (h1 : j ≠ 32) (h2 : j ≠ 35) : hS L r a b j = r j := by
  unfold hS
  rw [if_neg (by omega), if_neg (by omega), if_neg (by omega), if_neg (by omega), if_neg h1, if_neg h2]
theorem or_0 (x : Int32) : x ||| 0 = x := by simp
theorem dies_gone (h8 : L.1 ≤ 8) {k : Nat} (h : hb (r 32) k = true) : diesS L r k = false := by
  unfold diesS
  cases hx : hb (floatS L r) k
  · rfl
  · have := ((hb_floatS h8 k).mp hx).2.1
    rw [h] at this; cases this
theorem dies_lt (h8 : L.1 ≤ 8) {k : Nat} (h : diesS L r k = true) : k < L.1 ∧ hb (r 32) k = false ∧ r (8 + k) = 9 := by
  unfold diesS at h
  rw [Bool.and_eq_true] at h
  have := (hb_floatS h8 k).mp h.1
  exact ⟨this.1, this.2.1, of_decide_eq_true h.2⟩
theorem hS_00 (hl : ∀ i, i < 8 → ∀ j, 8 ≤ j → hb (r (24 + i)) j = false) : hS L r 0 0 = r := by
  apply row_ext
  · intro k hk; rw [hS_s hk]; simp
  · intro k hk; rw [hS_h hk]; simp
  · intro k hk; rw [hS_d hk]; simp
  · intro k hk
    rw [hS_l hk]
    apply hb_ext
    intro i _
    rw [hb_8]
    rcases Nat.lt_or_ge i 8 with q | q
    · simp [q]
    · rw [hl k hk i q]; simp
  · intro j hj
    by_cases h1 : j = 32
    · subst h1; rw [hS_32]; exact or_0 _
    · by_cases h2 : j = 35
      · subst h2; rfl
      · exact hS_o hj h1 h2
theorem mkB_no {f : Nat → Bool} {a : Nat} (h : f a = false) : mkB f (a + 1) = mkB f a := by
  show mkB f a ||| _ = _
  rw [h]; exact or_0 _
theorem hS_same (a b : Nat) (hd : diesS L r a = false) (hg : hb (r 32) a = true) : hS L r (a + 1) b = hS L r a b := by
  have hlt : ∀ k, (decide (k < a + 1) && diesS L r k) = (decide (k < a) && diesS L r k) := by
    intro k
    by_cases hk : k = a
    · subst hk; rw [hd]; simp
    · congr 1; apply decide_eq_decide.mpr; omega
  apply row_ext
  · intro k hk; rw [hS_s hk, hS_s hk, hlt]
  · intro k hk
    rw [hS_h hk, hS_h hk]
    by_cases hka : k = a
    · subst hka; rw [hg]; simp
    · rw [show decide (k < a + 1) = decide (k < a) from decide_eq_decide.mpr (by omega)]
  · intro k hk; rw [hS_d hk, hS_d hk]
  · intro k hk
    rw [hS_l hk, hS_l hk]
    apply hb_ext
    intro i _
    rw [hb_8, hb_8, hlt, hlt]
  · intro j hj
    by_cases h1 : j = 32
    · subst h1; rw [hS_32, hS_32, mkB_no hd]
    · by_cases h2 : j = 35
      · subst h2; rw [hS_35, hS_35]; show (if diesS L r a = true then _ else _) = _; rw [hd]; rfl
      · rw [hS_o hj h1 h2, hS_o hj h1 h2]
theorem hS_up (a b : Nat) (ha : a < 8) (hd : diesS L r a = false) (hg : hb (r 32) a = false) : hS L r (a + 1) b = upd (hS L r a b) (8 + a) (hupS L r a) := by
  have hlt : ∀ k, (decide (k < a + 1) && diesS L r k) = (decide (k < a) && diesS L r k) := by
    intro k
    by_cases hk : k = a
    · subst hk; rw [hd]; simp
    · congr 1; apply decide_eq_decide.mpr; omega
  apply row_ext
  · intro k hk; rw [pk_un (by omega), hS_s hk, hS_s hk, hlt]
  · intro k hk
    by_cases hka : k = a
    · subst hka; rw [pk_us, hS_h hk, hg, hd]; simp
    · rw [pk_un (by omega), hS_h hk, hS_h hk, show decide (k < a + 1) = decide (k < a) from decide_eq_decide.mpr (by omega)]
  · intro k hk; rw [pk_un (by omega), hS_d hk, hS_d hk]
  · intro k hk
    rw [pk_un (by omega), hS_l hk, hS_l hk]
    apply hb_ext
    intro i _
    rw [hb_8, hb_8, hlt, hlt]
  · intro j hj
    rw [pk_un (by omega)]
    by_cases h1 : j = 32
    · subst h1; rw [hS_32, hS_32, mkB_no hd]
    · by_cases h2 : j = 35
      · subst h2; rw [hS_35, hS_35]; show (if diesS L r a = true then _ else _) = _; rw [hd]; rfl
      · rw [hS_o hj h1 h2, hS_o hj h1 h2]
theorem hS_kill (a b : Nat) (hb1 : b ≤ a) (ha : a < 8) (hd : diesS L r a = true) : hS L r (a + 1) b = killS (hS L r a b) a := by
  apply row_ext
  · intro k hk
    unfold killS
    rw [if_pos hk, hS_s hk]
    by_cases hka : k = a
    · subst hka; rw [if_pos rfl, hd]; simp
    · rw [if_neg hka, hS_s hk, show decide (k < a + 1) = decide (k < a) from decide_eq_decide.mpr (by omega)]
  · intro k hk
    unfold killS
    rw [if_neg (by omega), if_pos (by omega), hS_h hk, hS_h hk]
    by_cases hka : k = a
    · subst hka; rw [hd]; simp
    · rw [show decide (k < a + 1) = decide (k < a) from decide_eq_decide.mpr (by omega)]
  · intro k hk
    unfold killS
    rw [if_neg (by omega), if_pos (by omega), hS_d hk, hS_d hk]
  · intro k hk
    unfold killS
    rw [if_neg (by omega), if_neg (by omega), if_pos (by omega), show 24 + k - 24 = k by omega, hS_l hk, hS_l hk]
    apply hb_ext
    intro i _
    rw [hb_8, hb_8, hb_8]
    by_cases hka : k = a
    · subst hka; rw [hd]; simp
    · by_cases hia : i = a
      · subst hia; rw [hd]; simp
      · rw [show decide (k < a + 1) = decide (k < a) from decide_eq_decide.mpr (by omega), show decide (i < a + 1) = decide (i < a) from decide_eq_decide.mpr (by omega)]
        simp [hka, hia]
  · intro j hj
    unfold killS
    rw [if_neg (by omega), if_neg (by omega), if_neg (by omega)]
    by_cases h1 : j = 32
    · subst h1
      rw [if_pos rfl, hS_32, hS_32]
      show r 32 ||| (mkB (diesS L r) a ||| (if diesS L r a then _ else _)) = _
      rw [hd, if_pos rfl, Int32.or_assoc]
    · rw [if_neg h1]
      by_cases h2 : j = 35
      · subst h2
        rw [if_pos rfl, hS_35, hS_35, hS_s ha]
        show (if diesS L r a = true then _ else _) = _
        rw [hd]; simp
      · rw [if_neg h2, hS_o hj h1 h2, hS_o hj h1 h2]
theorem hS_debt (a b : Nat) (hb1 : b < 8) (hd : diesS L r b = false) (hg : hb (r 32) b = false) : hS L r a (b + 1) = upd (hS L r a b) (16 + b) (mn999 (r (16 + b) + r b)) := by
  apply row_ext
  · intro k hk; rw [pk_un (by omega), hS_s hk, hS_s hk]
  · intro k hk; rw [pk_un (by omega), hS_h hk, hS_h hk]
  · intro k hk
    by_cases hka : k = b
    · subst hka; rw [pk_us, hS_d hk, hg, hd]; simp
    · rw [pk_un (by omega), hS_d hk, hS_d hk, show decide (k < b + 1) = decide (k < b) from decide_eq_decide.mpr (by omega)]
  · intro k hk; rw [pk_un (by omega), hS_l hk, hS_l hk]
  · intro j hj
    rw [pk_un (by omega)]
    by_cases h1 : j = 32
    · subst h1; rfl
    · by_cases h2 : j = 35
      · subst h2; rfl
      · rw [hS_o hj h1 h2, hS_o hj h1 h2]
theorem hS_nodebt (a b : Nat) (hd : diesS L r b = true ∨ hb (r 32) b = true) : hS L r a (b + 1) = hS L r a b := by
  apply row_ext
  · intro k hk; rw [hS_s hk, hS_s hk]
  · intro k hk; rw [hS_h hk, hS_h hk]
  · intro k hk
    rw [hS_d hk, hS_d hk]
    by_cases hka : k = b
    · subst hka
      rcases hd with hd | hd
      · rw [hd]; simp
      · rw [hd]; simp
    · rw [show decide (k < b + 1) = decide (k < b) from decide_eq_decide.mpr (by omega)]
  · intro k hk; rw [hS_l hk, hS_l hk]
  · intro j hj
    by_cases h1 : j = 32
    · subst h1; rfl
    · by_cases h2 : j = 35
      · subst h2; rfl
      · rw [hS_o hj h1 h2, hS_o hj h1 h2]
theorem hS_gone {a b k : Nat} (ha : a ≤ 8) : hb (hS L r a b 32) k = (hb (r 32) k || (decide (k < a) && diesS L r k)) := by rw [hS_32, hb_or, hb_n _ ha]
end HS
/-- the row behind an hour -/
def hourS (L : Ld) (r : Nat → Int32) : Nat → Int32 := upd (hS L r L.1 L.1) 36 (r 36 + 1)
