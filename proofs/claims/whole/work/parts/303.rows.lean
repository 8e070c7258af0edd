/-! ===== a state as a row of 37 numbers ===== -/
def rC (σ : Sg) (k : Nat) : Nat → Int32 := fun j => if j < 8 then gi σ (k + 1) j else if j < 16 then gi σ (k + 2) (j - 8) else if j < 24 then gi σ (k + 3) (j - 16) else if j < 32 then gi σ (k + 4) (j - 24) else if j < 37 then gi σ k (j - 28) else 0
def rR (σ : Sg) (k : Nat) : Nat → Int32 := fun j => if j < 37 then gi σ k j else 0
theorem rC_s {σ : Sg} {k i : Nat} (hi : i < 8) : rC σ k i = gi σ (k + 1) i := if_pos hi
theorem rC_h {σ : Sg} {k i : Nat} (hi : i < 8) : rC σ k (8 + i) = gi σ (k + 2) i := by
  unfold rC; rw [if_neg (by omega), if_pos (by omega)]; congr 1; omega
theorem rC_d {σ : Sg} {k i : Nat} (hi : i < 8) : rC σ k (16 + i) = gi σ (k + 3) i := by
  unfold rC; rw [if_neg (by omega), if_neg (by omega), if_pos (by omega)]; congr 1; omega
theorem rC_l {σ : Sg} {k i : Nat} (hi : i < 8) : rC σ k (24 + i) = gi σ (k + 4) i := by
  unfold rC; rw [if_neg (by omega), if_neg (by omega), if_neg (by omega), if_pos (by omega)]; congr 1; omega
theorem rC_32 (σ : Sg) (k : Nat) : rC σ k 32 = gi σ k 4 := rfl
theorem rC_33 (σ : Sg) (k : Nat) : rC σ k 33 = gi σ k 5 := rfl
theorem rC_34 (σ : Sg) (k : Nat) : rC σ k 34 = gi σ k 6 := rfl
theorem rC_35 (σ : Sg) (k : Nat) : rC σ k 35 = gi σ k 7 := rfl
theorem rC_36 (σ : Sg) (k : Nat) : rC σ k 36 = gi σ k 8 := rfl
theorem rR_j {σ : Sg} {k j : Nat} (h : j < 37) : rR σ k j = gi σ k j := if_pos h
theorem rC_ws {σ : Sg} {k i : Nat} {x : Int32} (hi : i < 8) : rC (wi σ (k + 1) i x) k = upd (rC σ k) i x := by
  funext j
  unfold rC upd
  simp only [giw, true_and]
  repeat' split
  all_goals first | rfl | omega
theorem rC_wh {σ : Sg} {k i : Nat} {x : Int32} (hi : i < 8) : rC (wi σ (k + 2) i x) k = upd (rC σ k) (8 + i) x := by
  funext j
  unfold rC upd
  simp only [giw, true_and]
  repeat' split
  all_goals first | rfl | omega
theorem rC_wd {σ : Sg} {k i : Nat} {x : Int32} (hi : i < 8) : rC (wi σ (k + 3) i x) k = upd (rC σ k) (16 + i) x := by
  funext j
  unfold rC upd
  simp only [giw, true_and]
  repeat' split
  all_goals first | rfl | omega
theorem rC_wk {σ : Sg} {k i : Nat} {x : Int32} (hi : i < 8) : rC (wi σ (k + 4) i x) k = upd (rC σ k) (24 + i) x := by
  funext j
  unfold rC upd
  simp only [giw, true_and]
  repeat' split
  all_goals first | rfl | omega
theorem rC_wf {σ : Sg} {k i : Nat} {x : Int32} (hi : 4 ≤ i) (hi2 : i < 9) : rC (wi σ k i x) k = upd (rC σ k) (28 + i) x := by
  funext j
  unfold rC upd
  simp only [giw, true_and]
  repeat' split
  all_goals first | rfl | omega
theorem rR_w {σ : Sg} {k i : Nat} {x : Int32} (hi : i < 37) : rR (wi σ k i x) k = upd (rR σ k) i x := by
  funext j
  unfold rR upd
  simp only [giw, true_and]
  repeat' split
  all_goals first | rfl | omega
theorem rC_congr {σ σ' : Sg} {k : Nat} (h0 : gi σ' k = gi σ k) (h1 : gi σ' (k + 1) = gi σ (k + 1)) (h2 : gi σ' (k + 2) = gi σ (k + 2)) (h3 : gi σ' (k + 3) = gi σ (k + 3)) (h4 : gi σ' (k + 4) = gi σ (k + 4)) : rC σ' k = rC σ k := by
  unfold rC; rw [h0, h1, h2, h3, h4]
theorem rR_congr {σ σ' : Sg} {k : Nat} (h0 : gi σ' k = gi σ k) : rR σ' k = rR σ k := by unfold rR; rw [h0]
/-! ===== the rule: tokens (a number below 1000; 1000 + name; 2000 + act; 3000 less), and what comes out ===== -/
def opS (a : Nat) (x y : Int32) : Int32 := if a = 0 then (if x < y then 1 else 0) else if a = 1 then (if y < x then 1 else 0) else if a = 2 then (if x = y then 1 else 0) else if a = 3 then x + y else if a = 4 then x - y else if a = 5 then x * y else (if y = 0 then 0 else x / y)
def tD (d t : Nat) : Nat := if t < 2000 then d + 1 else if t = 3000 then d else d - 1
def tNd (t : Nat) : Nat := if t < 2000 then 0 else if t = 3000 then 1 else 2
def tOk (t : Nat) : Prop := t < 1000 ∨ (1000 ≤ t ∧ t < 1008) ∨ (2000 ≤ t ∧ t < 2007) ∨ t = 3000
def tS (v : Nat → Int32) (t d : Nat) (f : Nat → Int32) : Nat → Int32 := if t < 1000 then upd f d (nI t) else if t < 2000 then upd f d (v (t - 1000)) else if t = 3000 then upd f (d - 1) (-(f (d - 1))) else upd f (d - 2) (opS (t - 2000) (f (d - 2)) (f (d - 1)))
def dS (ts : Nat → Nat) : Nat → Nat
  | 0 => 0
  | i + 1 => tD (dS ts i) (ts i)
def rS (ts : Nat → Nat) (v : Nat → Int32) (f : Nat → Int32) : Nat → Nat → Int32
  | 0 => f
  | i + 1 => tS v (ts i) (dS ts i) (rS ts v f i)
def evT (ts : Nat → Nat) (len : Nat) (v : Nat → Int32) : Int32 := rS ts v (fun _ => 0) len 0
def Gd (ts : Nat → Nat) (len : Nat) : Prop := (∀ i, i < len → tOk (ts i) ∧ tNd (ts i) ≤ dS ts i) ∧ dS ts len = 1 ∧ len ≤ 40
theorem dS_le (ts : Nat → Nat) (i : Nat) : dS ts i ≤ i := by
  induction i with
  | zero => exact Nat.le_refl _
  | succ i ih => show tD (dS ts i) (ts i) ≤ i + 1; unfold tD; repeat' split
                 all_goals omega
theorem rS_agree {ts : Nat → Nat} {len : Nat} (hg : Gd ts len) {v v' : Nat → Int32} (hv : ∀ j, j < 8 → v j = v' j) (f f' : Nat → Int32) : ∀ i, i ≤ len → ∀ p, p < dS ts i → rS ts v f i p = rS ts v' f' i p := by
  intro i
  induction i with
  | zero => intro _ p hp; exact absurd hp (Nat.not_lt_zero _)
  | succ i ih =>
    intro hi p hp
    have ih := ih (by omega)
    obtain ⟨hok, hnd⟩ := hg.1 i (by omega)
    have hp : p < tD (dS ts i) (ts i) := hp
    show tS v (ts i) (dS ts i) (rS ts v f i) p = tS v' (ts i) (dS ts i) (rS ts v' f' i) p
    unfold tS
    unfold tD at hp
    unfold tNd at hnd
    by_cases h1 : ts i < 1000
    · rw [if_pos h1, if_pos h1]
      rw [if_pos (by omega)] at hp
      by_cases hpd : p = dS ts i
      · subst hpd; rw [pk_us, pk_us]
      · rw [pk_un hpd, pk_un hpd]; exact ih p (by omega)
    · rw [if_neg h1, if_neg h1]
      by_cases h2 : ts i < 2000
      · rw [if_pos h2, if_pos h2]
        rw [if_pos h2] at hp
        by_cases hpd : p = dS ts i
        · subst hpd; rw [pk_us, pk_us]
          exact hv _ (by unfold tOk at hok; omega)
        · rw [pk_un hpd, pk_un hpd]; exact ih p (by omega)
      · rw [if_neg h2, if_neg h2]
        rw [if_neg h2] at hp hnd
        by_cases h3 : ts i = 3000
        · rw [if_pos h3, if_pos h3]
          rw [if_pos h3] at hp hnd
          by_cases hpd : p = dS ts i - 1
          · rw [hpd, pk_us, pk_us, ih _ (by omega)]
          · rw [pk_un hpd, pk_un hpd]; exact ih p (by omega)
        · rw [if_neg h3, if_neg h3]
          rw [if_neg h3] at hp hnd
          by_cases hpd : p = dS ts i - 2
          · rw [hpd, pk_us, pk_us, ih _ (by omega), ih _ (by omega)]
          · rw [pk_un hpd, pk_un hpd]; exact ih p (by omega)
theorem evT_of {ts : Nat → Nat} {len : Nat} (hg : Gd ts len) {v v' : Nat → Int32} (hv : ∀ j, j < 8 → v j = v' j) (f : Nat → Int32) : rS ts v f len 0 = evT ts len v' := rS_agree hg hv f _ len (Nat.le_refl _) 0 (by rw [hg.2.1]; omega)
def sgA (a : Nat) : Nat := if a = 0 then 60 else if a = 1 then 62 else if a = 2 then 61 else if a = 3 then 43 else if a = 4 then 45 else if a = 5 then 42 else 47
def tokC (t : Nat) : Int32 := if t < 2000 then nI t else if t = 3000 then 1134 else nI (1008 + sgA (t - 2000))
def CdC (σ : Sg) (k2 : Nat) (ts : Nat → Nat) (len : Nat) : Prop := gi σ k2 3 = nI len ∧ ∀ i, i < len → gi σ (k2 + 1) i = tokC (ts i)
theorem combine_b (N : Nat) {a : Nat} (ha : a < 7) (x y : Int32) (σ : Sg) : X3_combine N (nI (1008 + sgA a) - 1008) x y σ = some (opS a x y) := by
  have h : a = 0 ∨ a = 1 ∨ a = 2 ∨ a = 3 ∨ a = 4 ∨ a = 5 ∨ a = 6 := by omega
  rcases h with rfl | rfl | rfl | rfl | rfl | rfl | rfl
  · rw [show nI (1008 + sgA 0) - 1008 = (60 : Int32) from by decide +kernel]
    show (if y ≤ x then some (0 : Int32) else some 1) = some (if x < y then 1 else 0)
    by_cases h : y ≤ x
    · rw [if_pos h, if_neg (Int32.not_lt.mpr h)]
    · rw [if_neg h, if_pos (Int32.not_le.mp h)]
  · rw [show nI (1008 + sgA 1) - 1008 = (62 : Int32) from by decide +kernel]
    show (if x ≤ y then some (0 : Int32) else some 1) = some (if y < x then 1 else 0)
    by_cases h : x ≤ y
    · rw [if_pos h, if_neg (Int32.not_lt.mpr h)]
    · rw [if_neg h, if_pos (Int32.not_le.mp h)]
  · rw [show nI (1008 + sgA 2) - 1008 = (61 : Int32) from by decide +kernel]
    show (if x = y then some (1 : Int32) else some 0) = some (if x = y then 1 else 0)
    by_cases h : x = y
    · rw [if_pos h, if_pos h]
    · rw [if_neg h, if_neg h]
  · rw [show nI (1008 + sgA 3) - 1008 = (43 : Int32) from by decide +kernel]
    rfl
  · rw [show nI (1008 + sgA 4) - 1008 = (45 : Int32) from by decide +kernel]
    rfl
  · rw [show nI (1008 + sgA 5) - 1008 = (42 : Int32) from by decide +kernel]
    rfl
  · rw [show nI (1008 + sgA 6) - 1008 = (47 : Int32) from by decide +kernel]
    show (if y = 0 then some (0 : Int32) else (if y = 0 then none else some (x / y))) = some (if y = 0 then 0 else x / y)
    by_cases h : y = 0
    · rw [if_pos h, if_pos h]
    · rw [if_neg h, if_neg h, if_neg h]
theorem worked_b (N : Nat) {a : Nat} (ha : a < 7) (x y : Int32) (σ : Sg) : X9_worked N (nI (2000 + a) - 2000) x y σ = some (opS a x y) := by
  have h : a = 0 ∨ a = 1 ∨ a = 2 ∨ a = 3 ∨ a = 4 ∨ a = 5 ∨ a = 6 := by omega
  rcases h with rfl | rfl | rfl | rfl | rfl | rfl | rfl
  · rw [show nI (2000 + 0) - 2000 = (0 : Int32) from by decide +kernel]
    show (if y ≤ x then some (0 : Int32) else some 1) = some (if x < y then 1 else 0)
    by_cases h : y ≤ x
    · rw [if_pos h, if_neg (Int32.not_lt.mpr h)]
    · rw [if_neg h, if_pos (Int32.not_le.mp h)]
  · rw [show nI (2000 + 1) - 2000 = (1 : Int32) from by decide +kernel]
    show (if x ≤ y then some (0 : Int32) else some 1) = some (if y < x then 1 else 0)
    by_cases h : x ≤ y
    · rw [if_pos h, if_neg (Int32.not_lt.mpr h)]
    · rw [if_neg h, if_pos (Int32.not_le.mp h)]
  · rw [show nI (2000 + 2) - 2000 = (2 : Int32) from by decide +kernel]
    show (if x = y then some (1 : Int32) else some 0) = some (if x = y then 1 else 0)
    by_cases h : x = y
    · rw [if_pos h, if_pos h]
    · rw [if_neg h, if_neg h]
  · rw [show nI (2000 + 3) - 2000 = (3 : Int32) from by decide +kernel]
    rfl
  · rw [show nI (2000 + 4) - 2000 = (4 : Int32) from by decide +kernel]
    rfl
  · rw [show nI (2000 + 5) - 2000 = (5 : Int32) from by decide +kernel]
    rfl
  · rw [show nI (2000 + 6) - 2000 = (6 : Int32) from by decide +kernel]
    show (if y = 0 then some (0 : Int32) else (if y = 0 then none else some (x / y))) = some (if y = 0 then 0 else x / y)
    by_cases h : y = 0
    · rw [if_pos h, if_pos h]
    · rw [if_neg h, if_neg h, if_neg h]
