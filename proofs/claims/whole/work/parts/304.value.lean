/-! ===== what comes out of a rule; winds; what a thing needs ===== -/
theorem lt1000 {t : Nat} (h : t < 2147483648) : nI t < 1000 ↔ t < 1000 := nI_ltI (b := 1000) h (by decide)
theorem lt2000 {t : Nat} (h : t < 2147483648) : nI t < 2000 ↔ t < 2000 := nI_ltI (b := 2000) h (by decide)
theorem le1000 {t : Nat} (h : t < 2147483648) : 1000 ≤ nI t ↔ 1000 ≤ t := nI_leI (a := 1000) (by decide) h
theorem le1008 {t : Nat} (h : t < 2147483648) : 1008 ≤ nI t ↔ 1008 ≤ t := nI_leI (a := 1008) (by decide) h
theorem le40 {t : Nat} (h : t < 2147483648) : 40 ≤ nI t ↔ 40 ≤ t := nI_leI (a := 40) (by decide) h
theorem le8 {t : Nat} (h : t < 2147483648) : 8 ≤ nI t ↔ 8 ≤ t := nI_leI (a := 8) (by decide) h
theorem eq3000 {t : Nat} (h : t < 2147483648) : nI t = 3000 ↔ t = 3000 := nI_eq (b := 3000) h (by decide)
theorem eq1134 {t : Nat} (h : t < 2147483648) : nI t = 1134 ↔ t = 1134 := nI_eq (b := 1134) h (by decide)
theorem nle0 {d : Nat} (h : d < 2147483648) : nI d ≤ 0 ↔ d ≤ 0 := nI_leI (b := 0) h (by decide)
theorem nle1 {d : Nat} (h : d < 2147483648) : nI d ≤ 1 ↔ d ≤ 1 := nI_leI (b := 1) h (by decide)
theorem inb0_40 : inb 0 40 = true := by decide
theorem inb0_80 : inb 0 80 = true := by decide
theorem cl0 : (0 : Int32).toNatClampNeg = 0 := by decide
theorem sgA_lt (a : Nat) : sgA a < 63 := by unfold sgA; repeat' split
                                            all_goals omega
theorem valueOf_b {N : Nat} (hN : 40 < N) {k2 : Nat} (hk : k2 = 7 ∨ k2 = 11) {σ : Sg} {ts : Nat → Nat} {len : Nat} (hc : CdC σ k2 ts len) (hg : Gd ts len) : ∃ σ', X3_valueOf N k2 σ = some (evT ts len (gi σ 18), σ') ∧ Fr [k2 + 2] σ σ' := by
  have p0 : ∀ j, pl k2 j ∉ [k2 + 2] := by intro j; rcases hk with rfl | rfl <;> simp [pl]
  have p1 : ∀ j, pl (k2 + 1) j ∉ [k2 + 2] := by intro j; rcases hk with rfl | rfl <;> simp [pl]
  have p18 : ∀ j, pl 18 j ∉ [k2 + 2] := by intro j; rcases hk with rfl | rfl <;> simp [pl]
  have p2 : ∀ j, pl (k2 + 2) j ∈ [k2 + 2] := by intro j; rcases hk with rfl | rfl <;> simp [pl]
  have h40 := hg.2.2
  unfold X3_valueOf
  refine forL0 (L := fun n i a => X3_valueOf_l4 N k2 n (nI (dS ts i)) (nI i) a) (m := len) (fun i a => Fr [k2 + 2] σ a ∧ gi a (k2 + 2) = rS ts (gi σ 18) (gi σ (k2 + 2)) i) (o := fun x => ∃ σ', x = some (evT ts len (gi σ 18), σ') ∧ Fr [k2 + 2] σ σ') (by omega) ⟨Fr.refl _ _, rfl⟩ ?_ ?_
  · intro n i a hi hI
    obtain ⟨hF, hS⟩ := hI
    left
    have e1 : gi a k2 3 = nI len := (hF.g (p0 3)).trans hc.1
    have e2 : gi a (k2 + 1) i = tokC (ts i) := (hF.g (p1 i)).trans (hc.2 i hi)
    have e3 : gi a 18 = gi σ 18 := hF.r p18
    obtain ⟨hok, hnd⟩ := hg.1 i hi
    have hd := dS_le ts i
    have hd40 : ¬ (40 : Int32) ≤ nI (dS ts i) := fun q => absurd ((le40 (by omega)).mp q) (by omega)
    have hL : ∀ (x : Nat × Int32) (d' : Nat), dS ts (i + 1) = d' → gi (wi a (k2 + 2) x.1 x.2) (k2 + 2) = rS ts (gi σ 18) (gi σ (k2 + 2)) (i + 1) → X3_valueOf_l4 N k2 (n + 1) (nI (dS ts i)) (nI i) a = X3_valueOf_l4 N k2 n (nI d') (nI (i + 1)) (wi a (k2 + 2) x.1 x.2) → ∃ a', (Fr [k2 + 2] σ a' ∧ gi a' (k2 + 2) = rS ts (gi σ 18) (gi σ (k2 + 2)) (i + 1)) ∧ X3_valueOf_l4 N k2 (n + 1) (nI (dS ts i)) (nI i) a = X3_valueOf_l4 N k2 n (nI (dS ts (i + 1))) (nI (i + 1)) a' := by
      intro x d' h1 h2 h3
      exact ⟨_, ⟨hF.wi (p2 _), h2⟩, by rw [h3, h1]⟩
    have hR : rS ts (gi σ 18) (gi σ (k2 + 2)) (i + 1) = tS (gi σ 18) (ts i) (dS ts i) (gi a (k2 + 2)) := by rw [hS]; rfl
    have hDd : dS ts (i + 1) = tD (dS ts i) (ts i) := rfl
    rw [X3_valueOf_l4, e1, if_neg (n_le hi (by omega)), if_neg hd40, inbI (show i < 40 by omega) (by omega), clI (by omega), e2, nI1] at hL
    simp only [if_true] at hL
    rw [X3_valueOf_l4, e1, if_neg (n_le hi (by omega)), if_neg hd40, inbI (show i < 40 by omega) (by omega), clI (by omega), e2, nI1]
    simp only [if_true]
    generalize dS ts i = d at *
    generalize ts i = t at *
    unfold tNd at hnd
    unfold tD at hDd
    unfold tS at hR
    rcases hok with h | h | h | h
    · rw [if_pos (by omega)] at hDd
      rw [if_pos h] at hR
      have et : tokC t = nI t := if_pos (by omega)
      have l1 : ¬ (1000 : Int32) ≤ nI t := fun q => absurd ((le1000 (by omega)).mp q) (by omega)
      refine hL (d, nI t) (d + 1) hDd (by rw [gi_wi, hR]) ?_
      rw [et, if_neg l1, inbI (show d < 40 by omega) (by omega), clI (by omega), nI1]
      rfl
    · rw [if_pos (by omega)] at hDd
      rw [if_neg (by omega), if_pos (by omega)] at hR
      have et : tokC t = nI t := if_pos (by omega)
      have l1 : (1000 : Int32) ≤ nI t := (le1000 (by omega)).mpr (by omega)
      have l2 : ¬ (1008 : Int32) ≤ nI t := fun q => absurd ((le1008 (by omega)).mp q) (by omega)
      refine hL (d, gi σ 18 (t - 1000)) (d + 1) hDd (by rw [gi_wi, hR]) ?_
      rw [et, if_pos l1, if_neg l2, show nI t - 1000 = nI (t - 1000) from pk_sub (b := 1000) (by omega), inbI (show t - 1000 < 8 by omega) (by omega), inbI (show d < 40 by omega) (by omega), clI (show d < 2147483648 by omega), clI (show t - 1000 < 2147483648 by omega), nI1, e3]
      rfl
    · rw [if_neg (by omega), if_neg (by omega)] at hDd hnd
      rw [if_neg (by omega), if_neg (by omega), if_neg (by omega)] at hR
      obtain ⟨b, rfl⟩ : ∃ b, t = 2000 + b := ⟨t - 2000, by omega⟩
      have et : tokC (2000 + b) = nI (1008 + sgA b) := by
        unfold tokC
        rw [if_neg (by omega), if_neg (by omega), show 2000 + b - 2000 = b by omega]
      have hsg := sgA_lt b
      have l1 : (1000 : Int32) ≤ nI (1008 + sgA b) := (le1000 (by omega)).mpr (by omega)
      have l2 : (1008 : Int32) ≤ nI (1008 + sgA b) := (le1008 (by omega)).mpr (by omega)
      have l3 : ¬ nI (1008 + sgA b) = 1134 := fun q => absurd ((eq1134 (by omega)).mp q) (by omega)
      have l4 : ¬ nI d ≤ 1 := fun q => absurd ((nle1 (by omega)).mp q) (by omega)
      obtain ⟨d, rfl⟩ : ∃ d', d = d' + 2 := ⟨d - 2, by omega⟩
      refine hL (d, opS b (gi a (k2 + 2) d) (gi a (k2 + 2) (d + 1))) (d + 1) (by omega) ?_ ?_
      · rw [gi_wi, hR]
        simp only [Nat.add_sub_cancel, Nat.add_sub_cancel_left]
        rfl
      · rw [et, if_pos l1, if_pos l2, if_neg l3, if_neg l4, show nI (d + 2) + (-1) = nI (d + 1) from pk_m1 (d + 1), show nI (d + 1) - 1 = nI d from nI_pred d, inbI (show d < 40 by omega) (by omega), inbI (show d + 1 < 40 by omega) (by omega), clI (show d < 2147483648 by omega), clI (show d + 1 < 2147483648 by omega), combine_b N (by omega)]
        rfl
    · rw [if_neg (by omega), if_pos h] at hDd hnd
      rw [if_neg (by omega), if_neg (by omega), if_pos h] at hR
      have et : tokC t = 1134 := by unfold tokC; rw [if_neg (by omega), if_pos h]
      have l4 : ¬ nI d ≤ 0 := fun q => absurd ((nle0 (by omega)).mp q) (by omega)
      obtain ⟨d, rfl⟩ : ∃ d', d = d' + 1 := ⟨d - 1, by omega⟩
      refine hL (d, -(gi a (k2 + 2) d)) (d + 1) hDd ?_ ?_
      · rw [gi_wi, hR]
        simp only [Nat.add_sub_cancel]
      · rw [et, if_pos (by decide), if_pos (by decide), if_pos rfl, if_neg l4, show nI (d + 1) - 1 = nI d from nI_pred d, inbI (show d < 40 by omega) (by omega), clI (show d < 2147483648 by omega)]
        rfl
  · intro n a hI
    obtain ⟨hF, hS⟩ := hI
    have e1 : gi a k2 3 = nI len := (hF.g (p0 3)).trans hc.1
    refine ⟨a, ?_, hF⟩
    rw [X3_valueOf_l4, e1, if_pos (nI_le (Nat.le_refl _) (by omega)), if_pos inb0_40, cl0, hS, evT_of hg (fun _ _ => rfl)]
def plT (i : Nat) : Nat := if i = 0 then 1000 else if i = 1 then 2 else if i = 2 then 2006 else if i = 3 then 1001 else if i = 4 then 3 else if i = 5 then 2006 else 2003
def CdR (σ : Sg) (ts : Nat → Nat) (len : Nat) : Prop := (gi σ 149 19 = nI len ∧ 0 < len ∧ ∀ i, i < len → gi σ 157 i = nI (ts i)) ∨ (gi σ 149 19 = 0 ∧ len = 7 ∧ ∀ i, i < 7 → ts i = plT i)
theorem plain_ev {ts : Nat → Nat} (h : ∀ i, i < 7 → ts i = plT i) (v : Nat → Int32) : evT ts 7 v = v 0 / 2 + v 1 / 3 := by
  unfold evT
  simp only [rS, dS, h 0 (by omega), h 1 (by omega), h 2 (by omega), h 3 (by omega), h 4 (by omega), h 5 (by omega), h 6 (by omega)]
  rfl
theorem ruled_b {N : Nat} (hN : 40 < N) {σ : Sg} {ts : Nat → Nat} {len : Nat} (hc : CdR σ ts len) (hg : Gd ts len) : ∃ σ', X9_ruled N σ = some (evT ts len (gi σ 160), σ') ∧ Fr [159] σ σ' := by
  have h40 := hg.2.2
  rcases hc with ⟨c1, c2, c3⟩ | ⟨c1, c2, c3⟩
  · unfold X9_ruled
    refine forL0 (L := fun n i a => X9_ruled_l4 N (fun σ => X9_ruled_j125 N σ) n (nI (dS ts i)) (nI i) a) (m := len) (fun i a => Fr [159] σ a ∧ gi a 159 = rS ts (gi σ 160) (gi σ 159) i) (o := fun x => ∃ σ', x = some (evT ts len (gi σ 160), σ') ∧ Fr [159] σ σ') (by omega) ⟨Fr.refl _ _, rfl⟩ ?_ ?_
    · intro n i a hi hI
      obtain ⟨hF, hS⟩ := hI
      left
      have e1 : gi a 149 19 = nI len := (hF.g (by simp [pl])).trans c1
      have e2 : gi a 157 i = nI (ts i) := (hF.g (by simp [pl])).trans (c3 i hi)
      have e3 : gi a 160 = gi σ 160 := hF.r (by simp [pl])
      obtain ⟨hok, hnd⟩ := hg.1 i hi
      have hd := dS_le ts i
      have hL : ∀ (x : Nat × Int32) (d' : Nat), dS ts (i + 1) = d' → gi (wi a 159 x.1 x.2) 159 = rS ts (gi σ 160) (gi σ 159) (i + 1) → X9_ruled_l4 N (fun σ => X9_ruled_j125 N σ) (n + 1) (nI (dS ts i)) (nI i) a = X9_ruled_l4 N (fun σ => X9_ruled_j125 N σ) n (nI d') (nI (i + 1)) (wi a 159 x.1 x.2) → ∃ a', (Fr [159] σ a' ∧ gi a' 159 = rS ts (gi σ 160) (gi σ 159) (i + 1)) ∧ X9_ruled_l4 N (fun σ => X9_ruled_j125 N σ) (n + 1) (nI (dS ts i)) (nI i) a = X9_ruled_l4 N (fun σ => X9_ruled_j125 N σ) n (nI (dS ts (i + 1))) (nI (i + 1)) a' := by
        intro x d' h1 h2 h3
        exact ⟨_, ⟨hF.wi (by simp [pl]), h2⟩, by rw [h3, h1]⟩
      have hR : rS ts (gi σ 160) (gi σ 159) (i + 1) = tS (gi σ 160) (ts i) (dS ts i) (gi a 159) := by rw [hS]; rfl
      have hDd : dS ts (i + 1) = tD (dS ts i) (ts i) := rfl
      rw [X9_ruled_l4, e1, if_neg (n_le hi (by omega)), inbI (show i < 80 by omega) (by omega), clI (by omega), e2, nI1] at hL
      simp only [if_true] at hL
      rw [X9_ruled_l4, e1, if_neg (n_le hi (by omega)), inbI (show i < 80 by omega) (by omega), clI (by omega), e2, nI1]
      simp only [if_true]
      generalize dS ts i = d at *
      generalize ts i = t at *
      unfold tNd at hnd
      unfold tD at hDd
      unfold tS at hR
      rcases hok with h | h | h | h
      · rw [if_pos (by omega)] at hDd
        rw [if_pos h] at hR
        have l1 : nI t < 1000 := (lt1000 (by omega)).mpr h
        have l2 : nI t < 2000 := (lt2000 (by omega)).mpr (by omega)
        have l3 : ¬ nI t = 3000 := fun q => absurd ((eq3000 (by omega)).mp q) (by omega)
        refine hL (d, nI t) (d + 1) hDd (by rw [gi_wi, hR]) ?_
        rw [if_neg l3, if_pos l2, if_pos l1, inbI (show d < 80 by omega) (by omega), clI (by omega), nI1]
        rfl
      · rw [if_pos (by omega)] at hDd
        rw [if_neg (by omega), if_pos (by omega)] at hR
        have l1 : ¬ nI t < 1000 := fun q => absurd ((lt1000 (by omega)).mp q) (by omega)
        have l2 : nI t < 2000 := (lt2000 (by omega)).mpr (by omega)
        have l3 : ¬ nI t = 3000 := fun q => absurd ((eq3000 (by omega)).mp q) (by omega)
        refine hL (d, gi σ 160 (t - 1000)) (d + 1) hDd (by rw [gi_wi, hR]) ?_
        rw [if_neg l3, if_pos l2, if_neg l1, show nI t - 1000 = nI (t - 1000) from pk_sub (b := 1000) (by omega), inbI (show t - 1000 < 8 by omega) (by omega), inbI (show d < 80 by omega) (by omega), clI (show d < 2147483648 by omega), clI (show t - 1000 < 2147483648 by omega), nI1, e3]
        rfl
      · rw [if_neg (by omega), if_neg (by omega)] at hDd hnd
        rw [if_neg (by omega), if_neg (by omega), if_neg (by omega)] at hR
        obtain ⟨b, rfl⟩ : ∃ b, t = 2000 + b := ⟨t - 2000, by omega⟩
        have l2 : ¬ nI (2000 + b) < 2000 := fun q => absurd ((lt2000 (by omega)).mp q) (by omega)
        have l3 : ¬ nI (2000 + b) = 3000 := fun q => absurd ((eq3000 (by omega)).mp q) (by omega)
        obtain ⟨d, rfl⟩ : ∃ d', d = d' + 2 := ⟨d - 2, by omega⟩
        refine hL (d, opS b (gi a 159 d) (gi a 159 (d + 1))) (d + 1) (by omega) ?_ ?_
        · rw [gi_wi, hR]
          simp only [Nat.add_sub_cancel, Nat.add_sub_cancel_left]
          rfl
        · rw [if_neg l3, if_neg l2, show nI (d + 2) + (-1) = nI (d + 1) from pk_m1 (d + 1), show nI (d + 1) - 1 = nI d from nI_pred d, inbI (show d < 80 by omega) (by omega), inbI (show d + 1 < 80 by omega) (by omega), clI (show d < 2147483648 by omega), clI (show d + 1 < 2147483648 by omega), worked_b N (by omega)]
          rfl
      · rw [if_neg (by omega), if_pos h] at hDd hnd
        rw [if_neg (by omega), if_neg (by omega), if_pos h] at hR
        obtain ⟨d, rfl⟩ : ∃ d', d = d' + 1 := ⟨d - 1, by omega⟩
        refine hL (d, -(gi a 159 d)) (d + 1) hDd ?_ ?_
        · rw [gi_wi, hR]
          simp only [Nat.add_sub_cancel]
        · subst h
          rw [show nI 3000 = (3000 : Int32) from rfl, if_pos rfl, show nI (d + 1) - 1 = nI d from nI_pred d, inbI (show d < 80 by omega) (by omega), clI (show d < 2147483648 by omega)]
          rfl
    · intro n a hI
      obtain ⟨hF, hS⟩ := hI
      have e1 : gi a 149 19 = nI len := (hF.g (by simp [pl])).trans c1
      refine ⟨a, ?_, hF⟩
      rw [X9_ruled_l4, e1, if_pos (nI_le (Nat.le_refl _) (by omega)), X9_ruled_j125, e1, if_neg (nI_ne0 c2 (by omega)), if_pos inb0_80, cl0, hS, evT_of hg (fun _ _ => rfl)]
  · subst c2
    refine ⟨σ, ?_, Fr.refl _ _⟩
    obtain ⟨N, rfl⟩ : ∃ k, N = k + 1 := ⟨N - 1, by omega⟩
    unfold X9_ruled
    rw [X9_ruled_l4, c1, if_pos (by decide), X9_ruled_j125, c1, if_pos rfl, plain_ev c3]
    rfl
theorem floorMod_b (N : Nat) {h m : Nat} (hh : h < 2147483648) (hm : 0 < m) (hm2 : m < 2147483648) (σ : Sg) : J9_floorMod_7cf53 N (nI h) (nI m) σ = some (nI (h % m)) := by
  unfold J9_floorMod_7cf53
  rw [if_neg (nI_ne0 hm hm2), nx_xor, if_pos (nI_pos' (Nat.xor_lt_two_pow (n := 31) hh hm2)), pk_rem hh hm hm2]
theorem windAt_b (N : Nat) {h m : Nat} (hh : h < 2147483648) {σ : Sg} (e : gi σ 5 8 = nI m) (hm : 1 ≤ m) (hm2 : m ≤ 20) : X0_windAt N (nI h) σ = some (gi σ 17 (h % m)) := by
  have hmod := Nat.mod_lt h (show m > 0 by omega)
  unfold X0_windAt
  rw [e, if_neg (show ¬ nI m < 1 from nI_nlt (b := 1) hm (by omega)), if_pos (show nI m ≤ 20 from nI_le (b := 20) hm2 (by decide)), floorMod_b N hh (by omega) (by omega), Option.bind_some, inbI (show h % m < 20 by omega) (by omega), clI (by omega)]
  rfl
theorem windOn_b (N : Nat) {h m : Nat} (hh : h < 2147483648) {σ : Sg} (e : gi σ 149 5 = nI m) (hm : 1 ≤ m) (hm2 : m ≤ 20) : X9_windOn N (nI h) σ = some (gi σ 152 (h % m)) := by
  have hmod := Nat.mod_lt h (show m > 0 by omega)
  unfold X9_windOn
  rw [e, if_neg (nI_ne0 hm (by omega)), pk_rem hh (by omega) (by omega), inbI (show h % m < 20 by omega) (by omega), clI (by omega)]
  rfl
/-! ===== the land: how many things, sizes, sky, how long it is, the rule's tokens, how many ===== -/
abbrev Ld : Type := Nat × (Nat → Int32) × (Nat → Int32) × Nat × (Nat → Nat) × Nat
def LC (σ : Sg) (k2 : Nat) (L : Ld) : Prop := gi σ 5 1 = nI L.1 ∧ L.1 ≤ 8 ∧ (∀ i, i < L.1 → gi σ 6 i = L.2.1 i) ∧ gi σ 5 8 = nI L.2.2.2.1 ∧ 1 ≤ L.2.2.2.1 ∧ L.2.2.2.1 ≤ 20 ∧ (∀ i, i < L.2.2.2.1 → gi σ 17 i = L.2.2.1 i) ∧ CdC σ k2 L.2.2.2.2.1 L.2.2.2.2.2 ∧ Gd L.2.2.2.2.1 L.2.2.2.2.2 ∧ (k2 = 7 ∨ k2 = 11)
def LR (σ : Sg) (L : Ld) : Prop := gi σ 149 3 = nI L.1 ∧ L.1 ≤ 8 ∧ (∀ i, i < L.1 → gi σ 151 i = L.2.1 i) ∧ gi σ 149 5 = nI L.2.2.2.1 ∧ 1 ≤ L.2.2.2.1 ∧ L.2.2.2.1 ≤ 20 ∧ (∀ i, i < L.2.2.2.1 → gi σ 152 i = L.2.2.1 i) ∧ CdR σ L.2.2.2.2.1 L.2.2.2.2.2 ∧ Gd L.2.2.2.2.1 L.2.2.2.2.2
def askS (L : Ld) (r : Nat → Int32) (k : Nat) : Nat → Int32 := fun j => if j = 0 then L.2.1 k else if j = 1 then L.2.2.1 ((r 36).toNatClampNeg % L.2.2.2.1) else if j = 2 then popI (r (24 + k)) else if j = 3 then r k else if j = 4 then r (8 + k) else if j = 5 then r (16 + k) else if j = 6 then nI k else nI ((r 36).toNatClampNeg % 7)
def clampS (x : Int32) : Int32 := if 0 < (if x < 9 then x else 9) then (if x < 9 then x else 9) else 0
def needS (L : Ld) (r : Nat → Int32) (k : Nat) : Int32 := if hb (r 32) k = true then 0 else clampS (evT L.2.2.2.2.1 L.2.2.2.2.2 (askS L r k))
theorem clampS_b (N : Nat) (x : Int32) (σ : Sg) : ((J9_min_7cf53 N 9 x σ).bind fun r => J9_max_7cf53 N 0 r σ) = some (clampS x) := by
  unfold J9_min_7cf53 clampS
  by_cases h : x < 9
  · rw [if_pos h, if_pos h, Option.bind_some]
    unfold J9_max_7cf53
    by_cases h2 : 0 < x
    · rw [if_pos h2, if_pos h2]
    · rw [if_neg h2, if_neg h2]
  · rw [if_neg h, if_neg h, Option.bind_some]
    rfl
