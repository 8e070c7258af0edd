/-! BorrowedWeight$Land.addThing(I)V -/
def X0_addThing (N : Nat)  (v1 : Int32) (σ : Sg) : Option (Sg) :=
  if 8 ≤ (gi σ 5 1) then (some σ) else (if inb (gi σ 5 1) 8 = true then bnS (wi σ 6 (gi σ 5 1).toNatClampNeg v1) fun σ3 => bnS (wi σ3 5 1 ((gi σ3 5 1) + 1)) fun σ5 => some σ5 else none)
set_option maxRecDepth 100000 in
set_option maxHeartbeats 4000000 in
theorem X0_addThing_ok {E : Ev}  {N : Nat} {v1 : Int32} {σ : Sg} {r : Sg} (h : X0_addThing N  v1 σ = some r) : Cm E (0) yX0_addThing cX0_addThing 2 none [.ref 5, .int v1] SH0 SH0 σ r (none) 0 0 := by
  refine Cm.intro (by decide +kernel) (Nat.le_of_ble_eq_true rfl) (fun _ h => by obtain ⟨_, _, _, _, _, _, h⟩ := h; exact h) (fun Z C hE => ?_)
  show Wm E Z 0 0 SH0 σ 0 [(0, .ref 5), (1, .int v1)] []
  unfold X0_addThing at h
  refine r_aload_n (pc' := 1) C dX0_addThing_0 rfl 0 rfl ?_
  refine r_getI (pc' := 4) C flX0_41 sh_5 rfl dX0_addThing_1 rfl ?_
  refine r_bipush (pc' := 6) C dX0_addThing_4 rfl kb_8 ?_
  refine r_icmp_ge (tgt := 29) (pc' := 9) C dX0_addThing_6 rfl rfl (fun c1 => ?_) (fun c1 => ?_)
  · rw [if_pos c1] at h
    have h := Option.some.inj h
    subst h
    exact r_vret C dX0_addThing_29 hE
  · rw [if_neg c1] at h
    refine r_aload_n (pc' := 10) C dX0_addThing_9 rfl 0 rfl ?_
    refine r_getR (pc' := 13) C flX0_9 sh_5 rfl dX0_addThing_10 rfl ?_
    refine r_aload_n (pc' := 14) C dX0_addThing_13 rfl 0 rfl ?_
    refine r_getI (pc' := 17) C flX0_41 sh_5 rfl dX0_addThing_14 rfl ?_
    refine r_iload_n (pc' := 18) C dX0_addThing_17 rfl 1 rfl ?_
    obtain ⟨q2, h⟩ := ck h
    obtain ⟨σ3, e4, h⟩ := bs h
    refine r_iast (pc' := 19) (σ1 := σ3) C sh_6 (vin q2) dX0_addThing_18 rfl e4 ?_
    refine r_aload_n (pc' := 20) C dX0_addThing_19 rfl 0 rfl ?_
    refine r_dup (pc' := 21) C dX0_addThing_20 rfl rfl ?_
    refine r_getI (pc' := 24) C flX0_41 sh_5 rfl dX0_addThing_21 rfl ?_
    refine r_iconst (pc' := 25) C dX0_addThing_24 rfl kc_1 ?_
    refine r_iadd (pc' := 26) C dX0_addThing_25 rfl ?_
    obtain ⟨σ5, e6, h⟩ := bs h
    refine r_putI (pc' := 29) (σ1 := σ5) C fpX0_41 sh_5 rfl rfl rfl dX0_addThing_26 rfl e6 ?_
    have h := Option.some.inj h
    subst h
    exact r_vret C dX0_addThing_29 hE

/-! BorrowedWeight$Past.clear()V -/
def X1_clear (N : Nat)   (σ : Sg) : Option (Sg) :=
  bnS (wi σ 29 2 0) fun σ1 => some σ1
set_option maxRecDepth 100000 in
set_option maxHeartbeats 4000000 in
theorem X1_clear_ok {E : Ev}  {N : Nat}  {σ : Sg} {r : Sg} (h : X1_clear N   σ = some r) : Cm E (0) yX1_clear cX1_clear 1 none [.ref 29] SH0 SH0 σ r (none) 0 0 := by
  refine Cm.intro (by decide +kernel) (Nat.le_of_ble_eq_true rfl) (fun _ h => by obtain ⟨_, _, _, _, _, _, h⟩ := h; exact h) (fun Z C hE => ?_)
  show Wm E Z 0 0 SH0 σ 0 [(0, .ref 29)] []
  unfold X1_clear at h
  refine r_aload_n (pc' := 1) C dX1_clear_0 rfl 0 rfl ?_
  refine r_iconst (pc' := 2) C dX1_clear_1 rfl kc_0 ?_
  obtain ⟨σ1, e2, h⟩ := bs h
  refine r_putI (pc' := 5) (σ1 := σ1) C fpX1_18 sh_29 rfl rfl rfl dX1_clear_2 rfl e2 ?_
  have h := Option.some.inj h
  subst h
  exact r_vret C dX1_clear_5 hE

/-! BorrowedWeight$Shelf.clear()V -/
def X4_clear (N : Nat)   (σ : Sg) : Option (Sg) :=
  bnS (wi σ 111 1 0) fun σ1 => some σ1
set_option maxRecDepth 100000 in
set_option maxHeartbeats 4000000 in
theorem X4_clear_ok {E : Ev}  {N : Nat}  {σ : Sg} {r : Sg} (h : X4_clear N   σ = some r) : Cm E (0) yX4_clear cX4_clear 1 none [.ref 111] SH0 SH0 σ r (none) 0 0 := by
  refine Cm.intro (by decide +kernel) (Nat.le_of_ble_eq_true rfl) (fun _ h => by obtain ⟨_, _, _, _, _, _, h⟩ := h; exact h) (fun Z C hE => ?_)
  show Wm E Z 0 0 SH0 σ 0 [(0, .ref 111)] []
  unfold X4_clear at h
  refine r_aload_n (pc' := 1) C dX4_clear_0 rfl 0 rfl ?_
  refine r_iconst (pc' := 2) C dX4_clear_1 rfl kc_0 ?_
  obtain ⟨σ1, e2, h⟩ := bs h
  refine r_putI (pc' := 5) (σ1 := σ1) C fpX4_16 sh_111 rfl rfl rfl dX4_clear_2 rfl e2 ?_
  have h := Option.some.inj h
  subst h
  exact r_vret C dX4_clear_5 hE

/-! BorrowedWeight$Text.clear()V -/
def X6_clear (N : Nat)   (σ : Sg) : Option (Sg) :=
  bnS (wi σ 1 1 0) fun σ1 => some σ1
set_option maxRecDepth 100000 in
set_option maxHeartbeats 4000000 in
theorem X6_clear_ok {E : Ev}  {N : Nat}  {σ : Sg} {r : Sg} (h : X6_clear N   σ = some r) : Cm E (0) yX6_clear cX6_clear 1 none [.ref 1] SH0 SH0 σ r (none) 0 0 := by
  refine Cm.intro (by decide +kernel) (Nat.le_of_ble_eq_true rfl) (fun _ h => by obtain ⟨_, _, _, _, _, _, h⟩ := h; exact h) (fun Z C hE => ?_)
  show Wm E Z 0 0 SH0 σ 0 [(0, .ref 1)] []
  unfold X6_clear at h
  refine r_aload_n (pc' := 1) C dX6_clear_0 rfl 0 rfl ?_
  refine r_iconst (pc' := 2) C dX6_clear_1 rfl kc_0 ?_
  obtain ⟨σ1, e2, h⟩ := bs h
  refine r_putI (pc' := 5) (σ1 := σ1) C fpX6_15 sh_1 rfl rfl rfl dX6_clear_2 rfl e2 ?_
  have h := Option.some.inj h
  subst h
  exact r_vret C dX6_clear_5 hE

/-! BorrowedWeight.things()I -/
def X8_things_j70 (N : Nat)   (v1 : Int32) (v2 : Int32) (σ : Sg) : Option (Int32 × Sg) :=
  (X6_clear N σ).bind fun r5 => (if v1 = (-1) then (some (v2, r5)) else (some ((-1) - v1, r5)))
set_option maxRecDepth 100000 in
set_option maxHeartbeats 4000000 in
theorem X8_things_j70_ok {E : Ev}  {N : Nat}    {v1 : Int32} {v2 : Int32} {σ : Sg} {r : Int32 × Sg} (h : X8_things_j70 N   v1 v2 σ = some r) : Gp E RX8 cX8_things (some .int) 4 (3) SH0 r.2 (some (.int r.1)) σ 70 [(0, .ref 0), (1, .int v1), (2, .int v2)] [] := by
  intro Z C hE
  unfold X8_things_j70 at h
  refine r_aload_n (pc' := 71) C dX8_things_70 rfl 0 rfl ?_
  refine r_getR (pc' := 74) C flX8_10 sh_0 rfl dX8_things_71 rfl ?_
  obtain ⟨r5, e6, h⟩ := bd h
  refine r_cV0 (pc' := 77) C (X6_clear_ok  e6) mlX8_111 ceX6_clear cvX6_clear sh_1 rfl rfl rfl (Nat.le_of_ble_eq_true rfl) rfl (Nat.le_of_ble_eq_true rfl) dX8_things_74 rfl (kk := ?_)
  refine r_iload_n (pc' := 78) C dX8_things_77 rfl 1 rfl ?_
  refine r_iconst (pc' := 79) C dX8_things_78 rfl kc_m1 ?_
  refine r_icmp_ne (tgt := 86) (pc' := 82) C dX8_things_79 rfl rfl (fun c7 => ?_) (fun c7 => ?_)
  · rw [if_neg c7] at h
    refine r_iconst (pc' := 87) C dX8_things_86 rfl kc_m1 ?_
    refine r_iload_n (pc' := 88) C dX8_things_87 rfl 1 rfl ?_
    refine r_isub (pc' := 89) C dX8_things_88 rfl ?_
    have h := Option.some.inj h
    subst h
    exact r_ret C rfl dX8_things_89 hE
  · rw [if_pos c7] at h
    refine r_iload_n (pc' := 83) C dX8_things_82 rfl 2 rfl ?_
    refine r_goto (tgt := 89) C dX8_things_83 rfl ?_
    have h := Option.some.inj h
    subst h
    exact r_ret C rfl dX8_things_89 hE
def X8_things_l28 (N : Nat)  (k56 : Int32 → Int32 → Sg → Option (Int32 × Sg))  : Nat → Int32 → Int32 → Int32 → Sg → Option (Int32 × Sg)
  | 0, _, _, _, _ => none
  | n + 1, v1, v2, v3, σ =>
    if v2 ≤ v3 then (k56 v1 v2 σ) else ((X6_digitAt N (2 * v3) σ).bind fun r10 => ((X0_addThing N r10 σ).bind fun r12 => (X8_things_l28 N k56 n v1 v2 (v3 + 1) r12)))
set_option maxRecDepth 100000 in
set_option maxHeartbeats 4000000 in
theorem X8_things_l28_ok {E : Ev}  {N : Nat} {k56 : Int32 → Int32 → Sg → Option (Int32 × Sg)}  (hk56 : ∀ (v1 : Int32) (v2 : Int32) (σ : Sg) (r : Int32 × Sg), k56 v1 v2 σ = some r → Gp E RX8 cX8_things (some .int) 4 (3) SH0 r.2 (some (.int r.1)) σ 56 [(0, .ref 0), (1, .int v1), (2, .int v2)] []) : ∀ (n : Nat) (v1 : Int32) (v2 : Int32) (v3 : Int32) (σ : Sg) (r : Int32 × Sg), X8_things_l28 N k56 n v1 v2 v3 σ = some r → Gp E RX8 cX8_things (some .int) 4 (3) SH0 r.2 (some (.int r.1)) σ 28 [(0, .ref 0), (1, .int v1), (2, .int v2), (3, .int v3)] [] := by
  intro n
  induction n with
  | zero => intro v1 v2 v3 σ r h; cases h
  | succ n ih =>
    intro v1 v2 v3 σ r h Z C hE
    unfold X8_things_l28 at h
    refine r_iload_n (pc' := 29) C dX8_things_28 rfl 3 rfl ?_
    refine r_iload_n (pc' := 30) C dX8_things_29 rfl 2 rfl ?_
    refine r_icmp_ge (tgt := 56) (pc' := 33) C dX8_things_30 rfl rfl (fun c9 => ?_) (fun c9 => ?_)
    · rw [if_pos c9] at h
      refine r_sub [0, 1, 2] rfl ?_
      exact hk56 _ _ _ _ h Z C hE
    · rw [if_neg c9] at h
      refine r_aload_n (pc' := 34) C dX8_things_33 rfl 0 rfl ?_
      refine r_getR (pc' := 37) C flX8_26 sh_0 rfl dX8_things_34 rfl ?_
      refine r_aload_n (pc' := 38) C dX8_things_37 rfl 0 rfl ?_
      refine r_getR (pc' := 41) C flX8_10 sh_0 rfl dX8_things_38 rfl ?_
      refine r_iconst (pc' := 42) C dX8_things_41 rfl kc_2 ?_
      refine r_iload_n (pc' := 43) C dX8_things_42 rfl 3 rfl ?_
      refine r_imul (pc' := 44) C dX8_things_43 rfl ?_
      obtain ⟨r10, e11, h⟩ := bd h
      refine r_cV1 (pc' := 47) C (X6_digitAt_ok  e11) mlX8_100 ceX6_digitAt cvX6_digitAt sh_1 rfl rfl rfl (Nat.le_of_ble_eq_true rfl) rfl (Nat.le_of_ble_eq_true rfl) dX8_things_44 rfl (kk := ?_)
      obtain ⟨r12, e13, h⟩ := bd h
      refine r_cV0 (pc' := 50) C (X0_addThing_ok  e13) mlX8_103 ceX0_addThing cvX0_addThing sh_5 rfl rfl rfl (Nat.le_of_ble_eq_true rfl) rfl (Nat.le_of_ble_eq_true rfl) dX8_things_47 rfl (kk := ?_)
      refine r_iinc (pc' := 53) (v := v3 + 1) (lv2 := [(3, .int (v3 + 1)), (0, .ref 0), (1, .int v1), (2, .int v2)]) C dX8_things_50 rfl 3 rfl rfl (Nat.le_of_ble_eq_true rfl) rfl ?_
      refine r_goto (tgt := 28) C dX8_things_53 rfl ?_
      refine r_sub [1, 2, 3, 0] rfl ?_
      exact ih _ _ _ _ _ h Z C hE
def X8_things_j56 (N : Nat)   (v1 : Int32) (v2 : Int32) (σ : Sg) : Option (Int32 × Sg) :=
  (X1_clear N σ).bind fun r14 => ((X4_clear N r14).bind fun r16 => (X8_things_j70 N v1 v2 r16))
set_option maxRecDepth 100000 in
set_option maxHeartbeats 4000000 in
theorem X8_things_j56_ok {E : Ev}  {N : Nat}    {v1 : Int32} {v2 : Int32} {σ : Sg} {r : Int32 × Sg} (h : X8_things_j56 N   v1 v2 σ = some r) : Gp E RX8 cX8_things (some .int) 4 (3) SH0 r.2 (some (.int r.1)) σ 56 [(0, .ref 0), (1, .int v1), (2, .int v2)] [] := by
  intro Z C hE
  unfold X8_things_j56 at h
  refine r_aload_n (pc' := 57) C dX8_things_56 rfl 0 rfl ?_
  refine r_getR (pc' := 60) C flX8_43 sh_0 rfl dX8_things_57 rfl ?_
  obtain ⟨r14, e15, h⟩ := bd h
  refine r_cV0 (pc' := 63) C (X1_clear_ok  e15) mlX8_107 ceX1_clear cvX1_clear sh_29 rfl rfl rfl (Nat.le_of_ble_eq_true rfl) rfl (Nat.le_of_ble_eq_true rfl) dX8_things_60 rfl (kk := ?_)
  refine r_aload_n (pc' := 64) C dX8_things_63 rfl 0 rfl ?_
  refine r_getR (pc' := 67) C flX8_50 sh_0 rfl dX8_things_64 rfl ?_
  obtain ⟨r16, e17, h⟩ := bd h
  refine r_cV0 (pc' := 70) C (X4_clear_ok  e17) mlX8_110 ceX4_clear cvX4_clear sh_111 rfl rfl rfl (Nat.le_of_ble_eq_true rfl) rfl (Nat.le_of_ble_eq_true rfl) dX8_things_67 rfl (kk := ?_)
  exact X8_things_j70_ok  h Z C hE
def X8_things (N : Nat)   (σ : Sg) : Option (Int32 × Sg) :=
  (X8_faultOfThings N σ).bind fun r1 => (if r1 = (-1) then (if (((gi σ 1 1) + 1) / 2) ≤ 0 then (X8_things_j70 N r1 (((gi σ 1 1) + 1) / 2) σ) else (X8_things_l28 N (fun v1 v2 σ => X8_things_j56 N v1 v2 σ) N r1 (((gi σ 1 1) + 1) / 2) 0 σ)) else (X8_things_j70 N r1 (((gi σ 1 1) + 1) / 2) σ))
set_option maxRecDepth 100000 in
set_option maxHeartbeats 4000000 in
theorem X8_things_ok {E : Ev}  {N : Nat}  {σ : Sg} {r : Int32 × Sg} (h : X8_things N   σ = some r) : Cm E (3) yX8_things cX8_things 4 (some .int) [.ref 0] SH0 SH0 σ r.2 (some (.int r.1)) 0 0 := by
  refine Cm.intro (by decide +kernel) (Nat.le_of_ble_eq_true rfl) (fun _ h => by obtain ⟨_, _, _, _, _, _, h⟩ := h; exact h) (fun Z C hE => ?_)
  show Wm E Z 0 0 SH0 σ 0 [(0, .ref 0)] []
  unfold X8_things at h
  refine r_aload_n (pc' := 1) C dX8_things_0 rfl 0 rfl ?_
  obtain ⟨r1, e2, h⟩ := bd h
  refine r_cV1 (pc' := 4) C (X8_faultOfThings_ok  e2) mlX8_92 ceX8_faultOfThings cvX8_faultOfThings sh_0 rfl rfl rfl (Nat.le_of_ble_eq_true rfl) rfl (Nat.le_of_ble_eq_true rfl) dX8_things_1 rfl (kk := ?_)
  refine r_istore_n (pc' := 5) (lv2 := [(1, .int r1), (0, .ref 0)]) C dX8_things_4 rfl rfl (Nat.le_of_ble_eq_true rfl) rfl ?_
  refine r_aload_n (pc' := 6) C dX8_things_5 rfl 1 rfl ?_
  refine r_getR (pc' := 9) C flX8_10 sh_0 rfl dX8_things_6 rfl ?_
  refine r_getI (pc' := 12) C flX8_96 sh_1 rfl dX8_things_9 rfl ?_
  refine r_iconst (pc' := 13) C dX8_things_12 rfl kc_1 ?_
  refine r_iadd (pc' := 14) C dX8_things_13 rfl ?_
  refine r_iconst (pc' := 15) C dX8_things_14 rfl kc_2 ?_
  refine r_idiv (pc' := 16) C dX8_things_15 rfl (by decide) ?_
  refine r_istore_n (pc' := 17) (lv2 := [(2, .int (((gi σ 1 1) + 1) / 2)), (1, .int r1), (0, .ref 0)]) C dX8_things_16 rfl rfl (Nat.le_of_ble_eq_true rfl) rfl ?_
  refine r_iload_n (pc' := 18) C dX8_things_17 rfl 1 rfl ?_
  refine r_iconst (pc' := 19) C dX8_things_18 rfl kc_m1 ?_
  refine r_icmp_ne (tgt := 70) (pc' := 22) C dX8_things_19 rfl rfl (fun c4 => ?_) (fun c4 => ?_)
  · rw [if_neg c4] at h
    refine r_sub [2, 1, 0] rfl ?_
    exact X8_things_j70_ok  h Z C hE
  · rw [if_pos c4] at h
    refine r_iload_n (pc' := 23) C dX8_things_22 rfl 0 rfl ?_
    refine r_if_le (tgt := 70) (pc' := 26) C dX8_things_23 rfl rfl (fun c8 => ?_) (fun c8 => ?_)
    · rw [if_pos c8] at h
      refine r_sub [2, 1, 0] rfl ?_
      exact X8_things_j70_ok  h Z C hE
    · rw [if_neg c8] at h
      refine r_iconst (pc' := 27) C dX8_things_26 rfl kc_0 ?_
      refine r_istore_n (pc' := 28) (lv2 := [(3, .int 0), (2, .int (((gi σ 1 1) + 1) / 2)), (1, .int r1), (0, .ref 0)]) C dX8_things_27 rfl rfl (Nat.le_of_ble_eq_true rfl) rfl ?_
      refine r_sub [3, 2, 1, 0] rfl ?_
      exact X8_things_l28_ok  (fun _ _ _ _ h Z C hE => by exact X8_things_j56_ok  h Z C hE) N _ _ _ _ _ h Z C hE

/-! BorrowedWeight$Land.isThing(I)Z -/
def X0_isThing (N : Nat)  (v1 : Int32) (σ : Sg) : Option (Int32) :=
  if v1 < 0 then (some 0) else (if (gi σ 5 1) ≤ v1 then (some 0) else (if 8 ≤ v1 then (some 0) else (some 1)))
set_option maxRecDepth 100000 in
set_option maxHeartbeats 4000000 in
theorem X0_isThing_ok {E : Ev}  {N : Nat} {v1 : Int32} {σ : Sg} {r : Int32} (h : X0_isThing N  v1 σ = some r) : Cm E (0) yX0_isThing cX0_isThing 2 (some .boolean) [.ref 5, .int v1] SH0 SH0 σ σ (some (.int r)) 0 0 := by
  refine Cm.intro (by decide +kernel) (Nat.le_of_ble_eq_true rfl) (fun _ h => by obtain ⟨_, _, _, _, _, _, h⟩ := h; exact h) (fun Z C hE => ?_)
  show Wm E Z 0 0 SH0 σ 0 [(0, .ref 5), (1, .int v1)] []
  unfold X0_isThing at h
  refine r_iload_n (pc' := 1) C dX0_isThing_0 rfl 1 rfl ?_
  refine r_if_lt (tgt := 22) (pc' := 4) C dX0_isThing_1 rfl rfl (fun c1 => ?_) (fun c1 => ?_)
  · rw [if_pos c1] at h
    refine r_iconst (pc' := 23) C dX0_isThing_22 rfl kc_0 ?_
    have h := Option.some.inj h
    subst h
    exact r_ret C rfl dX0_isThing_23 hE
  · rw [if_neg c1] at h
    refine r_iload_n (pc' := 5) C dX0_isThing_4 rfl 1 rfl ?_
    refine r_aload_n (pc' := 6) C dX0_isThing_5 rfl 0 rfl ?_
    refine r_getI (pc' := 9) C flX0_41 sh_5 rfl dX0_isThing_6 rfl ?_
    refine r_icmp_ge (tgt := 22) (pc' := 12) C dX0_isThing_9 rfl rfl (fun c2 => ?_) (fun c2 => ?_)
    · rw [if_pos c2] at h
      refine r_iconst (pc' := 23) C dX0_isThing_22 rfl kc_0 ?_
      have h := Option.some.inj h
      subst h
      exact r_ret C rfl dX0_isThing_23 hE
    · rw [if_neg c2] at h
      refine r_iload_n (pc' := 13) C dX0_isThing_12 rfl 1 rfl ?_
      refine r_bipush (pc' := 15) C dX0_isThing_13 rfl kb_8 ?_
      refine r_icmp_ge (tgt := 22) (pc' := 18) C dX0_isThing_15 rfl rfl (fun c3 => ?_) (fun c3 => ?_)
      · rw [if_pos c3] at h
        refine r_iconst (pc' := 23) C dX0_isThing_22 rfl kc_0 ?_
        have h := Option.some.inj h
        subst h
        exact r_ret C rfl dX0_isThing_23 hE
      · rw [if_neg c3] at h
        refine r_iconst (pc' := 19) C dX0_isThing_18 rfl kc_1 ?_
        refine r_goto (tgt := 23) C dX0_isThing_19 rfl ?_
        have h := Option.some.inj h
        subst h
        exact r_ret C rfl dX0_isThing_23 hE

/-! BorrowedWeight$State.isGone(I)Z -/
def X5_isGone (N : Nat) (k0 : Nat) (v1 : Int32) (σ : Sg) : Option (Int32) :=
  if (((gi σ k0 4) >>> (v1 &&& 31)) &&& 1) = 1 then (some 1) else (some 0)
set_option maxRecDepth 100000 in
set_option maxHeartbeats 4000000 in
theorem X5_isGone_ok {E : Ev} {k0 : Nat} (hk0 : StAt SH0 k0) {N : Nat} {v1 : Int32} {σ : Sg} {r : Int32} (h : X5_isGone N k0 v1 σ = some r) : Cm E (0) yX5_isGone cX5_isGone 2 (some .boolean) [.ref k0, .int v1] SH0 SH0 σ σ (some (.int r)) 0 0 := by
  refine Cm.intro (by decide +kernel) (Nat.le_of_ble_eq_true rfl) (fun _ h => by obtain ⟨_, _, _, _, _, _, h⟩ := h; exact h) (fun Z C hE => ?_)
  show Wm E Z 0 0 SH0 σ 0 [(0, .ref k0), (1, .int v1)] []
  unfold X5_isGone at h
  refine r_aload_n (pc' := 1) C dX5_isGone_0 rfl 0 rfl ?_
  refine r_getI (pc' := 4) C flX5_28 (st0 hk0) rfl dX5_isGone_1 rfl ?_
  refine r_iload_n (pc' := 5) C dX5_isGone_4 rfl 1 rfl ?_
  refine r_ishr (pc' := 6) C dX5_isGone_5 rfl ?_
  refine r_iconst (pc' := 7) C dX5_isGone_6 rfl kc_1 ?_
  refine r_iand (pc' := 8) C dX5_isGone_7 rfl ?_
  refine r_iconst (pc' := 9) C dX5_isGone_8 rfl kc_1 ?_
  refine r_icmp_ne (tgt := 16) (pc' := 12) C dX5_isGone_9 rfl rfl (fun c1 => ?_) (fun c1 => ?_)
  · rw [if_neg c1] at h
    refine r_iconst (pc' := 17) C dX5_isGone_16 rfl kc_0 ?_
    have h := Option.some.inj h
    subst h
    exact r_ret C rfl dX5_isGone_17 hE
  · rw [if_pos c1] at h
    refine r_iconst (pc' := 13) C dX5_isGone_12 rfl kc_1 ?_
    refine r_goto (tgt := 17) C dX5_isGone_13 rfl ?_
    have h := Option.some.inj h
    subst h
    exact r_ret C rfl dX5_isGone_17 hE

/-! BorrowedWeight.faultOfStrings()I -/
def X8_faultOfStrings_j110 (N : Nat)  (kr : Int32 → Int32 → Option (Int32)) (v1 : Int32) (v2 : Int32) (v3 : Int32) (σ : Sg) : Option (Int32) :=
  if v3 = 0 then (some v2) else (kr v1 (v2 + 1))
set_option maxRecDepth 100000 in
set_option maxHeartbeats 4000000 in
theorem X8_faultOfStrings_j110_ok {E : Ev}  {N : Nat} {kr : Int32 → Int32 → Option (Int32)} {σ : Sg}  (hkr : ∀ (v1 : Int32) (v2 : Int32) (r : Int32), kr v1 v2 = some r → Gp E RX8 cX8_faultOfStrings (some .int) 5 (2) SH0 σ (some (.int r)) σ 15 [(0, .ref 0), (1, .int v1), (2, .int v2)] []) {v1 : Int32} {v2 : Int32} {v3 : Int32} {r : Int32} (h : X8_faultOfStrings_j110 N  kr v1 v2 v3 σ = some r) : Gp E RX8 cX8_faultOfStrings (some .int) 5 (2) SH0 σ (some (.int r)) σ 110 [(0, .ref 0), (1, .int v1), (2, .int v2), (3, .int v3)] [] := by
  intro Z C hE
  unfold X8_faultOfStrings_j110 at h
  refine r_iload_n (pc' := 111) C dX8_faultOfStrings_110 rfl 3 rfl ?_
  refine r_if_ne (tgt := 116) (pc' := 114) C dX8_faultOfStrings_111 rfl rfl (fun c11 => ?_) (fun c11 => ?_)
  · rw [if_neg c11] at h
    refine r_iinc (pc' := 119) (v := v2 + 1) (lv2 := [(2, .int (v2 + 1)), (0, .ref 0), (1, .int v1), (3, .int v3)]) C dX8_faultOfStrings_116 rfl 2 rfl rfl (Nat.le_of_ble_eq_true rfl) rfl ?_
    refine r_goto (tgt := 15) C dX8_faultOfStrings_119 rfl ?_
    refine r_sub [1, 2, 0] rfl ?_
    exact hkr _ _ _ h Z C hE
  · rw [if_pos c11] at h
    refine r_iload_n (pc' := 115) C dX8_faultOfStrings_114 rfl 2 rfl ?_
    have h := Option.some.inj h
    subst h
    exact r_ret C rfl dX8_faultOfStrings_115 hE
def X8_faultOfStrings_l15 (N : Nat)  (k122 : Int32 → Option (Int32)) (σ : Sg) : Nat → Int32 → Int32 → Option (Int32)
  | 0, _, _ => none
  | n + 1, v1, v2 =>
    if v1 ≤ v2 then (k122 v1) else (if (v2 - v2 / 3 * 3) = 2 then ((X6_at N v2 σ).bind fun r20 => (if r20 = 59 then (X8_faultOfStrings_j110 N (fun v1 v2 => X8_faultOfStrings_l15 N k122 σ n v1 v2) v1 v2 1 σ) else (X8_faultOfStrings_j110 N (fun v1 v2 => X8_faultOfStrings_l15 N k122 σ n v1 v2) v1 v2 0 σ))) else ((X6_digitAt N v2 σ).bind fun r6 => ((X0_isThing N r6 σ).bind fun r8 => (if r8 = 0 then (X8_faultOfStrings_j110 N (fun v1 v2 => X8_faultOfStrings_l15 N k122 σ n v1 v2) v1 v2 0 σ) else ((X5_isGone N 19 r6 σ).bind fun r12 => (if r12 = 0 then (if (v2 - v2 / 3 * 3) = 0 then (X8_faultOfStrings_j110 N (fun v1 v2 => X8_faultOfStrings_l15 N k122 σ n v1 v2) v1 v2 1 σ) else ((X6_digitAt N (v2 - 1) σ).bind fun r17 => (if r6 = r17 then (X8_faultOfStrings_j110 N (fun v1 v2 => X8_faultOfStrings_l15 N k122 σ n v1 v2) v1 v2 0 σ) else (X8_faultOfStrings_j110 N (fun v1 v2 => X8_faultOfStrings_l15 N k122 σ n v1 v2) v1 v2 1 σ)))) else (X8_faultOfStrings_j110 N (fun v1 v2 => X8_faultOfStrings_l15 N k122 σ n v1 v2) v1 v2 0 σ)))))))
set_option maxRecDepth 100000 in
set_option maxHeartbeats 4000000 in
theorem X8_faultOfStrings_l15_ok {E : Ev}  {N : Nat} {k122 : Int32 → Option (Int32)} {σ : Sg} (hk122 : ∀ (v1 : Int32) (r : Int32), k122 v1 = some r → Gp E RX8 cX8_faultOfStrings (some .int) 5 (2) SH0 σ (some (.int r)) σ 122 [(0, .ref 0), (1, .int v1)] []) : ∀ (n : Nat) (v1 : Int32) (v2 : Int32) (r : Int32), X8_faultOfStrings_l15 N k122 σ n v1 v2 = some r → Gp E RX8 cX8_faultOfStrings (some .int) 5 (2) SH0 σ (some (.int r)) σ 15 [(0, .ref 0), (1, .int v1), (2, .int v2)] [] := by
  intro n
  induction n with
  | zero => intro v1 v2 r h; cases h
  | succ n ih =>
    intro v1 v2 r h Z C hE
    unfold X8_faultOfStrings_l15 at h
    refine r_iload_n (pc' := 16) C dX8_faultOfStrings_15 rfl 2 rfl ?_
    refine r_iload_n (pc' := 17) C dX8_faultOfStrings_16 rfl 1 rfl ?_
    refine r_icmp_ge (tgt := 122) (pc' := 20) C dX8_faultOfStrings_17 rfl rfl (fun c3 => ?_) (fun c3 => ?_)
    · rw [if_pos c3] at h
      refine r_sub [0, 1] rfl ?_
      exact hk122 _ _ h Z C hE
    · rw [if_neg c3] at h
      refine r_iload_n (pc' := 21) C dX8_faultOfStrings_20 rfl 2 rfl ?_
      refine r_iconst (pc' := 22) C dX8_faultOfStrings_21 rfl kc_3 ?_
      refine r_irem (pc' := 23) C dX8_faultOfStrings_22 rfl (by decide) ?_
      refine r_iconst (pc' := 24) C dX8_faultOfStrings_23 rfl kc_2 ?_
      refine r_icmp_ne (tgt := 49) (pc' := 27) C dX8_faultOfStrings_24 rfl rfl (fun c5 => ?_) (fun c5 => ?_)
      · rw [if_neg c5] at h
        refine r_aload_n (pc' := 50) C dX8_faultOfStrings_49 rfl 0 rfl ?_
        refine r_getR (pc' := 53) C flX8_10 sh_0 rfl dX8_faultOfStrings_50 rfl ?_
        refine r_iload_n (pc' := 54) C dX8_faultOfStrings_53 rfl 2 rfl ?_
        obtain ⟨r6, e7, h⟩ := bd h
        refine r_cV1 (pc' := 57) C (X6_digitAt_ok  e7) mlX8_100 ceX6_digitAt cvX6_digitAt sh_1 rfl rfl rfl (Nat.le_of_ble_eq_true rfl) rfl (Nat.le_of_ble_eq_true rfl) dX8_faultOfStrings_54 rfl (kk := ?_)
        refine r_istore (pc' := 59) (lv2 := [(4, .int r6), (0, .ref 0), (1, .int v1), (2, .int v2)]) C dX8_faultOfStrings_57 rfl (Nat.le_of_ble_eq_true rfl) rfl ?_
        refine r_aload_n (pc' := 60) C dX8_faultOfStrings_59 rfl 1 rfl ?_
        refine r_getR (pc' := 63) C flX8_26 sh_0 rfl dX8_faultOfStrings_60 rfl ?_
        refine r_iload (pc' := 65) C dX8_faultOfStrings_63 rfl 0 rfl ?_
        obtain ⟨r8, e9, h⟩ := bd h
        refine r_cV1 (pc' := 68) C (X0_isThing_ok  e9) mlX8_138 ceX0_isThing cvX0_isThing sh_5 rfl rfl rfl (Nat.le_of_ble_eq_true rfl) rfl (Nat.le_of_ble_eq_true rfl) dX8_faultOfStrings_65 rfl (kk := ?_)
        refine r_if_eq (tgt := 108) (pc' := 71) C dX8_faultOfStrings_68 rfl rfl (fun c10 => ?_) (fun c10 => ?_)
        · rw [if_pos c10] at h
          refine r_iconst (pc' := 109) C dX8_faultOfStrings_108 rfl kc_0 ?_
          refine r_istore_n (pc' := 110) (lv2 := [(3, .int 0), (4, .int r6), (0, .ref 0), (1, .int v1), (2, .int v2)]) C dX8_faultOfStrings_109 rfl rfl (Nat.le_of_ble_eq_true rfl) rfl ?_
          refine r_sub [2, 3, 4, 0] rfl ?_
          exact X8_faultOfStrings_j110_ok  ih h Z C hE
        · rw [if_neg c10] at h
          refine r_aload_n (pc' := 72) C dX8_faultOfStrings_71 rfl 1 rfl ?_
          refine r_getR (pc' := 75) C flX8_33 sh_0 rfl dX8_faultOfStrings_72 rfl ?_
          refine r_iload (pc' := 77) C dX8_faultOfStrings_75 rfl 0 rfl ?_
          obtain ⟨r12, e13, h⟩ := bd h
          refine r_cV1 (pc' := 80) C (X5_isGone_ok stc_19 e13) mlX8_160 ceX5_isGone cvX5_isGone sh_19 rfl rfl rfl (Nat.le_of_ble_eq_true rfl) rfl (Nat.le_of_ble_eq_true rfl) dX8_faultOfStrings_77 rfl (kk := ?_)
          refine r_if_ne (tgt := 108) (pc' := 83) C dX8_faultOfStrings_80 rfl rfl (fun c14 => ?_) (fun c14 => ?_)
          · rw [if_neg c14] at h
            refine r_iconst (pc' := 109) C dX8_faultOfStrings_108 rfl kc_0 ?_
            refine r_istore_n (pc' := 110) (lv2 := [(3, .int 0), (4, .int r6), (0, .ref 0), (1, .int v1), (2, .int v2)]) C dX8_faultOfStrings_109 rfl rfl (Nat.le_of_ble_eq_true rfl) rfl ?_
            refine r_sub [2, 3, 4, 0] rfl ?_
            exact X8_faultOfStrings_j110_ok  ih h Z C hE
          · rw [if_pos c14] at h
            refine r_iload_n (pc' := 84) C dX8_faultOfStrings_83 rfl 3 rfl ?_
            refine r_iconst (pc' := 85) C dX8_faultOfStrings_84 rfl kc_3 ?_
            refine r_irem (pc' := 86) C dX8_faultOfStrings_85 rfl (by decide) ?_
            refine r_if_eq (tgt := 104) (pc' := 89) C dX8_faultOfStrings_86 rfl rfl (fun c16 => ?_) (fun c16 => ?_)
            · rw [if_pos c16] at h
              refine r_iconst (pc' := 105) C dX8_faultOfStrings_104 rfl kc_1 ?_
              refine r_goto (tgt := 109) C dX8_faultOfStrings_105 rfl ?_
              refine r_istore_n (pc' := 110) (lv2 := [(3, .int 1), (4, .int r6), (0, .ref 0), (1, .int v1), (2, .int v2)]) C dX8_faultOfStrings_109 rfl rfl (Nat.le_of_ble_eq_true rfl) rfl ?_
              refine r_sub [2, 3, 4, 0] rfl ?_
              exact X8_faultOfStrings_j110_ok  ih h Z C hE
            · rw [if_neg c16] at h
              refine r_iload (pc' := 91) C dX8_faultOfStrings_89 rfl 0 rfl ?_
              refine r_aload_n (pc' := 92) C dX8_faultOfStrings_91 rfl 1 rfl ?_
              refine r_getR (pc' := 95) C flX8_10 sh_0 rfl dX8_faultOfStrings_92 rfl ?_
              refine r_iload_n (pc' := 96) C dX8_faultOfStrings_95 rfl 3 rfl ?_
              refine r_iconst (pc' := 97) C dX8_faultOfStrings_96 rfl kc_1 ?_
              refine r_isub (pc' := 98) C dX8_faultOfStrings_97 rfl ?_
              obtain ⟨r17, e18, h⟩ := bd h
              refine r_cV1 (pc' := 101) C (X6_digitAt_ok  e18) mlX8_100 ceX6_digitAt cvX6_digitAt sh_1 rfl rfl rfl (Nat.le_of_ble_eq_true rfl) rfl (Nat.le_of_ble_eq_true rfl) dX8_faultOfStrings_98 rfl (kk := ?_)
              refine r_icmp_eq (tgt := 108) (pc' := 104) C dX8_faultOfStrings_101 rfl rfl (fun c19 => ?_) (fun c19 => ?_)
              · rw [if_pos c19] at h
                refine r_iconst (pc' := 109) C dX8_faultOfStrings_108 rfl kc_0 ?_
                refine r_istore_n (pc' := 110) (lv2 := [(3, .int 0), (4, .int r6), (0, .ref 0), (1, .int v1), (2, .int v2)]) C dX8_faultOfStrings_109 rfl rfl (Nat.le_of_ble_eq_true rfl) rfl ?_
                refine r_sub [2, 3, 4, 0] rfl ?_
                exact X8_faultOfStrings_j110_ok  ih h Z C hE
              · rw [if_neg c19] at h
                refine r_iconst (pc' := 105) C dX8_faultOfStrings_104 rfl kc_1 ?_
                refine r_goto (tgt := 109) C dX8_faultOfStrings_105 rfl ?_
                refine r_istore_n (pc' := 110) (lv2 := [(3, .int 1), (4, .int r6), (0, .ref 0), (1, .int v1), (2, .int v2)]) C dX8_faultOfStrings_109 rfl rfl (Nat.le_of_ble_eq_true rfl) rfl ?_
                refine r_sub [2, 3, 4, 0] rfl ?_
                exact X8_faultOfStrings_j110_ok  ih h Z C hE
      · rw [if_pos c5] at h
        refine r_aload_n (pc' := 28) C dX8_faultOfStrings_27 rfl 0 rfl ?_
        refine r_getR (pc' := 31) C flX8_10 sh_0 rfl dX8_faultOfStrings_28 rfl ?_
        refine r_iload_n (pc' := 32) C dX8_faultOfStrings_31 rfl 2 rfl ?_
        obtain ⟨r20, e21, h⟩ := bd h
        refine r_cV1 (pc' := 35) C (X6_at_ok  e21) mlX8_231 ceX6_at cvX6_at sh_1 rfl rfl rfl (Nat.le_of_ble_eq_true rfl) rfl (Nat.le_of_ble_eq_true rfl) dX8_faultOfStrings_32 rfl (kk := ?_)
        refine r_bipush (pc' := 37) C dX8_faultOfStrings_35 rfl kb_59 ?_
        refine r_icmp_ne (tgt := 44) (pc' := 40) C dX8_faultOfStrings_37 rfl rfl (fun c22 => ?_) (fun c22 => ?_)
        · rw [if_neg c22] at h
          refine r_iconst (pc' := 45) C dX8_faultOfStrings_44 rfl kc_0 ?_
          refine r_istore_n (pc' := 46) (lv2 := [(3, .int 0), (0, .ref 0), (1, .int v1), (2, .int v2)]) C dX8_faultOfStrings_45 rfl rfl (Nat.le_of_ble_eq_true rfl) rfl ?_
          refine r_goto (tgt := 110) C dX8_faultOfStrings_46 rfl ?_
          refine r_sub [1, 2, 3, 0] rfl ?_
          exact X8_faultOfStrings_j110_ok  ih h Z C hE
        · rw [if_pos c22] at h
          refine r_iconst (pc' := 41) C dX8_faultOfStrings_40 rfl kc_1 ?_
          refine r_goto (tgt := 45) C dX8_faultOfStrings_41 rfl ?_
          refine r_istore_n (pc' := 46) (lv2 := [(3, .int 1), (0, .ref 0), (1, .int v1), (2, .int v2)]) C dX8_faultOfStrings_45 rfl rfl (Nat.le_of_ble_eq_true rfl) rfl ?_
          refine r_goto (tgt := 110) C dX8_faultOfStrings_46 rfl ?_
          refine r_sub [1, 2, 3, 0] rfl ?_
          exact X8_faultOfStrings_j110_ok  ih h Z C hE
def X8_faultOfStrings_j122 (N : Nat)   (v1 : Int32) (σ : Sg) : Option (Int32) :=
  if 35 < (gi σ 1 1) then (some v1) else (if v1 ≤ 0 then (some (-1)) else (if (v1 - v1 / 3 * 3) = 2 then (some (-1)) else (some v1)))
set_option maxRecDepth 100000 in
set_option maxHeartbeats 4000000 in
theorem X8_faultOfStrings_j122_ok {E : Ev}  {N : Nat}  {σ : Sg}   {v1 : Int32} {r : Int32} (h : X8_faultOfStrings_j122 N   v1 σ = some r) : Gp E RX8 cX8_faultOfStrings (some .int) 5 (2) SH0 σ (some (.int r)) σ 122 [(0, .ref 0), (1, .int v1)] [] := by
  intro Z C hE
  unfold X8_faultOfStrings_j122 at h
  refine r_aload_n (pc' := 123) C dX8_faultOfStrings_122 rfl 0 rfl ?_
  refine r_getR (pc' := 126) C flX8_10 sh_0 rfl dX8_faultOfStrings_123 rfl ?_
  refine r_getI (pc' := 129) C flX8_96 sh_1 rfl dX8_faultOfStrings_126 rfl ?_
  refine r_bipush (pc' := 131) C dX8_faultOfStrings_129 rfl kb_35 ?_
  refine r_icmp_gt (tgt := 145) (pc' := 134) C dX8_faultOfStrings_131 rfl rfl (fun c23 => ?_) (fun c23 => ?_)
  · rw [if_pos c23] at h
    refine r_iload_n (pc' := 146) C dX8_faultOfStrings_145 rfl 1 rfl ?_
    have h := Option.some.inj h
    subst h
    exact r_ret C rfl dX8_faultOfStrings_146 hE
  · rw [if_neg c23] at h
    refine r_iload_n (pc' := 135) C dX8_faultOfStrings_134 rfl 1 rfl ?_
    refine r_if_le (tgt := 147) (pc' := 138) C dX8_faultOfStrings_135 rfl rfl (fun c24 => ?_) (fun c24 => ?_)
    · rw [if_pos c24] at h
      refine r_iconst (pc' := 148) C dX8_faultOfStrings_147 rfl kc_m1 ?_
      have h := Option.some.inj h
      subst h
      exact r_ret C rfl dX8_faultOfStrings_148 hE
    · rw [if_neg c24] at h
      refine r_iload_n (pc' := 139) C dX8_faultOfStrings_138 rfl 1 rfl ?_
      refine r_iconst (pc' := 140) C dX8_faultOfStrings_139 rfl kc_3 ?_
      refine r_irem (pc' := 141) C dX8_faultOfStrings_140 rfl (by decide) ?_
      refine r_iconst (pc' := 142) C dX8_faultOfStrings_141 rfl kc_2 ?_
      refine r_icmp_eq (tgt := 147) (pc' := 145) C dX8_faultOfStrings_142 rfl rfl (fun c26 => ?_) (fun c26 => ?_)
      · rw [if_pos c26] at h
        refine r_iconst (pc' := 148) C dX8_faultOfStrings_147 rfl kc_m1 ?_
        have h := Option.some.inj h
        subst h
        exact r_ret C rfl dX8_faultOfStrings_148 hE
      · rw [if_neg c26] at h
        refine r_iload_n (pc' := 146) C dX8_faultOfStrings_145 rfl 1 rfl ?_
        have h := Option.some.inj h
        subst h
        exact r_ret C rfl dX8_faultOfStrings_146 hE
def X8_faultOfStrings (N : Nat)   (σ : Sg) : Option (Int32) :=
  (J9_min_7cf53 N (gi σ 1 1) 35 σ).bind fun r1 => (X8_faultOfStrings_l15 N (fun v1 => X8_faultOfStrings_j122 N v1 σ) σ N r1 0)
set_option maxRecDepth 100000 in
set_option maxHeartbeats 4000000 in
theorem X8_faultOfStrings_ok {E : Ev}  {N : Nat}  {σ : Sg} {r : Int32} (h : X8_faultOfStrings N   σ = some r) : Cm E (2) yX8_faultOfStrings cX8_faultOfStrings 5 (some .int) [.ref 0] SH0 SH0 σ σ (some (.int r)) 0 0 := by
  refine Cm.intro (by decide +kernel) (Nat.le_of_ble_eq_true rfl) (fun _ h => by obtain ⟨_, _, _, _, _, _, h⟩ := h; exact h) (fun Z C hE => ?_)
  show Wm E Z 0 0 SH0 σ 0 [(0, .ref 0)] []
  unfold X8_faultOfStrings at h
  refine r_aload_n (pc' := 1) C dX8_faultOfStrings_0 rfl 0 rfl ?_
  refine r_getR (pc' := 4) C flX8_10 sh_0 rfl dX8_faultOfStrings_1 rfl ?_
  refine r_getI (pc' := 7) C flX8_96 sh_1 rfl dX8_faultOfStrings_4 rfl ?_
  refine r_bipush (pc' := 9) C dX8_faultOfStrings_7 rfl kb_35 ?_
  obtain ⟨r1, e2, h⟩ := bd h
  refine r_cS1 (pc' := 12) C (J9_min_7cf53_ok  e2) mlX8_310 ceJ9_min_7cf53 csJ9_min_7cf53 rfl (Nat.le_of_ble_eq_true rfl) rfl (Nat.le_of_ble_eq_true rfl) dX8_faultOfStrings_9 rfl (kk := ?_)
  refine r_istore_n (pc' := 13) (lv2 := [(1, .int r1), (0, .ref 0)]) C dX8_faultOfStrings_12 rfl rfl (Nat.le_of_ble_eq_true rfl) rfl ?_
  refine r_iconst (pc' := 14) C dX8_faultOfStrings_13 rfl kc_0 ?_
  refine r_istore_n (pc' := 15) (lv2 := [(2, .int 0), (1, .int r1), (0, .ref 0)]) C dX8_faultOfStrings_14 rfl rfl (Nat.le_of_ble_eq_true rfl) rfl ?_
  refine r_sub [2, 1, 0] rfl ?_
  exact X8_faultOfStrings_l15_ok  (fun _ _ h Z C hE => by exact X8_faultOfStrings_j122_ok  h Z C hE) N _ _ _ h Z C hE

/-! BorrowedWeight$State.become(LBorrowedWeight$State;)V -/
def X5_become_l2 (N : Nat) (k0 : Nat) (k1 : Nat) (k62 : Sg → Option (Sg))  : Nat → Int32 → Sg → Option (Sg)
  | 0, _, _ => none
  | n + 1, v2, σ =>
    if 8 ≤ v2 then (k62 σ) else (if inb v2 8 = true then if inb v2 8 = true then bnS (wi σ (k0 + 1) v2.toNatClampNeg (gi σ (k1 + 1) v2.toNatClampNeg)) fun σ4 => if inb v2 8 = true then if inb v2 8 = true then bnS (wi σ4 (k0 + 2) v2.toNatClampNeg (gi σ4 (k1 + 2) v2.toNatClampNeg)) fun σ8 => if inb v2 8 = true then if inb v2 8 = true then bnS (wi σ8 (k0 + 3) v2.toNatClampNeg (gi σ8 (k1 + 3) v2.toNatClampNeg)) fun σ12 => if inb v2 8 = true then if inb v2 8 = true then bnS (wi σ12 (k0 + 4) v2.toNatClampNeg (gi σ12 (k1 + 4) v2.toNatClampNeg)) fun σ16 => X5_become_l2 N k0 k1 k62 n (v2 + 1) σ16 else none else none else none else none else none else none else none else none)
set_option maxRecDepth 100000 in
set_option maxHeartbeats 4000000 in
theorem X5_become_l2_ok {E : Ev} {k0 : Nat} (hk0 : StAt SH0 k0) {k1 : Nat} (hk1 : StAt SH0 k1) {N : Nat} {k62 : Sg → Option (Sg)}  (hk62 : ∀ (σ : Sg) (r : Sg), k62 σ = some r → Gp E RX5 cX5_become none 3 (0) SH0 r (none) σ 62 [(0, .ref k0), (1, .ref k1)] []) : ∀ (n : Nat) (v2 : Int32) (σ : Sg) (r : Sg), X5_become_l2 N k0 k1 k62 n v2 σ = some r → Gp E RX5 cX5_become none 3 (0) SH0 r (none) σ 2 [(0, .ref k0), (1, .ref k1), (2, .int v2)] [] := by
  intro n
  induction n with
  | zero => intro v2 σ r h; cases h
  | succ n ih =>
    intro v2 σ r h Z C hE
    unfold X5_become_l2 at h
    refine r_iload_n (pc' := 3) C dX5_become_2 rfl 2 rfl ?_
    refine r_bipush (pc' := 5) C dX5_become_3 rfl kb_8 ?_
    refine r_icmp_ge (tgt := 62) (pc' := 8) C dX5_become_5 rfl rfl (fun c1 => ?_) (fun c1 => ?_)
    · rw [if_pos c1] at h
      refine r_sub [0, 1] rfl ?_
      exact hk62 _ _ h Z C hE
    · rw [if_neg c1] at h
      refine r_aload_n (pc' := 9) C dX5_become_8 rfl 0 rfl ?_
      refine r_getR (pc' := 12) C flX5_9 (st0 hk0) rfl dX5_become_9 rfl ?_
      refine r_iload_n (pc' := 13) C dX5_become_12 rfl 2 rfl ?_
      refine r_aload_n (pc' := 14) C dX5_become_13 rfl 1 rfl ?_
      refine r_getR (pc' := 17) C flX5_9 (st0 hk1) rfl dX5_become_14 rfl ?_
      refine r_iload_n (pc' := 18) C dX5_become_17 rfl 2 rfl ?_
      obtain ⟨q2, h⟩ := ck h
      refine r_iald (pc' := 19) C (st1 hk1) (vin q2) dX5_become_18 rfl ?_
      obtain ⟨q3, h⟩ := ck h
      obtain ⟨σ4, e5, h⟩ := bs h
      refine r_iast (pc' := 20) (σ1 := σ4) C (st1 hk0) (vin q3) dX5_become_19 rfl e5 ?_
      refine r_aload_n (pc' := 21) C dX5_become_20 rfl 0 rfl ?_
      refine r_getR (pc' := 24) C flX5_15 (st0 hk0) rfl dX5_become_21 rfl ?_
      refine r_iload_n (pc' := 25) C dX5_become_24 rfl 2 rfl ?_
      refine r_aload_n (pc' := 26) C dX5_become_25 rfl 1 rfl ?_
      refine r_getR (pc' := 29) C flX5_15 (st0 hk1) rfl dX5_become_26 rfl ?_
      refine r_iload_n (pc' := 30) C dX5_become_29 rfl 2 rfl ?_
      obtain ⟨q6, h⟩ := ck h
      refine r_iald (pc' := 31) C (st2 hk1) (vin q6) dX5_become_30 rfl ?_
      obtain ⟨q7, h⟩ := ck h
      obtain ⟨σ8, e9, h⟩ := bs h
      refine r_iast (pc' := 32) (σ1 := σ8) C (st2 hk0) (vin q7) dX5_become_31 rfl e9 ?_
      refine r_aload_n (pc' := 33) C dX5_become_32 rfl 0 rfl ?_
      refine r_getR (pc' := 36) C flX5_18 (st0 hk0) rfl dX5_become_33 rfl ?_
      refine r_iload_n (pc' := 37) C dX5_become_36 rfl 2 rfl ?_
      refine r_aload_n (pc' := 38) C dX5_become_37 rfl 1 rfl ?_
      refine r_getR (pc' := 41) C flX5_18 (st0 hk1) rfl dX5_become_38 rfl ?_
      refine r_iload_n (pc' := 42) C dX5_become_41 rfl 2 rfl ?_
      obtain ⟨q10, h⟩ := ck h
      refine r_iald (pc' := 43) C (st3 hk1) (vin q10) dX5_become_42 rfl ?_
      obtain ⟨q11, h⟩ := ck h
      obtain ⟨σ12, e13, h⟩ := bs h
      refine r_iast (pc' := 44) (σ1 := σ12) C (st3 hk0) (vin q11) dX5_become_43 rfl e13 ?_
      refine r_aload_n (pc' := 45) C dX5_become_44 rfl 0 rfl ?_
      refine r_getR (pc' := 48) C flX5_21 (st0 hk0) rfl dX5_become_45 rfl ?_
      refine r_iload_n (pc' := 49) C dX5_become_48 rfl 2 rfl ?_
      refine r_aload_n (pc' := 50) C dX5_become_49 rfl 1 rfl ?_
      refine r_getR (pc' := 53) C flX5_21 (st0 hk1) rfl dX5_become_50 rfl ?_
      refine r_iload_n (pc' := 54) C dX5_become_53 rfl 2 rfl ?_
      obtain ⟨q14, h⟩ := ck h
      refine r_iald (pc' := 55) C (st4 hk1) (vin q14) dX5_become_54 rfl ?_
      obtain ⟨q15, h⟩ := ck h
      obtain ⟨σ16, e17, h⟩ := bs h
      refine r_iast (pc' := 56) (σ1 := σ16) C (st4 hk0) (vin q15) dX5_become_55 rfl e17 ?_
      refine r_iinc (pc' := 59) (v := v2 + 1) (lv2 := [(2, .int (v2 + 1)), (0, .ref k0), (1, .ref k1)]) C dX5_become_56 rfl 2 rfl rfl (Nat.le_of_ble_eq_true rfl) rfl ?_
      refine r_goto (tgt := 2) C dX5_become_59 rfl ?_
      refine r_sub [1, 2, 0] rfl ?_
      exact ih _ _ _ h Z C hE
def X5_become_j62 (N : Nat) (k0 : Nat) (k1 : Nat)   (σ : Sg) : Option (Sg) :=
  bnS (wi σ k0 4 (gi σ k1 4)) fun σ18 => bnS (wi σ18 k0 5 (gi σ18 k1 5)) fun σ20 => bnS (wi σ20 k0 6 (gi σ20 k1 6)) fun σ22 => bnS (wi σ22 k0 7 (gi σ22 k1 7)) fun σ24 => bnS (wi σ24 k0 8 (gi σ24 k1 8)) fun σ26 => some σ26
set_option maxRecDepth 100000 in
set_option maxHeartbeats 4000000 in
theorem X5_become_j62_ok {E : Ev} {k0 : Nat} (hk0 : StAt SH0 k0) {k1 : Nat} (hk1 : StAt SH0 k1) {N : Nat}     {σ : Sg} {r : Sg} (h : X5_become_j62 N k0 k1   σ = some r) : Gp E RX5 cX5_become none 3 (0) SH0 r (none) σ 62 [(0, .ref k0), (1, .ref k1)] [] := by
  intro Z C hE
  unfold X5_become_j62 at h
  refine r_aload_n (pc' := 63) C dX5_become_62 rfl 0 rfl ?_
  refine r_aload_n (pc' := 64) C dX5_become_63 rfl 1 rfl ?_
  refine r_getI (pc' := 67) C flX5_28 (st0 hk1) rfl dX5_become_64 rfl ?_
  obtain ⟨σ18, e19, h⟩ := bs h
  refine r_putI (pc' := 70) (σ1 := σ18) C fpX5_28 (st0 hk0) rfl rfl rfl dX5_become_67 rfl e19 ?_
  refine r_aload_n (pc' := 71) C dX5_become_70 rfl 0 rfl ?_
  refine r_aload_n (pc' := 72) C dX5_become_71 rfl 1 rfl ?_
  refine r_getI (pc' := 75) C flX5_24 (st0 hk1) rfl dX5_become_72 rfl ?_
  obtain ⟨σ20, e21, h⟩ := bs h
  refine r_putI (pc' := 78) (σ1 := σ20) C fpX5_24 (st0 hk0) rfl rfl rfl dX5_become_75 rfl e21 ?_
  refine r_aload_n (pc' := 79) C dX5_become_78 rfl 0 rfl ?_
  refine r_aload_n (pc' := 80) C dX5_become_79 rfl 1 rfl ?_
  refine r_getI (pc' := 83) C flX5_31 (st0 hk1) rfl dX5_become_80 rfl ?_
  obtain ⟨σ22, e23, h⟩ := bs h
  refine r_putI (pc' := 86) (σ1 := σ22) C fpX5_31 (st0 hk0) rfl rfl rfl dX5_become_83 rfl e23 ?_
  refine r_aload_n (pc' := 87) C dX5_become_86 rfl 0 rfl ?_
  refine r_aload_n (pc' := 88) C dX5_become_87 rfl 1 rfl ?_
  refine r_getI (pc' := 91) C flX5_34 (st0 hk1) rfl dX5_become_88 rfl ?_
  obtain ⟨σ24, e25, h⟩ := bs h
  refine r_putI (pc' := 94) (σ1 := σ24) C fpX5_34 (st0 hk0) rfl rfl rfl dX5_become_91 rfl e25 ?_
  refine r_aload_n (pc' := 95) C dX5_become_94 rfl 0 rfl ?_
  refine r_aload_n (pc' := 96) C dX5_become_95 rfl 1 rfl ?_
  refine r_getI (pc' := 99) C flX5_37 (st0 hk1) rfl dX5_become_96 rfl ?_
  obtain ⟨σ26, e27, h⟩ := bs h
  refine r_putI (pc' := 102) (σ1 := σ26) C fpX5_37 (st0 hk0) rfl rfl rfl dX5_become_99 rfl e27 ?_
  have h := Option.some.inj h
  subst h
  exact r_vret C dX5_become_102 hE
def X5_become (N : Nat) (k0 : Nat) (k1 : Nat)  (σ : Sg) : Option (Sg) :=
  X5_become_l2 N k0 k1 (fun σ => X5_become_j62 N k0 k1 σ) N 0 σ
set_option maxRecDepth 100000 in
set_option maxHeartbeats 4000000 in
theorem X5_become_ok {E : Ev} {k0 : Nat} (hk0 : StAt SH0 k0) {k1 : Nat} (hk1 : StAt SH0 k1) {N : Nat}  {σ : Sg} {r : Sg} (h : X5_become N k0 k1  σ = some r) : Cm E (0) yX5_become cX5_become 3 none [.ref k0, .ref k1] SH0 SH0 σ r (none) 0 0 := by
  refine Cm.intro (by decide +kernel) (Nat.le_of_ble_eq_true rfl) (fun _ h => by obtain ⟨_, _, _, _, _, _, h⟩ := h; exact h) (fun Z C hE => ?_)
  show Wm E Z 0 0 SH0 σ 0 [(0, .ref k0), (1, .ref k1)] []
  unfold X5_become at h
  refine r_iconst (pc' := 1) C dX5_become_0 rfl kc_0 ?_
  refine r_istore_n (pc' := 2) (lv2 := [(2, .int 0), (0, .ref k0), (1, .ref k1)]) C dX5_become_1 rfl rfl (Nat.le_of_ble_eq_true rfl) rfl ?_
  refine r_sub [1, 2, 0] rfl ?_
  exact X5_become_l2_ok hk0 hk1 (fun _ _ h Z C hE => by exact X5_become_j62_ok hk0 hk1 h Z C hE) N _ _ _ h Z C hE

/-! BorrowedWeight$Past.draw(LBorrowedWeight$State;)V -/
def X1_draw (N : Nat) (k1 : Nat)  (σ : Sg) : Option (Sg) :=
  if inb ((gi σ 29 1) &&& 15) 16 = true then (L30.getD ((gi σ 29 1) &&& 15).toNatClampNeg none).bind fun p2 => (if isState p2 = true then (X5_become N p2 k1 σ).bind fun r5 => (some r5) else none) else none
set_option maxRecDepth 100000 in
set_option maxHeartbeats 4000000 in
theorem X1_draw_ok {E : Ev} {k1 : Nat} (hk1 : StAt SH0 k1) {N : Nat}  {σ : Sg} {r : Sg} (h : X1_draw N k1  σ = some r) : Cm E (1) yX1_draw cX1_draw 2 none [.ref 29, .ref k1] SH0 SH0 σ r (none) 0 0 := by
  refine Cm.intro (by decide +kernel) (Nat.le_of_ble_eq_true rfl) (fun _ h => by obtain ⟨_, _, _, _, _, _, h⟩ := h; exact h) (fun Z C hE => ?_)
  show Wm E Z 0 0 SH0 σ 0 [(0, .ref 29), (1, .ref k1)] []
  unfold X1_draw at h
  refine r_aload_n (pc' := 1) C dX1_draw_0 rfl 0 rfl ?_
  refine r_getR (pc' := 4) C flX1_13 sh_29 rfl dX1_draw_1 rfl ?_
  refine r_aload_n (pc' := 5) C dX1_draw_4 rfl 0 rfl ?_
  refine r_getI (pc' := 8) C flX1_22 sh_29 rfl dX1_draw_5 rfl ?_
  refine r_bipush (pc' := 10) C dX1_draw_8 rfl kb_15 ?_
  refine r_iand (pc' := 11) C dX1_draw_10 rfl ?_
  obtain ⟨q1, h⟩ := ck h
  obtain ⟨p2, e3, h⟩ := bd h
  refine r_aald (pc' := 12) (l := L30) C sh_30 (vin q1) e3 dX1_draw_11 rfl ?_
  refine r_aload_n (pc' := 13) C dX1_draw_12 rfl 1 rfl ?_
  obtain ⟨q4, h⟩ := ck h
  obtain ⟨r5, e6, h⟩ := bd h
  refine r_cV0 (pc' := 16) C (X5_become_ok (stof q4) hk1 e6) mlX1_25 ceX5_become cvX5_become (st0 (stof q4)) rfl rfl rfl (Nat.le_of_ble_eq_true rfl) rfl (Nat.le_of_ble_eq_true rfl) dX1_draw_13 rfl (kk := ?_)
  have h := Option.some.inj h
  subst h
  exact r_vret C dX1_draw_16 hE

/-! BorrowedWeight$State.isTied(II)Z -/
def X5_isTied (N : Nat) (k0 : Nat) (v1 : Int32) (v2 : Int32) (σ : Sg) : Option (Int32) :=
  if inb v1 8 = true then if (((gi σ (k0 + 4) v1.toNatClampNeg) >>> (v2 &&& 31)) &&& 1) = 1 then (some 1) else (some 0) else none
set_option maxRecDepth 100000 in
set_option maxHeartbeats 4000000 in
theorem X5_isTied_ok {E : Ev} {k0 : Nat} (hk0 : StAt SH0 k0) {N : Nat} {v1 : Int32} {v2 : Int32} {σ : Sg} {r : Int32} (h : X5_isTied N k0 v1 v2 σ = some r) : Cm E (0) yX5_isTied cX5_isTied 3 (some .boolean) [.ref k0, .int v1, .int v2] SH0 SH0 σ σ (some (.int r)) 0 0 := by
  refine Cm.intro (by decide +kernel) (Nat.le_of_ble_eq_true rfl) (fun _ h => by obtain ⟨_, _, _, _, _, _, h⟩ := h; exact h) (fun Z C hE => ?_)
  show Wm E Z 0 0 SH0 σ 0 [(0, .ref k0), (1, .int v1), (2, .int v2)] []
  unfold X5_isTied at h
  refine r_aload_n (pc' := 1) C dX5_isTied_0 rfl 0 rfl ?_
  refine r_getR (pc' := 4) C flX5_21 (st0 hk0) rfl dX5_isTied_1 rfl ?_
  refine r_iload_n (pc' := 5) C dX5_isTied_4 rfl 1 rfl ?_
  obtain ⟨q1, h⟩ := ck h
  refine r_iald (pc' := 6) C (st4 hk0) (vin q1) dX5_isTied_5 rfl ?_
  refine r_iload_n (pc' := 7) C dX5_isTied_6 rfl 2 rfl ?_
  refine r_ishr (pc' := 8) C dX5_isTied_7 rfl ?_
  refine r_iconst (pc' := 9) C dX5_isTied_8 rfl kc_1 ?_
  refine r_iand (pc' := 10) C dX5_isTied_9 rfl ?_
  refine r_iconst (pc' := 11) C dX5_isTied_10 rfl kc_1 ?_
  refine r_icmp_ne (tgt := 18) (pc' := 14) C dX5_isTied_11 rfl rfl (fun c2 => ?_) (fun c2 => ?_)
  · rw [if_neg c2] at h
    refine r_iconst (pc' := 19) C dX5_isTied_18 rfl kc_0 ?_
    have h := Option.some.inj h
    subst h
    exact r_ret C rfl dX5_isTied_19 hE
  · rw [if_pos c2] at h
    refine r_iconst (pc' := 15) C dX5_isTied_14 rfl kc_1 ?_
    refine r_goto (tgt := 19) C dX5_isTied_15 rfl ?_
    have h := Option.some.inj h
    subst h
    exact r_ret C rfl dX5_isTied_19 hE

/-! BorrowedWeight$State.toggle(II)V -/
def X5_toggle (N : Nat) (k0 : Nat) (v1 : Int32) (v2 : Int32) (σ : Sg) : Option (Sg) :=
  if inb v1 8 = true then if inb v1 8 = true then bnS (wi σ (k0 + 4) v1.toNatClampNeg ((gi σ (k0 + 4) v1.toNatClampNeg) ^^^ (1 <<< (v2 &&& 31)))) fun σ3 => if inb v2 8 = true then if inb v2 8 = true then bnS (wi σ3 (k0 + 4) v2.toNatClampNeg ((gi σ3 (k0 + 4) v2.toNatClampNeg) ^^^ (1 <<< (v1 &&& 31)))) fun σ7 => some σ7 else none else none else none else none
set_option maxRecDepth 100000 in
set_option maxHeartbeats 4000000 in
theorem X5_toggle_ok {E : Ev} {k0 : Nat} (hk0 : StAt SH0 k0) {N : Nat} {v1 : Int32} {v2 : Int32} {σ : Sg} {r : Sg} (h : X5_toggle N k0 v1 v2 σ = some r) : Cm E (0) yX5_toggle cX5_toggle 3 none [.ref k0, .int v1, .int v2] SH0 SH0 σ r (none) 0 0 := by
  refine Cm.intro (by decide +kernel) (Nat.le_of_ble_eq_true rfl) (fun _ h => by obtain ⟨_, _, _, _, _, _, h⟩ := h; exact h) (fun Z C hE => ?_)
  show Wm E Z 0 0 SH0 σ 0 [(0, .ref k0), (1, .int v1), (2, .int v2)] []
  unfold X5_toggle at h
  refine r_aload_n (pc' := 1) C dX5_toggle_0 rfl 0 rfl ?_
  refine r_getR (pc' := 4) C flX5_21 (st0 hk0) rfl dX5_toggle_1 rfl ?_
  refine r_iload_n (pc' := 5) C dX5_toggle_4 rfl 1 rfl ?_
  refine r_dup2 (pc' := 6) C dX5_toggle_5 rfl rfl rfl ?_
  obtain ⟨q1, h⟩ := ck h
  refine r_iald (pc' := 7) C (st4 hk0) (vin q1) dX5_toggle_6 rfl ?_
  refine r_iconst (pc' := 8) C dX5_toggle_7 rfl kc_1 ?_
  refine r_iload_n (pc' := 9) C dX5_toggle_8 rfl 2 rfl ?_
  refine r_ishl (pc' := 10) C dX5_toggle_9 rfl ?_
  refine r_ixor (pc' := 11) C dX5_toggle_10 rfl ?_
  obtain ⟨q2, h⟩ := ck h
  obtain ⟨σ3, e4, h⟩ := bs h
  refine r_iast (pc' := 12) (σ1 := σ3) C (st4 hk0) (vin q2) dX5_toggle_11 rfl e4 ?_
  refine r_aload_n (pc' := 13) C dX5_toggle_12 rfl 0 rfl ?_
  refine r_getR (pc' := 16) C flX5_21 (st0 hk0) rfl dX5_toggle_13 rfl ?_
  refine r_iload_n (pc' := 17) C dX5_toggle_16 rfl 2 rfl ?_
  refine r_dup2 (pc' := 18) C dX5_toggle_17 rfl rfl rfl ?_
  obtain ⟨q5, h⟩ := ck h
  refine r_iald (pc' := 19) C (st4 hk0) (vin q5) dX5_toggle_18 rfl ?_
  refine r_iconst (pc' := 20) C dX5_toggle_19 rfl kc_1 ?_
  refine r_iload_n (pc' := 21) C dX5_toggle_20 rfl 1 rfl ?_
  refine r_ishl (pc' := 22) C dX5_toggle_21 rfl ?_
  refine r_ixor (pc' := 23) C dX5_toggle_22 rfl ?_
  obtain ⟨q6, h⟩ := ck h
  obtain ⟨σ7, e8, h⟩ := bs h
  refine r_iast (pc' := 24) (σ1 := σ7) C (st4 hk0) (vin q6) dX5_toggle_23 rfl e8 ?_
  have h := Option.some.inj h
  subst h
  exact r_vret C dX5_toggle_24 hE

/-! BorrowedWeight.tieTold()I -/
def X8_tieTold_l4 (N : Nat)    : Nat → Int32 → Int32 → Sg → Option (Int32 × Sg)
  | 0, _, _, _ => none
  | n + 1, v1, v2, σ =>
    if (gi σ 1 1) ≤ (v2 + 1) then (some (v1, σ)) else ((X6_digitAt N v2 σ).bind fun r2 => ((X6_digitAt N (v2 + 1) σ).bind fun r4 => ((X0_isThing N r2 σ).bind fun r6 => (if r6 = 0 then (X8_tieTold_l4 N n v1 (v2 + 3) σ) else ((X0_isThing N r4 σ).bind fun r9 => (if r9 = 0 then (X8_tieTold_l4 N n v1 (v2 + 3) σ) else ((X5_isTied N 19 r2 r4 σ).bind fun r12 => (if r12 = 0 then ((X5_toggle N 19 r2 r4 σ).bind fun r15 => (X8_tieTold_l4 N n (v1 + 1) (v2 + 3) r15)) else (X8_tieTold_l4 N n v1 (v2 + 3) σ)))))))))
set_option maxRecDepth 100000 in
set_option maxHeartbeats 4000000 in
theorem X8_tieTold_l4_ok {E : Ev}  {N : Nat}    : ∀ (n : Nat) (v1 : Int32) (v2 : Int32) (σ : Sg) (r : Int32 × Sg), X8_tieTold_l4 N n v1 v2 σ = some r → Gp E RX8 cX8_tieTold (some .int) 5 (2) SH0 r.2 (some (.int r.1)) σ 4 [(0, .ref 0), (1, .int v1), (2, .int v2)] [] := by
  intro n
  induction n with
  | zero => intro v1 v2 σ r h; cases h
  | succ n ih =>
    intro v1 v2 σ r h Z C hE
    unfold X8_tieTold_l4 at h
    refine r_iload_n (pc' := 5) C dX8_tieTold_4 rfl 2 rfl ?_
    refine r_iconst (pc' := 6) C dX8_tieTold_5 rfl kc_1 ?_
    refine r_iadd (pc' := 7) C dX8_tieTold_6 rfl ?_
    refine r_aload_n (pc' := 8) C dX8_tieTold_7 rfl 0 rfl ?_
    refine r_getR (pc' := 11) C flX8_10 sh_0 rfl dX8_tieTold_8 rfl ?_
    refine r_getI (pc' := 14) C flX8_96 sh_1 rfl dX8_tieTold_11 rfl ?_
    refine r_icmp_ge (tgt := 93) (pc' := 17) C dX8_tieTold_14 rfl rfl (fun c1 => ?_) (fun c1 => ?_)
    · rw [if_pos c1] at h
      refine r_iload_n (pc' := 94) C dX8_tieTold_93 rfl 1 rfl ?_
      have h := Option.some.inj h
      subst h
      exact r_ret C rfl dX8_tieTold_94 hE
    · rw [if_neg c1] at h
      refine r_aload_n (pc' := 18) C dX8_tieTold_17 rfl 0 rfl ?_
      refine r_getR (pc' := 21) C flX8_10 sh_0 rfl dX8_tieTold_18 rfl ?_
      refine r_iload_n (pc' := 22) C dX8_tieTold_21 rfl 2 rfl ?_
      obtain ⟨r2, e3, h⟩ := bd h
      refine r_cV1 (pc' := 25) C (X6_digitAt_ok  e3) mlX8_100 ceX6_digitAt cvX6_digitAt sh_1 rfl rfl rfl (Nat.le_of_ble_eq_true rfl) rfl (Nat.le_of_ble_eq_true rfl) dX8_tieTold_22 rfl (kk := ?_)
      refine r_istore_n (pc' := 26) (lv2 := [(3, .int r2), (0, .ref 0), (1, .int v1), (2, .int v2)]) C dX8_tieTold_25 rfl rfl (Nat.le_of_ble_eq_true rfl) rfl ?_
      refine r_aload_n (pc' := 27) C dX8_tieTold_26 rfl 1 rfl ?_
      refine r_getR (pc' := 30) C flX8_10 sh_0 rfl dX8_tieTold_27 rfl ?_
      refine r_iload_n (pc' := 31) C dX8_tieTold_30 rfl 3 rfl ?_
      refine r_iconst (pc' := 32) C dX8_tieTold_31 rfl kc_1 ?_
      refine r_iadd (pc' := 33) C dX8_tieTold_32 rfl ?_
      obtain ⟨r4, e5, h⟩ := bd h
      refine r_cV1 (pc' := 36) C (X6_digitAt_ok  e5) mlX8_100 ceX6_digitAt cvX6_digitAt sh_1 rfl rfl rfl (Nat.le_of_ble_eq_true rfl) rfl (Nat.le_of_ble_eq_true rfl) dX8_tieTold_33 rfl (kk := ?_)
      refine r_istore (pc' := 38) (lv2 := [(4, .int r4), (3, .int r2), (0, .ref 0), (1, .int v1), (2, .int v2)]) C dX8_tieTold_36 rfl (Nat.le_of_ble_eq_true rfl) rfl ?_
      refine r_aload_n (pc' := 39) C dX8_tieTold_38 rfl 2 rfl ?_
      refine r_getR (pc' := 42) C flX8_26 sh_0 rfl dX8_tieTold_39 rfl ?_
      refine r_iload_n (pc' := 43) C dX8_tieTold_42 rfl 1 rfl ?_
      obtain ⟨r6, e7, h⟩ := bd h
      refine r_cV1 (pc' := 46) C (X0_isThing_ok  e7) mlX8_138 ceX0_isThing cvX0_isThing sh_5 rfl rfl rfl (Nat.le_of_ble_eq_true rfl) rfl (Nat.le_of_ble_eq_true rfl) dX8_tieTold_43 rfl (kk := ?_)
      refine r_if_eq (tgt := 87) (pc' := 49) C dX8_tieTold_46 rfl rfl (fun c8 => ?_) (fun c8 => ?_)
      · rw [if_pos c8] at h
        refine r_iinc (pc' := 90) (v := v2 + 3) (lv2 := [(2, .int (v2 + 3)), (4, .int r4), (3, .int r2), (0, .ref 0), (1, .int v1)]) C dX8_tieTold_87 rfl 4 rfl rfl (Nat.le_of_ble_eq_true rfl) rfl ?_
        refine r_goto (tgt := 4) C dX8_tieTold_90 rfl ?_
        refine r_sub [3, 4, 0] rfl ?_
        exact ih _ _ _ _ h Z C hE
      · rw [if_neg c8] at h
        refine r_aload_n (pc' := 50) C dX8_tieTold_49 rfl 2 rfl ?_
        refine r_getR (pc' := 53) C flX8_26 sh_0 rfl dX8_tieTold_50 rfl ?_
        refine r_iload (pc' := 55) C dX8_tieTold_53 rfl 0 rfl ?_
        obtain ⟨r9, e10, h⟩ := bd h
        refine r_cV1 (pc' := 58) C (X0_isThing_ok  e10) mlX8_138 ceX0_isThing cvX0_isThing sh_5 rfl rfl rfl (Nat.le_of_ble_eq_true rfl) rfl (Nat.le_of_ble_eq_true rfl) dX8_tieTold_55 rfl (kk := ?_)
        refine r_if_eq (tgt := 87) (pc' := 61) C dX8_tieTold_58 rfl rfl (fun c11 => ?_) (fun c11 => ?_)
        · rw [if_pos c11] at h
          refine r_iinc (pc' := 90) (v := v2 + 3) (lv2 := [(2, .int (v2 + 3)), (4, .int r4), (3, .int r2), (0, .ref 0), (1, .int v1)]) C dX8_tieTold_87 rfl 4 rfl rfl (Nat.le_of_ble_eq_true rfl) rfl ?_
          refine r_goto (tgt := 4) C dX8_tieTold_90 rfl ?_
          refine r_sub [3, 4, 0] rfl ?_
          exact ih _ _ _ _ h Z C hE
        · rw [if_neg c11] at h
          refine r_aload_n (pc' := 62) C dX8_tieTold_61 rfl 2 rfl ?_
          refine r_getR (pc' := 65) C flX8_33 sh_0 rfl dX8_tieTold_62 rfl ?_
          refine r_iload_n (pc' := 66) C dX8_tieTold_65 rfl 1 rfl ?_
          refine r_iload (pc' := 68) C dX8_tieTold_66 rfl 0 rfl ?_
          obtain ⟨r12, e13, h⟩ := bd h
          refine r_cV1 (pc' := 71) C (X5_isTied_ok stc_19 e13) mlX8_292 ceX5_isTied cvX5_isTied sh_19 rfl rfl rfl (Nat.le_of_ble_eq_true rfl) rfl (Nat.le_of_ble_eq_true rfl) dX8_tieTold_68 rfl (kk := ?_)
          refine r_if_ne (tgt := 87) (pc' := 74) C dX8_tieTold_71 rfl rfl (fun c14 => ?_) (fun c14 => ?_)
          · rw [if_neg c14] at h
            refine r_iinc (pc' := 90) (v := v2 + 3) (lv2 := [(2, .int (v2 + 3)), (4, .int r4), (3, .int r2), (0, .ref 0), (1, .int v1)]) C dX8_tieTold_87 rfl 4 rfl rfl (Nat.le_of_ble_eq_true rfl) rfl ?_
            refine r_goto (tgt := 4) C dX8_tieTold_90 rfl ?_
            refine r_sub [3, 4, 0] rfl ?_
            exact ih _ _ _ _ h Z C hE
          · rw [if_pos c14] at h
            refine r_aload_n (pc' := 75) C dX8_tieTold_74 rfl 2 rfl ?_
            refine r_getR (pc' := 78) C flX8_33 sh_0 rfl dX8_tieTold_75 rfl ?_
            refine r_iload_n (pc' := 79) C dX8_tieTold_78 rfl 1 rfl ?_
            refine r_iload (pc' := 81) C dX8_tieTold_79 rfl 0 rfl ?_
            obtain ⟨r15, e16, h⟩ := bd h
            refine r_cV0 (pc' := 84) C (X5_toggle_ok stc_19 e16) mlX8_437 ceX5_toggle cvX5_toggle sh_19 rfl rfl rfl (Nat.le_of_ble_eq_true rfl) rfl (Nat.le_of_ble_eq_true rfl) dX8_tieTold_81 rfl (kk := ?_)
            refine r_iinc (pc' := 87) (v := v1 + 1) (lv2 := [(1, .int (v1 + 1)), (4, .int r4), (3, .int r2), (0, .ref 0), (2, .int v2)]) C dX8_tieTold_84 rfl 3 rfl rfl (Nat.le_of_ble_eq_true rfl) rfl ?_
            refine r_iinc (pc' := 90) (v := v2 + 3) (lv2 := [(2, .int (v2 + 3)), (1, .int (v1 + 1)), (4, .int r4), (3, .int r2), (0, .ref 0)]) C dX8_tieTold_87 rfl 4 rfl rfl (Nat.le_of_ble_eq_true rfl) rfl ?_
            refine r_goto (tgt := 4) C dX8_tieTold_90 rfl ?_
            refine r_sub [4, 1, 0] rfl ?_
            exact ih _ _ _ _ h Z C hE
def X8_tieTold (N : Nat)   (σ : Sg) : Option (Int32 × Sg) :=
  X8_tieTold_l4 N N 0 0 σ
set_option maxRecDepth 100000 in
set_option maxHeartbeats 4000000 in
theorem X8_tieTold_ok {E : Ev}  {N : Nat}  {σ : Sg} {r : Int32 × Sg} (h : X8_tieTold N   σ = some r) : Cm E (2) yX8_tieTold cX8_tieTold 5 (some .int) [.ref 0] SH0 SH0 σ r.2 (some (.int r.1)) 0 0 := by
  refine Cm.intro (by decide +kernel) (Nat.le_of_ble_eq_true rfl) (fun _ h => by obtain ⟨_, _, _, _, _, _, h⟩ := h; exact h) (fun Z C hE => ?_)
  show Wm E Z 0 0 SH0 σ 0 [(0, .ref 0)] []
  unfold X8_tieTold at h
  refine r_iconst (pc' := 1) C dX8_tieTold_0 rfl kc_0 ?_
  refine r_istore_n (pc' := 2) (lv2 := [(1, .int 0), (0, .ref 0)]) C dX8_tieTold_1 rfl rfl (Nat.le_of_ble_eq_true rfl) rfl ?_
  refine r_iconst (pc' := 3) C dX8_tieTold_2 rfl kc_0 ?_
  refine r_istore_n (pc' := 4) (lv2 := [(2, .int 0), (1, .int 0), (0, .ref 0)]) C dX8_tieTold_3 rfl rfl (Nat.le_of_ble_eq_true rfl) rfl ?_
  refine r_sub [2, 1, 0] rfl ?_
  exact X8_tieTold_l4_ok  N _ _ _ _ h Z C hE

/-! BorrowedWeight$Past.commit()V -/
def X1_commit (N : Nat)   (σ : Sg) : Option (Sg) :=
  bnS (wi σ 29 1 (((gi σ 29 1) + 1) &&& 15)) fun σ1 => (J9_min_7cf53 N ((gi σ1 29 2) + 1) 15 σ1).bind fun r3 => (bnS (wi σ1 29 2 r3) fun σ5 => some σ5)
set_option maxRecDepth 100000 in
set_option maxHeartbeats 4000000 in
theorem X1_commit_ok {E : Ev}  {N : Nat}  {σ : Sg} {r : Sg} (h : X1_commit N   σ = some r) : Cm E (1) yX1_commit cX1_commit 1 none [.ref 29] SH0 SH0 σ r (none) 0 0 := by
  refine Cm.intro (by decide +kernel) (Nat.le_of_ble_eq_true rfl) (fun _ h => by obtain ⟨_, _, _, _, _, _, h⟩ := h; exact h) (fun Z C hE => ?_)
  show Wm E Z 0 0 SH0 σ 0 [(0, .ref 29)] []
  unfold X1_commit at h
  refine r_aload_n (pc' := 1) C dX1_commit_0 rfl 0 rfl ?_
  refine r_aload_n (pc' := 2) C dX1_commit_1 rfl 0 rfl ?_
  refine r_getI (pc' := 5) C flX1_22 sh_29 rfl dX1_commit_2 rfl ?_
  refine r_iconst (pc' := 6) C dX1_commit_5 rfl kc_1 ?_
  refine r_iadd (pc' := 7) C dX1_commit_6 rfl ?_
  refine r_bipush (pc' := 9) C dX1_commit_7 rfl kb_15 ?_
  refine r_iand (pc' := 10) C dX1_commit_9 rfl ?_
  obtain ⟨σ1, e2, h⟩ := bs h
  refine r_putI (pc' := 13) (σ1 := σ1) C fpX1_22 sh_29 rfl rfl rfl dX1_commit_10 rfl e2 ?_
  refine r_aload_n (pc' := 14) C dX1_commit_13 rfl 0 rfl ?_
  refine r_aload_n (pc' := 15) C dX1_commit_14 rfl 0 rfl ?_
  refine r_getI (pc' := 18) C flX1_18 sh_29 rfl dX1_commit_15 rfl ?_
  refine r_iconst (pc' := 19) C dX1_commit_18 rfl kc_1 ?_
  refine r_iadd (pc' := 20) C dX1_commit_19 rfl ?_
  refine r_bipush (pc' := 22) C dX1_commit_20 rfl kb_15 ?_
  obtain ⟨r3, e4, h⟩ := bd h
  refine r_cS1 (pc' := 25) C (J9_min_7cf53_ok  e4) mlX1_29 ceJ9_min_7cf53 csJ9_min_7cf53 rfl (Nat.le_of_ble_eq_true rfl) rfl (Nat.le_of_ble_eq_true rfl) dX1_commit_22 rfl (kk := ?_)
  obtain ⟨σ5, e6, h⟩ := bs h
  refine r_putI (pc' := 28) (σ1 := σ5) C fpX1_18 sh_29 rfl rfl rfl dX1_commit_25 rfl e6 ?_
  have h := Option.some.inj h
  subst h
  exact r_vret C dX1_commit_28 hE

/-! BorrowedWeight.strings()I -/
def X8_strings_j39 (N : Nat)   (v1 : Int32) (v2 : Int32) (σ : Sg) : Option (Int32 × Sg) :=
  (X6_clear N σ).bind fun r4 => (if v1 = (-1) then (some (v2, r4)) else (some ((-1) - v1, r4)))
set_option maxRecDepth 100000 in
set_option maxHeartbeats 4000000 in
theorem X8_strings_j39_ok {E : Ev}  {N : Nat}    {v1 : Int32} {v2 : Int32} {σ : Sg} {r : Int32 × Sg} (h : X8_strings_j39 N   v1 v2 σ = some r) : Gp E RX8 cX8_strings (some .int) 3 (3) SH0 r.2 (some (.int r.1)) σ 39 [(0, .ref 0), (1, .int v1), (2, .int v2)] [] := by
  intro Z C hE
  unfold X8_strings_j39 at h
  refine r_aload_n (pc' := 40) C dX8_strings_39 rfl 0 rfl ?_
  refine r_getR (pc' := 43) C flX8_10 sh_0 rfl dX8_strings_40 rfl ?_
  obtain ⟨r4, e5, h⟩ := bd h
  refine r_cV0 (pc' := 46) C (X6_clear_ok  e5) mlX8_111 ceX6_clear cvX6_clear sh_1 rfl rfl rfl (Nat.le_of_ble_eq_true rfl) rfl (Nat.le_of_ble_eq_true rfl) dX8_strings_43 rfl (kk := ?_)
  refine r_iload_n (pc' := 47) C dX8_strings_46 rfl 1 rfl ?_
  refine r_iconst (pc' := 48) C dX8_strings_47 rfl kc_m1 ?_
  refine r_icmp_ne (tgt := 55) (pc' := 51) C dX8_strings_48 rfl rfl (fun c6 => ?_) (fun c6 => ?_)
  · rw [if_neg c6] at h
    refine r_iconst (pc' := 56) C dX8_strings_55 rfl kc_m1 ?_
    refine r_iload_n (pc' := 57) C dX8_strings_56 rfl 1 rfl ?_
    refine r_isub (pc' := 58) C dX8_strings_57 rfl ?_
    have h := Option.some.inj h
    subst h
    exact r_ret C rfl dX8_strings_58 hE
  · rw [if_pos c6] at h
    refine r_iload_n (pc' := 52) C dX8_strings_51 rfl 2 rfl ?_
    refine r_goto (tgt := 58) C dX8_strings_52 rfl ?_
    have h := Option.some.inj h
    subst h
    exact r_ret C rfl dX8_strings_58 hE
def X8_strings (N : Nat)   (σ : Sg) : Option (Int32 × Sg) :=
  (X8_faultOfStrings N σ).bind fun r1 => (if r1 = (-1) then ((X1_draw N 19 σ).bind fun r7 => ((X8_tieTold N r7).bind fun r9 => (if r9.1 ≤ 0 then (X8_strings_j39 N r1 r9.1 r9.2) else ((X1_commit N r9.2).bind fun r12 => (X8_strings_j39 N r1 r9.1 r12))))) else (X8_strings_j39 N r1 0 σ))
set_option maxRecDepth 100000 in
set_option maxHeartbeats 4000000 in
theorem X8_strings_ok {E : Ev}  {N : Nat}  {σ : Sg} {r : Int32 × Sg} (h : X8_strings N   σ = some r) : Cm E (3) yX8_strings cX8_strings 3 (some .int) [.ref 0] SH0 SH0 σ r.2 (some (.int r.1)) 0 0 := by
  refine Cm.intro (by decide +kernel) (Nat.le_of_ble_eq_true rfl) (fun _ h => by obtain ⟨_, _, _, _, _, _, h⟩ := h; exact h) (fun Z C hE => ?_)
  show Wm E Z 0 0 SH0 σ 0 [(0, .ref 0)] []
  unfold X8_strings at h
  refine r_aload_n (pc' := 1) C dX8_strings_0 rfl 0 rfl ?_
  obtain ⟨r1, e2, h⟩ := bd h
  refine r_cV1 (pc' := 4) C (X8_faultOfStrings_ok  e2) mlX8_112 ceX8_faultOfStrings cvX8_faultOfStrings sh_0 rfl rfl rfl (Nat.le_of_ble_eq_true rfl) rfl (Nat.le_of_ble_eq_true rfl) dX8_strings_1 rfl (kk := ?_)
  refine r_istore_n (pc' := 5) (lv2 := [(1, .int r1), (0, .ref 0)]) C dX8_strings_4 rfl rfl (Nat.le_of_ble_eq_true rfl) rfl ?_
  refine r_iconst (pc' := 6) C dX8_strings_5 rfl kc_0 ?_
  refine r_istore_n (pc' := 7) (lv2 := [(2, .int 0), (1, .int r1), (0, .ref 0)]) C dX8_strings_6 rfl rfl (Nat.le_of_ble_eq_true rfl) rfl ?_
  refine r_iload_n (pc' := 8) C dX8_strings_7 rfl 1 rfl ?_
  refine r_iconst (pc' := 9) C dX8_strings_8 rfl kc_m1 ?_
  refine r_icmp_ne (tgt := 39) (pc' := 12) C dX8_strings_9 rfl rfl (fun c3 => ?_) (fun c3 => ?_)
  · rw [if_neg c3] at h
    refine r_sub [2, 1, 0] rfl ?_
    exact X8_strings_j39_ok  h Z C hE
  · rw [if_pos c3] at h
    refine r_aload_n (pc' := 13) C dX8_strings_12 rfl 2 rfl ?_
    refine r_getR (pc' := 16) C flX8_43 sh_0 rfl dX8_strings_13 rfl ?_
    refine r_aload_n (pc' := 17) C dX8_strings_16 rfl 2 rfl ?_
    refine r_getR (pc' := 20) C flX8_33 sh_0 rfl dX8_strings_17 rfl ?_
    obtain ⟨r7, e8, h⟩ := bd h
    refine r_cV0 (pc' := 23) C (X1_draw_ok stc_19 e8) mlX8_115 ceX1_draw cvX1_draw sh_29 rfl rfl rfl (Nat.le_of_ble_eq_true rfl) rfl (Nat.le_of_ble_eq_true rfl) dX8_strings_20 rfl (kk := ?_)
    refine r_aload_n (pc' := 24) C dX8_strings_23 rfl 2 rfl ?_
    obtain ⟨r9, e10, h⟩ := bd h
    refine r_cV1 (pc' := 27) C (X8_tieTold_ok  e10) mlX8_119 ceX8_tieTold cvX8_tieTold sh_0 rfl rfl rfl (Nat.le_of_ble_eq_true rfl) rfl (Nat.le_of_ble_eq_true rfl) dX8_strings_24 rfl (kk := ?_)
    refine r_istore_n (pc' := 28) (lv2 := [(2, .int r9.1), (1, .int r1), (0, .ref 0)]) C dX8_strings_27 rfl rfl (Nat.le_of_ble_eq_true rfl) rfl ?_
    refine r_iload_n (pc' := 29) C dX8_strings_28 rfl 0 rfl ?_
    refine r_if_le (tgt := 39) (pc' := 32) C dX8_strings_29 rfl rfl (fun c11 => ?_) (fun c11 => ?_)
    · rw [if_pos c11] at h
      refine r_sub [2, 1, 0] rfl ?_
      exact X8_strings_j39_ok  h Z C hE
    · rw [if_neg c11] at h
      refine r_aload_n (pc' := 33) C dX8_strings_32 rfl 2 rfl ?_
      refine r_getR (pc' := 36) C flX8_43 sh_0 rfl dX8_strings_33 rfl ?_
      obtain ⟨r12, e13, h⟩ := bd h
      refine r_cV0 (pc' := 39) C (X1_commit_ok  e13) mlX8_122 ceX1_commit cvX1_commit sh_29 rfl rfl rfl (Nat.le_of_ble_eq_true rfl) rfl (Nat.le_of_ble_eq_true rfl) dX8_strings_36 rfl (kk := ?_)
      refine r_sub [2, 1, 0] rfl ?_
      exact X8_strings_j39_ok  h Z C hE

/-! BorrowedWeight.faultOfWinds()I -/
def X8_faultOfWinds_l15 (N : Nat)  (k39 : Int32 → Option (Int32)) (σ : Sg) : Nat → Int32 → Int32 → Option (Int32)
  | 0, _, _ => none
  | n + 1, v1, v2 =>
    if v1 ≤ v2 then (k39 v1) else ((X6_digitAt N v2 σ).bind fun r4 => (if 0 ≤ r4 then (X8_faultOfWinds_l15 N k39 σ n v1 (v2 + 1)) else (some v2)))
set_option maxRecDepth 100000 in
set_option maxHeartbeats 4000000 in
theorem X8_faultOfWinds_l15_ok {E : Ev}  {N : Nat} {k39 : Int32 → Option (Int32)} {σ : Sg} (hk39 : ∀ (v1 : Int32) (r : Int32), k39 v1 = some r → Gp E RX8 cX8_faultOfWinds (some .int) 3 (2) SH0 σ (some (.int r)) σ 39 [(0, .ref 0), (1, .int v1)] []) : ∀ (n : Nat) (v1 : Int32) (v2 : Int32) (r : Int32), X8_faultOfWinds_l15 N k39 σ n v1 v2 = some r → Gp E RX8 cX8_faultOfWinds (some .int) 3 (2) SH0 σ (some (.int r)) σ 15 [(0, .ref 0), (1, .int v1), (2, .int v2)] [] := by
  intro n
  induction n with
  | zero => intro v1 v2 r h; cases h
  | succ n ih =>
    intro v1 v2 r h Z C hE
    unfold X8_faultOfWinds_l15 at h
    refine r_iload_n (pc' := 16) C dX8_faultOfWinds_15 rfl 2 rfl ?_
    refine r_iload_n (pc' := 17) C dX8_faultOfWinds_16 rfl 1 rfl ?_
    refine r_icmp_ge (tgt := 39) (pc' := 20) C dX8_faultOfWinds_17 rfl rfl (fun c3 => ?_) (fun c3 => ?_)
    · rw [if_pos c3] at h
      refine r_sub [0, 1] rfl ?_
      exact hk39 _ _ h Z C hE
    · rw [if_neg c3] at h
      refine r_aload_n (pc' := 21) C dX8_faultOfWinds_20 rfl 0 rfl ?_
      refine r_getR (pc' := 24) C flX8_10 sh_0 rfl dX8_faultOfWinds_21 rfl ?_
      refine r_iload_n (pc' := 25) C dX8_faultOfWinds_24 rfl 2 rfl ?_
      obtain ⟨r4, e5, h⟩ := bd h
      refine r_cV1 (pc' := 28) C (X6_digitAt_ok  e5) mlX8_100 ceX6_digitAt cvX6_digitAt sh_1 rfl rfl rfl (Nat.le_of_ble_eq_true rfl) rfl (Nat.le_of_ble_eq_true rfl) dX8_faultOfWinds_25 rfl (kk := ?_)
      refine r_if_ge (tgt := 33) (pc' := 31) C dX8_faultOfWinds_28 rfl rfl (fun c6 => ?_) (fun c6 => ?_)
      · rw [if_pos c6] at h
        refine r_iinc (pc' := 36) (v := v2 + 1) (lv2 := [(2, .int (v2 + 1)), (0, .ref 0), (1, .int v1)]) C dX8_faultOfWinds_33 rfl 2 rfl rfl (Nat.le_of_ble_eq_true rfl) rfl ?_
        refine r_goto (tgt := 15) C dX8_faultOfWinds_36 rfl ?_
        refine r_sub [1, 2, 0] rfl ?_
        exact ih _ _ _ h Z C hE
      · rw [if_neg c6] at h
        refine r_iload_n (pc' := 32) C dX8_faultOfWinds_31 rfl 2 rfl ?_
        have h := Option.some.inj h
        subst h
        exact r_ret C rfl dX8_faultOfWinds_32 hE
def X8_faultOfWinds_j39 (N : Nat)   (v1 : Int32) (σ : Sg) : Option (Int32) :=
  if 20 < (gi σ 1 1) then (some v1) else (if v1 = 0 then (some v1) else (some (-1)))
set_option maxRecDepth 100000 in
set_option maxHeartbeats 4000000 in
theorem X8_faultOfWinds_j39_ok {E : Ev}  {N : Nat}  {σ : Sg}   {v1 : Int32} {r : Int32} (h : X8_faultOfWinds_j39 N   v1 σ = some r) : Gp E RX8 cX8_faultOfWinds (some .int) 3 (2) SH0 σ (some (.int r)) σ 39 [(0, .ref 0), (1, .int v1)] [] := by
  intro Z C hE
  unfold X8_faultOfWinds_j39 at h
  refine r_aload_n (pc' := 40) C dX8_faultOfWinds_39 rfl 0 rfl ?_
  refine r_getR (pc' := 43) C flX8_10 sh_0 rfl dX8_faultOfWinds_40 rfl ?_
  refine r_getI (pc' := 46) C flX8_96 sh_1 rfl dX8_faultOfWinds_43 rfl ?_
  refine r_bipush (pc' := 48) C dX8_faultOfWinds_46 rfl kb_20 ?_
  refine r_icmp_gt (tgt := 55) (pc' := 51) C dX8_faultOfWinds_48 rfl rfl (fun c7 => ?_) (fun c7 => ?_)
  · rw [if_pos c7] at h
    refine r_iload_n (pc' := 56) C dX8_faultOfWinds_55 rfl 1 rfl ?_
    refine r_goto (tgt := 60) C dX8_faultOfWinds_56 rfl ?_
    have h := Option.some.inj h
    subst h
    exact r_ret C rfl dX8_faultOfWinds_60 hE
  · rw [if_neg c7] at h
    refine r_iload_n (pc' := 52) C dX8_faultOfWinds_51 rfl 1 rfl ?_
    refine r_if_ne (tgt := 59) (pc' := 55) C dX8_faultOfWinds_52 rfl rfl (fun c8 => ?_) (fun c8 => ?_)
    · rw [if_neg c8] at h
      refine r_iconst (pc' := 60) C dX8_faultOfWinds_59 rfl kc_m1 ?_
      have h := Option.some.inj h
      subst h
      exact r_ret C rfl dX8_faultOfWinds_60 hE
    · rw [if_pos c8] at h
      refine r_iload_n (pc' := 56) C dX8_faultOfWinds_55 rfl 1 rfl ?_
      refine r_goto (tgt := 60) C dX8_faultOfWinds_56 rfl ?_
      have h := Option.some.inj h
      subst h
      exact r_ret C rfl dX8_faultOfWinds_60 hE
def X8_faultOfWinds (N : Nat)   (σ : Sg) : Option (Int32) :=
  (J9_min_7cf53 N (gi σ 1 1) 20 σ).bind fun r1 => (X8_faultOfWinds_l15 N (fun v1 => X8_faultOfWinds_j39 N v1 σ) σ N r1 0)
set_option maxRecDepth 100000 in
set_option maxHeartbeats 4000000 in
theorem X8_faultOfWinds_ok {E : Ev}  {N : Nat}  {σ : Sg} {r : Int32} (h : X8_faultOfWinds N   σ = some r) : Cm E (2) yX8_faultOfWinds cX8_faultOfWinds 3 (some .int) [.ref 0] SH0 SH0 σ σ (some (.int r)) 0 0 := by
  refine Cm.intro (by decide +kernel) (Nat.le_of_ble_eq_true rfl) (fun _ h => by obtain ⟨_, _, _, _, _, _, h⟩ := h; exact h) (fun Z C hE => ?_)
  show Wm E Z 0 0 SH0 σ 0 [(0, .ref 0)] []
  unfold X8_faultOfWinds at h
  refine r_aload_n (pc' := 1) C dX8_faultOfWinds_0 rfl 0 rfl ?_
  refine r_getR (pc' := 4) C flX8_10 sh_0 rfl dX8_faultOfWinds_1 rfl ?_
  refine r_getI (pc' := 7) C flX8_96 sh_1 rfl dX8_faultOfWinds_4 rfl ?_
  refine r_bipush (pc' := 9) C dX8_faultOfWinds_7 rfl kb_20 ?_
  obtain ⟨r1, e2, h⟩ := bd h
  refine r_cS1 (pc' := 12) C (J9_min_7cf53_ok  e2) mlX8_310 ceJ9_min_7cf53 csJ9_min_7cf53 rfl (Nat.le_of_ble_eq_true rfl) rfl (Nat.le_of_ble_eq_true rfl) dX8_faultOfWinds_9 rfl (kk := ?_)
  refine r_istore_n (pc' := 13) (lv2 := [(1, .int r1), (0, .ref 0)]) C dX8_faultOfWinds_12 rfl rfl (Nat.le_of_ble_eq_true rfl) rfl ?_
  refine r_iconst (pc' := 14) C dX8_faultOfWinds_13 rfl kc_0 ?_
  refine r_istore_n (pc' := 15) (lv2 := [(2, .int 0), (1, .int r1), (0, .ref 0)]) C dX8_faultOfWinds_14 rfl rfl (Nat.le_of_ble_eq_true rfl) rfl ?_
  refine r_sub [2, 1, 0] rfl ?_
  exact X8_faultOfWinds_l15_ok  (fun _ _ h Z C hE => by exact X8_faultOfWinds_j39_ok  h Z C hE) N _ _ _ h Z C hE

/-! BorrowedWeight$Land.setWinds(LBorrowedWeight$Text;)V -/
def X0_setWinds_l19 (N : Nat)    : Nat → Int32 → Sg → Option (Sg)
  | 0, _, _ => none
  | n + 1, v2, σ =>
    if (gi σ 5 8) ≤ v2 then (some σ) else ((X6_digitAt N v2 σ).bind fun r8 => ((J9_max_7cf53 N 0 r8 σ).bind fun r10 => (if inb v2 20 = true then bnS (wi σ 17 v2.toNatClampNeg r10) fun σ13 => X0_setWinds_l19 N n (v2 + 1) σ13 else none)))
set_option maxRecDepth 100000 in
set_option maxHeartbeats 4000000 in
theorem X0_setWinds_l19_ok {E : Ev}  {N : Nat}    : ∀ (n : Nat) (v2 : Int32) (σ : Sg) (r : Sg), X0_setWinds_l19 N n v2 σ = some r → Gp E RX0 cX0_setWinds none 3 (2) SH0 r (none) σ 19 [(0, .ref 5), (1, .ref 1), (2, .int v2)] [] := by
  intro n
  induction n with
  | zero => intro v2 σ r h; cases h
  | succ n ih =>
    intro v2 σ r h Z C hE
    unfold X0_setWinds_l19 at h
    refine r_iload_n (pc' := 20) C dX0_setWinds_19 rfl 2 rfl ?_
    refine r_aload_n (pc' := 21) C dX0_setWinds_20 rfl 0 rfl ?_
    refine r_getI (pc' := 24) C flX0_34 sh_5 rfl dX0_setWinds_21 rfl ?_
    refine r_icmp_ge (tgt := 48) (pc' := 27) C dX0_setWinds_24 rfl rfl (fun c7 => ?_) (fun c7 => ?_)
    · rw [if_pos c7] at h
      have h := Option.some.inj h
      subst h
      exact r_vret C dX0_setWinds_48 hE
    · rw [if_neg c7] at h
      refine r_aload_n (pc' := 28) C dX0_setWinds_27 rfl 0 rfl ?_
      refine r_getR (pc' := 31) C flX0_31 sh_5 rfl dX0_setWinds_28 rfl ?_
      refine r_iload_n (pc' := 32) C dX0_setWinds_31 rfl 2 rfl ?_
      refine r_iconst (pc' := 33) C dX0_setWinds_32 rfl kc_0 ?_
      refine r_aload_n (pc' := 34) C dX0_setWinds_33 rfl 1 rfl ?_
      refine r_iload_n (pc' := 35) C dX0_setWinds_34 rfl 2 rfl ?_
      obtain ⟨r8, e9, h⟩ := bd h
      refine r_cV1 (pc' := 38) C (X6_digitAt_ok  e9) mlX0_67 ceX6_digitAt cvX6_digitAt sh_1 rfl rfl rfl (Nat.le_of_ble_eq_true rfl) rfl (Nat.le_of_ble_eq_true rfl) dX0_setWinds_35 rfl (kk := ?_)
      obtain ⟨r10, e11, h⟩ := bd h
      refine r_cS1 (pc' := 41) C (J9_max_7cf53_ok  e11) mlX0_59 ceJ9_max_7cf53 csJ9_max_7cf53 rfl (Nat.le_of_ble_eq_true rfl) rfl (Nat.le_of_ble_eq_true rfl) dX0_setWinds_38 rfl (kk := ?_)
      obtain ⟨q12, h⟩ := ck h
      obtain ⟨σ13, e14, h⟩ := bs h
      refine r_iast (pc' := 42) (σ1 := σ13) C sh_17 (vin q12) dX0_setWinds_41 rfl e14 ?_
      refine r_iinc (pc' := 45) (v := v2 + 1) (lv2 := [(2, .int (v2 + 1)), (0, .ref 5), (1, .ref 1)]) C dX0_setWinds_42 rfl 2 rfl rfl (Nat.le_of_ble_eq_true rfl) rfl ?_
      refine r_goto (tgt := 19) C dX0_setWinds_45 rfl ?_
      refine r_sub [1, 2, 0] rfl ?_
      exact ih _ _ _ h Z C hE
def X0_setWinds (N : Nat)   (σ : Sg) : Option (Sg) :=
  (J9_min_7cf53 N (gi σ 1 1) 20 σ).bind fun r1 => ((J9_max_7cf53 N 1 r1 σ).bind fun r3 => (bnS (wi σ 5 8 r3) fun σ5 => X0_setWinds_l19 N N 0 σ5))
set_option maxRecDepth 100000 in
set_option maxHeartbeats 4000000 in
theorem X0_setWinds_ok {E : Ev}  {N : Nat}  {σ : Sg} {r : Sg} (h : X0_setWinds N   σ = some r) : Cm E (2) yX0_setWinds cX0_setWinds 3 none [.ref 5, .ref 1] SH0 SH0 σ r (none) 0 0 := by
  refine Cm.intro (by decide +kernel) (Nat.le_of_ble_eq_true rfl) (fun _ h => by obtain ⟨_, _, _, _, _, _, h⟩ := h; exact h) (fun Z C hE => ?_)
  show Wm E Z 0 0 SH0 σ 0 [(0, .ref 5), (1, .ref 1)] []
  unfold X0_setWinds at h
  refine r_aload_n (pc' := 1) C dX0_setWinds_0 rfl 0 rfl ?_
  refine r_iconst (pc' := 2) C dX0_setWinds_1 rfl kc_1 ?_
  refine r_aload_n (pc' := 3) C dX0_setWinds_2 rfl 1 rfl ?_
  refine r_getI (pc' := 6) C flX0_62 sh_1 rfl dX0_setWinds_3 rfl ?_
  refine r_bipush (pc' := 8) C dX0_setWinds_6 rfl kb_20 ?_
  obtain ⟨r1, e2, h⟩ := bd h
  refine r_cS1 (pc' := 11) C (J9_min_7cf53_ok  e2) mlX0_53 ceJ9_min_7cf53 csJ9_min_7cf53 rfl (Nat.le_of_ble_eq_true rfl) rfl (Nat.le_of_ble_eq_true rfl) dX0_setWinds_8 rfl (kk := ?_)
  obtain ⟨r3, e4, h⟩ := bd h
  refine r_cS1 (pc' := 14) C (J9_max_7cf53_ok  e4) mlX0_59 ceJ9_max_7cf53 csJ9_max_7cf53 rfl (Nat.le_of_ble_eq_true rfl) rfl (Nat.le_of_ble_eq_true rfl) dX0_setWinds_11 rfl (kk := ?_)
  obtain ⟨σ5, e6, h⟩ := bs h
  refine r_putI (pc' := 17) (σ1 := σ5) C fpX0_34 sh_5 rfl rfl rfl dX0_setWinds_14 rfl e6 ?_
  refine r_iconst (pc' := 18) C dX0_setWinds_17 rfl kc_0 ?_
  refine r_istore_n (pc' := 19) (lv2 := [(2, .int 0), (0, .ref 5), (1, .ref 1)]) C dX0_setWinds_18 rfl rfl (Nat.le_of_ble_eq_true rfl) rfl ?_
  refine r_sub [1, 2, 0] rfl ?_
  exact X0_setWinds_l19_ok  N _ _ _ h Z C hE

/-! BorrowedWeight.winds()I -/
def X8_winds_j29 (N : Nat)   (v1 : Int32) (v2 : Int32) (σ : Sg) : Option (Int32 × Sg) :=
  (X6_clear N σ).bind fun r4 => (if v1 = (-1) then (some (v2, r4)) else (some ((-1) - v1, r4)))
set_option maxRecDepth 100000 in
set_option maxHeartbeats 4000000 in
theorem X8_winds_j29_ok {E : Ev}  {N : Nat}    {v1 : Int32} {v2 : Int32} {σ : Sg} {r : Int32 × Sg} (h : X8_winds_j29 N   v1 v2 σ = some r) : Gp E RX8 cX8_winds (some .int) 3 (3) SH0 r.2 (some (.int r.1)) σ 29 [(0, .ref 0), (1, .int v1), (2, .int v2)] [] := by
  intro Z C hE
  unfold X8_winds_j29 at h
  refine r_aload_n (pc' := 30) C dX8_winds_29 rfl 0 rfl ?_
  refine r_getR (pc' := 33) C flX8_10 sh_0 rfl dX8_winds_30 rfl ?_
  obtain ⟨r4, e5, h⟩ := bd h
  refine r_cV0 (pc' := 36) C (X6_clear_ok  e5) mlX8_111 ceX6_clear cvX6_clear sh_1 rfl rfl rfl (Nat.le_of_ble_eq_true rfl) rfl (Nat.le_of_ble_eq_true rfl) dX8_winds_33 rfl (kk := ?_)
  refine r_iload_n (pc' := 37) C dX8_winds_36 rfl 1 rfl ?_
  refine r_iconst (pc' := 38) C dX8_winds_37 rfl kc_m1 ?_
  refine r_icmp_ne (tgt := 45) (pc' := 41) C dX8_winds_38 rfl rfl (fun c6 => ?_) (fun c6 => ?_)
  · rw [if_neg c6] at h
    refine r_iconst (pc' := 46) C dX8_winds_45 rfl kc_m1 ?_
    refine r_iload_n (pc' := 47) C dX8_winds_46 rfl 1 rfl ?_
    refine r_isub (pc' := 48) C dX8_winds_47 rfl ?_
    have h := Option.some.inj h
    subst h
    exact r_ret C rfl dX8_winds_48 hE
  · rw [if_pos c6] at h
    refine r_iload_n (pc' := 42) C dX8_winds_41 rfl 2 rfl ?_
    refine r_goto (tgt := 48) C dX8_winds_42 rfl ?_
    have h := Option.some.inj h
    subst h
    exact r_ret C rfl dX8_winds_48 hE
def X8_winds (N : Nat)   (σ : Sg) : Option (Int32 × Sg) :=
  (X8_faultOfWinds N σ).bind fun r1 => (if r1 = (-1) then ((X0_setWinds N σ).bind fun r7 => (X8_winds_j29 N r1 (gi σ 1 1) r7)) else (X8_winds_j29 N r1 (gi σ 1 1) σ))
set_option maxRecDepth 100000 in
set_option maxHeartbeats 4000000 in
theorem X8_winds_ok {E : Ev}  {N : Nat}  {σ : Sg} {r : Int32 × Sg} (h : X8_winds N   σ = some r) : Cm E (3) yX8_winds cX8_winds 3 (some .int) [.ref 0] SH0 SH0 σ r.2 (some (.int r.1)) 0 0 := by
  refine Cm.intro (by decide +kernel) (Nat.le_of_ble_eq_true rfl) (fun _ h => by obtain ⟨_, _, _, _, _, _, h⟩ := h; exact h) (fun Z C hE => ?_)
  show Wm E Z 0 0 SH0 σ 0 [(0, .ref 0)] []
  unfold X8_winds at h
  refine r_aload_n (pc' := 1) C dX8_winds_0 rfl 0 rfl ?_
  obtain ⟨r1, e2, h⟩ := bd h
  refine r_cV1 (pc' := 4) C (X8_faultOfWinds_ok  e2) mlX8_125 ceX8_faultOfWinds cvX8_faultOfWinds sh_0 rfl rfl rfl (Nat.le_of_ble_eq_true rfl) rfl (Nat.le_of_ble_eq_true rfl) dX8_winds_1 rfl (kk := ?_)
  refine r_istore_n (pc' := 5) (lv2 := [(1, .int r1), (0, .ref 0)]) C dX8_winds_4 rfl rfl (Nat.le_of_ble_eq_true rfl) rfl ?_
  refine r_aload_n (pc' := 6) C dX8_winds_5 rfl 1 rfl ?_
  refine r_getR (pc' := 9) C flX8_10 sh_0 rfl dX8_winds_6 rfl ?_
  refine r_getI (pc' := 12) C flX8_96 sh_1 rfl dX8_winds_9 rfl ?_
  refine r_istore_n (pc' := 13) (lv2 := [(2, .int (gi σ 1 1)), (1, .int r1), (0, .ref 0)]) C dX8_winds_12 rfl rfl (Nat.le_of_ble_eq_true rfl) rfl ?_
  refine r_iload_n (pc' := 14) C dX8_winds_13 rfl 1 rfl ?_
  refine r_iconst (pc' := 15) C dX8_winds_14 rfl kc_m1 ?_
  refine r_icmp_ne (tgt := 29) (pc' := 18) C dX8_winds_15 rfl rfl (fun c3 => ?_) (fun c3 => ?_)
  · rw [if_neg c3] at h
    refine r_sub [2, 1, 0] rfl ?_
    exact X8_winds_j29_ok  h Z C hE
  · rw [if_pos c3] at h
    refine r_aload_n (pc' := 19) C dX8_winds_18 rfl 2 rfl ?_
    refine r_getR (pc' := 22) C flX8_26 sh_0 rfl dX8_winds_19 rfl ?_
    refine r_aload_n (pc' := 23) C dX8_winds_22 rfl 2 rfl ?_
    refine r_getR (pc' := 26) C flX8_10 sh_0 rfl dX8_winds_23 rfl ?_
    obtain ⟨r7, e8, h⟩ := bd h
    refine r_cV0 (pc' := 29) C (X0_setWinds_ok  e8) mlX8_128 ceX0_setWinds cvX0_setWinds sh_5 rfl rfl rfl (Nat.le_of_ble_eq_true rfl) rfl (Nat.le_of_ble_eq_true rfl) dX8_winds_26 rfl (kk := ?_)
    refine r_sub [2, 1, 0] rfl ?_
    exact X8_winds_j29_ok  h Z C hE

/-! BorrowedWeight.readDraft()I -/
def X8_readDraft_j54 (N : Nat)   (s0 : Int32) (σ : Sg) : Option (Int32 × Sg) :=
  (X6_clear N σ).bind fun r5 => (some (s0, r5))
set_option maxRecDepth 100000 in
set_option maxHeartbeats 4000000 in
theorem X8_readDraft_j54_ok {E : Ev}  {N : Nat}    {s0 : Int32} {σ : Sg} {r : Int32 × Sg} (h : X8_readDraft_j54 N   s0 σ = some r) : Gp E RX8 cX8_readDraft (some .int) 2 (5) SH0 r.2 (some (.int r.1)) σ 54 [(0, .ref 0)] [.int s0] := by
  intro Z C hE
  unfold X8_readDraft_j54 at h
  refine r_istore_n (pc' := 55) (lv2 := [(1, .int s0), (0, .ref 0)]) C dX8_readDraft_54 rfl rfl (Nat.le_of_ble_eq_true rfl) rfl ?_
  refine r_aload_n (pc' := 56) C dX8_readDraft_55 rfl 1 rfl ?_
  refine r_getR (pc' := 59) C flX8_10 sh_0 rfl dX8_readDraft_56 rfl ?_
  obtain ⟨r5, e6, h⟩ := bd h
  refine r_cV0 (pc' := 62) C (X6_clear_ok  e6) mlX8_111 ceX6_clear cvX6_clear sh_1 rfl rfl rfl (Nat.le_of_ble_eq_true rfl) rfl (Nat.le_of_ble_eq_true rfl) dX8_readDraft_59 rfl (kk := ?_)
  refine r_iload_n (pc' := 63) C dX8_readDraft_62 rfl 0 rfl ?_
  have h := Option.some.inj h
  subst h
  exact r_ret C rfl dX8_readDraft_63 hE
def X8_readDraft (N : Nat)   (σ : Sg) : Option (Int32 × Sg) :=
  if (gi σ 1 1) = 0 then (if isRule ((gi σ 5 3).toNatClampNeg) = true then (X3_compileP N ((gi σ 5 3).toNatClampNeg) 7 σ).bind fun r8 => (X8_readDraft_j54 N r8.1 r8.2) else none) else (if isRule ((gi σ 5 3).toNatClampNeg) = true then (X3_compileT N ((gi σ 5 3).toNatClampNeg) (gi σ 1 1) σ).bind fun r3 => (X8_readDraft_j54 N r3.1 r3.2) else none)
set_option maxRecDepth 100000 in
set_option maxHeartbeats 4000000 in
theorem X8_readDraft_ok {E : Ev}  {N : Nat}  {σ : Sg} {r : Int32 × Sg} (h : X8_readDraft N   σ = some r) : Cm E (5) yX8_readDraft cX8_readDraft 2 (some .int) [.ref 0] SH0 SH0 σ r.2 (some (.int r.1)) 0 0 := by
  refine Cm.intro (by decide +kernel) (Nat.le_of_ble_eq_true rfl) (fun _ h => by obtain ⟨_, _, _, _, _, _, h⟩ := h; exact h) (fun Z C hE => ?_)
  show Wm E Z 0 0 SH0 σ 0 [(0, .ref 0)] []
  unfold X8_readDraft at h
  refine r_aload_n (pc' := 1) C dX8_readDraft_0 rfl 0 rfl ?_
  refine r_getR (pc' := 4) C flX8_10 sh_0 rfl dX8_readDraft_1 rfl ?_
  refine r_getI (pc' := 7) C flX8_96 sh_1 rfl dX8_readDraft_4 rfl ?_
  refine r_if_ne (tgt := 30) (pc' := 10) C dX8_readDraft_7 rfl rfl (fun c1 => ?_) (fun c1 => ?_)
  · rw [if_neg c1] at h
    refine r_aload_n (pc' := 31) C dX8_readDraft_30 rfl 0 rfl ?_
    refine r_getR (pc' := 34) C flX8_26 sh_0 rfl dX8_readDraft_31 rfl ?_
    refine r_getD (pc' := 37) C flX8_383 sh_5 rfl dX8_readDraft_34 rfl ?_
    refine r_aload_n (pc' := 38) C dX8_readDraft_37 rfl 0 rfl ?_
    refine r_getR (pc' := 41) C flX8_10 sh_0 rfl dX8_readDraft_38 rfl ?_
    refine r_getR (pc' := 44) C flX8_434 sh_1 rfl dX8_readDraft_41 rfl ?_
    refine r_aload_n (pc' := 45) C dX8_readDraft_44 rfl 0 rfl ?_
    refine r_getR (pc' := 48) C flX8_10 sh_0 rfl dX8_readDraft_45 rfl ?_
    refine r_getI (pc' := 51) C flX8_96 sh_1 rfl dX8_readDraft_48 rfl ?_
    obtain ⟨q2, h⟩ := ck h
    obtain ⟨r3, e4, h⟩ := bd h
    refine r_cV1 (pc' := 54) C (X3_compileT_ok (ruof q2) e4) mlX8_428 ceX3_compile cvX3_compile (ru0 (ruof q2)) rfl rfl rfl (Nat.le_of_ble_eq_true rfl) rfl (Nat.le_of_ble_eq_true rfl) dX8_readDraft_51 rfl (kk := ?_)
    exact X8_readDraft_j54_ok  h Z C hE
  · rw [if_pos c1] at h
    refine r_aload_n (pc' := 11) C dX8_readDraft_10 rfl 0 rfl ?_
    refine r_getR (pc' := 14) C flX8_26 sh_0 rfl dX8_readDraft_11 rfl ?_
    refine r_getD (pc' := 17) C flX8_383 sh_5 rfl dX8_readDraft_14 rfl ?_
    refine r_gets (pc' := 20) C rfl gsX8_424 dX8_readDraft_17 rfl ?_
    refine r_gets (pc' := 23) C rfl gsX8_424 dX8_readDraft_20 rfl ?_
    refine r_oldL (pc' := 24) (a := (.char, oC0)) (v := 7) C rfl rfl dX8_readDraft_23 rfl ?_
    obtain ⟨q7, h⟩ := ck h
    obtain ⟨r8, e9, h⟩ := bd h
    refine r_cV1 (pc' := 27) C (X3_compileP_ok (ruof q7) e9) mlX8_428 ceX3_compile cvX3_compile (ru0 (ruof q7)) rfl rfl rfl (Nat.le_of_ble_eq_true rfl) rfl (Nat.le_of_ble_eq_true rfl) dX8_readDraft_24 rfl (kk := ?_)
    refine r_goto (tgt := 54) C dX8_readDraft_27 rfl ?_
    exact X8_readDraft_j54_ok  h Z C hE

/-! BorrowedWeight$Land.adoptDraft()V -/
def X0_adoptDraft (N : Nat)   (σ : Sg) : Option (Sg) :=
  bnS (wi σ 5 2 (gi σ 5 3)) fun σ1 => bnS (wi σ1 5 3 (gi σ 5 2)) fun σ3 => some σ3
set_option maxRecDepth 100000 in
set_option maxHeartbeats 4000000 in
theorem X0_adoptDraft_ok {E : Ev}  {N : Nat}  {σ : Sg} {r : Sg} (h : X0_adoptDraft N   σ = some r) : Cm E (0) yX0_adoptDraft cX0_adoptDraft 2 none [.ref 5] SH0 SH0 σ r (none) 0 0 := by
  refine Cm.intro (by decide +kernel) (Nat.le_of_ble_eq_true rfl) (fun _ h => by obtain ⟨_, _, _, _, _, _, h⟩ := h; exact h) (fun Z C hE => ?_)
  show Wm E Z 0 0 SH0 σ 0 [(0, .ref 5)] []
  unfold X0_adoptDraft at h
  refine r_aload_n (pc' := 1) C dX0_adoptDraft_0 rfl 0 rfl ?_
  refine r_getD (pc' := 4) C flX0_18 sh_5 rfl dX0_adoptDraft_1 rfl ?_
  refine r_astore_n (pc' := 5) (lv2 := [(1, .ref ((gi σ 5 2).toNatClampNeg)), (0, .ref 5)]) C dX0_adoptDraft_4 rfl rfl (Nat.le_of_ble_eq_true rfl) rfl ?_
  refine r_aload_n (pc' := 6) C dX0_adoptDraft_5 rfl 1 rfl ?_
  refine r_aload_n (pc' := 7) C dX0_adoptDraft_6 rfl 1 rfl ?_
  refine r_getD (pc' := 10) C flX0_22 sh_5 rfl dX0_adoptDraft_7 rfl ?_
  obtain ⟨σ1, e2, h⟩ := bs h
  refine r_putD (pc' := 13) (σ1 := σ1) C fpX0_18 sh_5 rfl dX0_adoptDraft_10 rfl e2 ?_
  refine r_aload_n (pc' := 14) C dX0_adoptDraft_13 rfl 1 rfl ?_
  refine r_aload_n (pc' := 15) C dX0_adoptDraft_14 rfl 0 rfl ?_
  obtain ⟨σ3, e4, h⟩ := bs h
  refine r_putD (pc' := 18) (σ1 := σ3) C fpX0_22 sh_5 rfl dX0_adoptDraft_15 rfl e4 ?_
  have h := Option.some.inj h
  subst h
  exact r_vret C dX0_adoptDraft_18 hE

/-! BorrowedWeight.rule()I -/
def X8_rule (N : Nat)   (σ : Sg) : Option (Int32 × Sg) :=
  (X8_readDraft N σ).bind fun r1 => (if r1.1 = (-1) then ((X0_adoptDraft N r1.2).bind fun r4 => (some (0, r4))) else (some ((-1) - r1.1, r1.2)))
set_option maxRecDepth 100000 in
set_option maxHeartbeats 4000000 in
theorem X8_rule_ok {E : Ev}  {N : Nat}  {σ : Sg} {r : Int32 × Sg} (h : X8_rule N   σ = some r) : Cm E (6) yX8_rule cX8_rule 2 (some .int) [.ref 0] SH0 SH0 σ r.2 (some (.int r.1)) 0 0 := by
  refine Cm.intro (by decide +kernel) (Nat.le_of_ble_eq_true rfl) (fun _ h => by obtain ⟨_, _, _, _, _, _, h⟩ := h; exact h) (fun Z C hE => ?_)
  show Wm E Z 0 0 SH0 σ 0 [(0, .ref 0)] []
  unfold X8_rule at h
  refine r_aload_n (pc' := 1) C dX8_rule_0 rfl 0 rfl ?_
  obtain ⟨r1, e2, h⟩ := bd h
  refine r_cV1 (pc' := 4) C (X8_readDraft_ok  e2) mlX8_132 ceX8_readDraft cvX8_readDraft sh_0 rfl rfl rfl (Nat.le_of_ble_eq_true rfl) rfl (Nat.le_of_ble_eq_true rfl) dX8_rule_1 rfl (kk := ?_)
  refine r_istore_n (pc' := 5) (lv2 := [(1, .int r1.1), (0, .ref 0)]) C dX8_rule_4 rfl rfl (Nat.le_of_ble_eq_true rfl) rfl ?_
  refine r_iload_n (pc' := 6) C dX8_rule_5 rfl 0 rfl ?_
  refine r_iconst (pc' := 7) C dX8_rule_6 rfl kc_m1 ?_
  refine r_icmp_eq (tgt := 14) (pc' := 10) C dX8_rule_7 rfl rfl (fun c3 => ?_) (fun c3 => ?_)
  · rw [if_pos c3] at h
    refine r_aload_n (pc' := 15) C dX8_rule_14 rfl 1 rfl ?_
    refine r_getR (pc' := 18) C flX8_26 sh_0 rfl dX8_rule_15 rfl ?_
    obtain ⟨r4, e5, h⟩ := bd h
    refine r_cV0 (pc' := 21) C (X0_adoptDraft_ok  e5) mlX8_135 ceX0_adoptDraft cvX0_adoptDraft sh_5 rfl rfl rfl (Nat.le_of_ble_eq_true rfl) rfl (Nat.le_of_ble_eq_true rfl) dX8_rule_18 rfl (kk := ?_)
    refine r_iconst (pc' := 22) C dX8_rule_21 rfl kc_0 ?_
    have h := Option.some.inj h
    subst h
    exact r_ret C rfl dX8_rule_22 hE
  · rw [if_neg c3] at h
    refine r_iconst (pc' := 11) C dX8_rule_10 rfl kc_m1 ?_
    refine r_iload_n (pc' := 12) C dX8_rule_11 rfl 0 rfl ?_
    refine r_isub (pc' := 13) C dX8_rule_12 rfl ?_
    have h := Option.some.inj h
    subst h
    exact r_ret C rfl dX8_rule_13 hE

/-! BorrowedWeight$Land.setSizes(IIII)I -/
def X0_setSizes_j55 (N : Nat)  (kr : Int32 → Int32 → Int32 → Int32 → Int32 → Int32 → Sg → Option (Int32 × Sg)) (v1 : Int32) (v2 : Int32) (v3 : Int32) (v4 : Int32) (v5 : Int32) (v6 : Int32) (v7 : Int32) (σ : Sg) : Option (Int32 × Sg) :=
  (J9_min_7cf53 N 9 v7 σ).bind fun r3 => ((J9_max_7cf53 N 1 r3 σ).bind fun r5 => (if inb v6 8 = true then bnS (wi σ 6 v6.toNatClampNeg r5) fun σ8 => if inb v6 8 = true then kr v1 v2 v3 v4 (v5 + (gi σ8 6 v6.toNatClampNeg)) (v6 + 1) σ8 else none else none))
set_option maxRecDepth 100000 in
set_option maxHeartbeats 4000000 in
theorem X0_setSizes_j55_ok {E : Ev}  {N : Nat} {kr : Int32 → Int32 → Int32 → Int32 → Int32 → Int32 → Sg → Option (Int32 × Sg)}  (hkr : ∀ (v1 : Int32) (v2 : Int32) (v3 : Int32) (v4 : Int32) (v5 : Int32) (v6 : Int32) (σ : Sg) (r : Int32 × Sg), kr v1 v2 v3 v4 v5 v6 σ = some r → Gp E RX0 cX0_setSizes (some .int) 8 (1) SH0 r.2 (some (.int r.1)) σ 6 [(0, .ref 5), (1, .int v1), (2, .int v2), (3, .int v3), (4, .int v4), (5, .int v5), (6, .int v6)] []) {v1 : Int32} {v2 : Int32} {v3 : Int32} {v4 : Int32} {v5 : Int32} {v6 : Int32} {v7 : Int32} {σ : Sg} {r : Int32 × Sg} (h : X0_setSizes_j55 N  kr v1 v2 v3 v4 v5 v6 v7 σ = some r) : Gp E RX0 cX0_setSizes (some .int) 8 (1) SH0 r.2 (some (.int r.1)) σ 55 [(0, .ref 5), (1, .int v1), (2, .int v2), (3, .int v3), (4, .int v4), (5, .int v5), (6, .int v6), (7, .int v7)] [] := by
  intro Z C hE
  unfold X0_setSizes_j55 at h
  refine r_aload_n (pc' := 56) C dX0_setSizes_55 rfl 0 rfl ?_
  refine r_getR (pc' := 59) C flX0_9 sh_5 rfl dX0_setSizes_56 rfl ?_
  refine r_iload (pc' := 61) C dX0_setSizes_59 rfl 6 rfl ?_
  refine r_iconst (pc' := 62) C dX0_setSizes_61 rfl kc_1 ?_
  refine r_bipush (pc' := 64) C dX0_setSizes_62 rfl kb_9 ?_
  refine r_iload (pc' := 66) C dX0_setSizes_64 rfl 7 rfl ?_
  obtain ⟨r3, e4, h⟩ := bd h
  refine r_cS1 (pc' := 69) C (J9_min_7cf53_ok  e4) mlX0_53 ceJ9_min_7cf53 csJ9_min_7cf53 rfl (Nat.le_of_ble_eq_true rfl) rfl (Nat.le_of_ble_eq_true rfl) dX0_setSizes_66 rfl (kk := ?_)
  obtain ⟨r5, e6, h⟩ := bd h
  refine r_cS1 (pc' := 72) C (J9_max_7cf53_ok  e6) mlX0_59 ceJ9_max_7cf53 csJ9_max_7cf53 rfl (Nat.le_of_ble_eq_true rfl) rfl (Nat.le_of_ble_eq_true rfl) dX0_setSizes_69 rfl (kk := ?_)
  obtain ⟨q7, h⟩ := ck h
  obtain ⟨σ8, e9, h⟩ := bs h
  refine r_iast (pc' := 73) (σ1 := σ8) C sh_6 (vin q7) dX0_setSizes_72 rfl e9 ?_
  refine r_iload (pc' := 75) C dX0_setSizes_73 rfl 5 rfl ?_
  refine r_aload_n (pc' := 76) C dX0_setSizes_75 rfl 0 rfl ?_
  refine r_getR (pc' := 79) C flX0_9 sh_5 rfl dX0_setSizes_76 rfl ?_
  refine r_iload (pc' := 81) C dX0_setSizes_79 rfl 6 rfl ?_
  obtain ⟨q10, h⟩ := ck h
  refine r_iald (pc' := 82) C sh_6 (vin q10) dX0_setSizes_81 rfl ?_
  refine r_iadd (pc' := 83) C dX0_setSizes_82 rfl ?_
  refine r_istore (pc' := 85) (lv2 := [(5, .int (v5 + (gi σ8 6 v6.toNatClampNeg))), (0, .ref 5), (1, .int v1), (2, .int v2), (3, .int v3), (4, .int v4), (6, .int v6), (7, .int v7)]) C dX0_setSizes_83 rfl (Nat.le_of_ble_eq_true rfl) rfl ?_
  refine r_iinc (pc' := 88) (v := v6 + 1) (lv2 := [(6, .int (v6 + 1)), (5, .int (v5 + (gi σ8 6 v6.toNatClampNeg))), (0, .ref 5), (1, .int v1), (2, .int v2), (3, .int v3), (4, .int v4), (7, .int v7)]) C dX0_setSizes_85 rfl 6 rfl rfl (Nat.le_of_ble_eq_true rfl) rfl ?_
  refine r_goto (tgt := 6) C dX0_setSizes_88 rfl ?_
  refine r_sub [2, 3, 4, 5, 6, 1, 0] rfl ?_
  exact hkr _ _ _ _ _ _ _ _ h Z C hE
def X0_setSizes_l6 (N : Nat)    : Nat → Int32 → Int32 → Int32 → Int32 → Int32 → Int32 → Sg → Option (Int32 × Sg)
  | 0, _, _, _, _, _, _, _ => none
  | n + 1, v1, v2, v3, v4, v5, v6, σ =>
    if (gi σ 5 1) ≤ v6 then (some (v5, σ)) else (if v2 ≤ v6 then (X0_setSizes_j55 N (fun v1 v2 v3 v4 v5 v6 σ => X0_setSizes_l6 N n v1 v2 v3 v4 v5 v6 σ) v1 v2 v3 v4 v5 v6 1 σ) else (if v1 = 0 then (X0_setSizes_j55 N (fun v1 v2 v3 v4 v5 v6 σ => X0_setSizes_l6 N n v1 v2 v3 v4 v5 v6 σ) v1 v2 v3 v4 v5 v6 (i2b_ (v3 + (v6 * v4))) σ) else (if v1 = 1 then (X0_setSizes_j55 N (fun v1 v2 v3 v4 v5 v6 σ => X0_setSizes_l6 N n v1 v2 v3 v4 v5 v6 σ) v1 v2 v3 v4 v5 v6 (i2s_ (v3 + (v6 * v4))) σ) else (X0_setSizes_j55 N (fun v1 v2 v3 v4 v5 v6 σ => X0_setSizes_l6 N n v1 v2 v3 v4 v5 v6 σ) v1 v2 v3 v4 v5 v6 (v3 + (v6 * v4)) σ))))
set_option maxRecDepth 100000 in
set_option maxHeartbeats 4000000 in
theorem X0_setSizes_l6_ok {E : Ev}  {N : Nat}    : ∀ (n : Nat) (v1 : Int32) (v2 : Int32) (v3 : Int32) (v4 : Int32) (v5 : Int32) (v6 : Int32) (σ : Sg) (r : Int32 × Sg), X0_setSizes_l6 N n v1 v2 v3 v4 v5 v6 σ = some r → Gp E RX0 cX0_setSizes (some .int) 8 (1) SH0 r.2 (some (.int r.1)) σ 6 [(0, .ref 5), (1, .int v1), (2, .int v2), (3, .int v3), (4, .int v4), (5, .int v5), (6, .int v6)] [] := by
  intro n
  induction n with
  | zero => intro v1 v2 v3 v4 v5 v6 σ r h; cases h
  | succ n ih =>
    intro v1 v2 v3 v4 v5 v6 σ r h Z C hE
    unfold X0_setSizes_l6 at h
    refine r_iload (pc' := 8) C dX0_setSizes_6 rfl 6 rfl ?_
    refine r_aload_n (pc' := 9) C dX0_setSizes_8 rfl 0 rfl ?_
    refine r_getI (pc' := 12) C flX0_41 sh_5 rfl dX0_setSizes_9 rfl ?_
    refine r_icmp_ge (tgt := 91) (pc' := 15) C dX0_setSizes_12 rfl rfl (fun c1 => ?_) (fun c1 => ?_)
    · rw [if_pos c1] at h
      refine r_iload (pc' := 93) C dX0_setSizes_91 rfl 5 rfl ?_
      have h := Option.some.inj h
      subst h
      exact r_ret C rfl dX0_setSizes_93 hE
    · rw [if_neg c1] at h
      refine r_iconst (pc' := 16) C dX0_setSizes_15 rfl kc_1 ?_
      refine r_istore (pc' := 18) (lv2 := [(7, .int 1), (0, .ref 5), (1, .int v1), (2, .int v2), (3, .int v3), (4, .int v4), (5, .int v5), (6, .int v6)]) C dX0_setSizes_16 rfl (Nat.le_of_ble_eq_true rfl) rfl ?_
      refine r_iload (pc' := 20) C dX0_setSizes_18 rfl 7 rfl ?_
      refine r_iload_n (pc' := 21) C dX0_setSizes_20 rfl 3 rfl ?_
      refine r_icmp_ge (tgt := 55) (pc' := 24) C dX0_setSizes_21 rfl rfl (fun c2 => ?_) (fun c2 => ?_)
      · rw [if_pos c2] at h
        refine r_sub [1, 2, 3, 4, 5, 6, 7, 0] rfl ?_
        exact X0_setSizes_j55_ok  ih h Z C hE
      · rw [if_neg c2] at h
        refine r_iload_n (pc' := 25) C dX0_setSizes_24 rfl 4 rfl ?_
        refine r_iload (pc' := 27) C dX0_setSizes_25 rfl 7 rfl ?_
        refine r_iload (pc' := 29) C dX0_setSizes_27 rfl 5 rfl ?_
        refine r_imul (pc' := 30) C dX0_setSizes_29 rfl ?_
        refine r_iadd (pc' := 31) C dX0_setSizes_30 rfl ?_
        refine r_istore (pc' := 33) (lv2 := [(7, .int (v3 + (v6 * v4))), (0, .ref 5), (1, .int v1), (2, .int v2), (3, .int v3), (4, .int v4), (5, .int v5), (6, .int v6)]) C dX0_setSizes_31 rfl (Nat.le_of_ble_eq_true rfl) rfl ?_
        refine r_iload_n (pc' := 34) C dX0_setSizes_33 rfl 2 rfl ?_
        refine r_if_ne (tgt := 45) (pc' := 37) C dX0_setSizes_34 rfl rfl (fun c11 => ?_) (fun c11 => ?_)
        · rw [if_neg c11] at h
          refine r_iload_n (pc' := 46) C dX0_setSizes_45 rfl 2 rfl ?_
          refine r_iconst (pc' := 47) C dX0_setSizes_46 rfl kc_1 ?_
          refine r_icmp_ne (tgt := 55) (pc' := 50) C dX0_setSizes_47 rfl rfl (fun c12 => ?_) (fun c12 => ?_)
          · rw [if_neg c12] at h
            refine r_sub [1, 2, 3, 4, 5, 6, 7, 0] rfl ?_
            exact X0_setSizes_j55_ok  ih h Z C hE
          · rw [if_pos c12] at h
            refine r_iload (pc' := 52) C dX0_setSizes_50 rfl 0 rfl ?_
            refine r_i2s (pc' := 53) (v := i2s_ (v3 + (v6 * v4))) C dX0_setSizes_52 rfl rfl ?_
            refine r_istore (pc' := 55) (lv2 := [(7, .int (i2s_ (v3 + (v6 * v4)))), (0, .ref 5), (1, .int v1), (2, .int v2), (3, .int v3), (4, .int v4), (5, .int v5), (6, .int v6)]) C dX0_setSizes_53 rfl (Nat.le_of_ble_eq_true rfl) rfl ?_
            refine r_sub [1, 2, 3, 4, 5, 6, 7, 0] rfl ?_
            exact X0_setSizes_j55_ok  ih h Z C hE
        · rw [if_pos c11] at h
          refine r_iload (pc' := 39) C dX0_setSizes_37 rfl 0 rfl ?_
          refine r_i2b (pc' := 40) (v := i2b_ (v3 + (v6 * v4))) C dX0_setSizes_39 rfl rfl ?_
          refine r_istore (pc' := 42) (lv2 := [(7, .int (i2b_ (v3 + (v6 * v4)))), (0, .ref 5), (1, .int v1), (2, .int v2), (3, .int v3), (4, .int v4), (5, .int v5), (6, .int v6)]) C dX0_setSizes_40 rfl (Nat.le_of_ble_eq_true rfl) rfl ?_
          refine r_goto (tgt := 55) C dX0_setSizes_42 rfl ?_
          refine r_sub [1, 2, 3, 4, 5, 6, 7, 0] rfl ?_
          exact X0_setSizes_j55_ok  ih h Z C hE
def X0_setSizes (N : Nat)  (v1 : Int32) (v2 : Int32) (v3 : Int32) (v4 : Int32) (σ : Sg) : Option (Int32 × Sg) :=
  X0_setSizes_l6 N N v1 v2 v3 v4 0 0 σ
set_option maxRecDepth 100000 in
set_option maxHeartbeats 4000000 in
theorem X0_setSizes_ok {E : Ev}  {N : Nat} {v1 : Int32} {v2 : Int32} {v3 : Int32} {v4 : Int32} {σ : Sg} {r : Int32 × Sg} (h : X0_setSizes N  v1 v2 v3 v4 σ = some r) : Cm E (1) yX0_setSizes cX0_setSizes 8 (some .int) [.ref 5, .int v1, .int v2, .int v3, .int v4] SH0 SH0 σ r.2 (some (.int r.1)) 0 0 := by
  refine Cm.intro (by decide +kernel) (Nat.le_of_ble_eq_true rfl) (fun _ h => by obtain ⟨_, _, _, _, _, _, h⟩ := h; exact h) (fun Z C hE => ?_)
  show Wm E Z 0 0 SH0 σ 0 [(0, .ref 5), (1, .int v1), (2, .int v2), (3, .int v3), (4, .int v4)] []
  unfold X0_setSizes at h
  refine r_iconst (pc' := 1) C dX0_setSizes_0 rfl kc_0 ?_
  refine r_istore (pc' := 3) (lv2 := [(5, .int 0), (0, .ref 5), (1, .int v1), (2, .int v2), (3, .int v3), (4, .int v4)]) C dX0_setSizes_1 rfl (Nat.le_of_ble_eq_true rfl) rfl ?_
  refine r_iconst (pc' := 4) C dX0_setSizes_3 rfl kc_0 ?_
  refine r_istore (pc' := 6) (lv2 := [(6, .int 0), (5, .int 0), (0, .ref 5), (1, .int v1), (2, .int v2), (3, .int v3), (4, .int v4)]) C dX0_setSizes_4 rfl (Nat.le_of_ble_eq_true rfl) rfl ?_
  refine r_sub [2, 3, 4, 5, 6, 1, 0] rfl ?_
  exact X0_setSizes_l6_ok  N _ _ _ _ _ _ _ _ h Z C hE
