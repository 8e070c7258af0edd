/-! BorrowedWeightModel.isThing(I)Z -/
def X9_isThing (N : Nat)  (v1 : Int32) (σ : Sg) : Option (Int32) :=
  (X9_in N v1.toInt64 0 (((gi σ 149 3) - 1).toInt64) σ).bind fun r1 => (if isB r1 = true then some r1 else none)
set_option maxRecDepth 100000 in
set_option maxHeartbeats 4000000 in
theorem X9_isThing_ok {E : Ev}  {N : Nat} {v1 : Int32} {σ : Sg} {r : Int32} (h : X9_isThing N  v1 σ = some r) : Cm E 1 yX9_isThing cX9_isThing 2 (some .boolean) [.ref 149, .int v1] SH0 SH0 σ σ (some (.int r)) 0 0 := by
  refine Cm.intro (by decide +kernel) (Nat.le_of_ble_eq_true rfl) (fun _ h => by obtain ⟨_, _, _, _, _, _, h⟩ := h; exact h) (fun Z C hE => ?_)
  show Wm E Z 0 0 SH0 σ 0 [(0, .ref 149), (1, .int v1)] []
  unfold X9_isThing at h
  refine r_iload_n (pc' := 1) C dX9_isThing_0 rfl 1 rfl ?_
  refine r_i2l (pc' := 2) C dX9_isThing_1 rfl rfl ?_
  refine r_lconst (pc' := 3) C dX9_isThing_2 rfl kl_0 ?_
  refine r_aload_n (pc' := 4) C dX9_isThing_3 rfl 0 rfl ?_
  refine r_getI (pc' := 7) C flX9_116 sh_149 rfl dX9_isThing_4 rfl ?_
  refine r_iconst (pc' := 8) C dX9_isThing_7 rfl kc_1 ?_
  refine r_isub (pc' := 9) C dX9_isThing_8 rfl ?_
  refine r_i2l (pc' := 10) C dX9_isThing_9 rfl rfl ?_
  obtain ⟨r1, e2, h⟩ := bd h
  refine r_cS1 (pc' := 13) C (X9_in_ok  e2) mlX9_119 ceX9_in csX9_in rfl (Nat.le_of_ble_eq_true rfl) rfl (Nat.le_of_ble_eq_true rfl) dX9_isThing_10 rfl (kk := ?_)
  obtain ⟨q3, h⟩ := ck h
  have h := Option.some.inj h
  subst h
  exact r_ret C (nisB q3) dX9_isThing_13 hE

/-! BorrowedWeightModel.has(II)Z -/
def X9_has (N : Nat)  (v0 : Int32) (v1 : Int32) (σ : Sg) : Option (Int32) :=
  if ((v0 >>> (v1 &&& 31)) &&& 1) = 1 then (some 1) else (some 0)
set_option maxRecDepth 100000 in
set_option maxHeartbeats 4000000 in
theorem X9_has_ok {E : Ev}  {N : Nat} {v0 : Int32} {v1 : Int32} {σ : Sg} {r : Int32} (h : X9_has N  v0 v1 σ = some r) : Cm E 0 yX9_has cX9_has 2 (some .boolean) [.int v0, .int v1] SH0 SH0 σ σ (some (.int r)) 0 0 := by
  refine Cm.intro (by decide +kernel) (Nat.le_of_ble_eq_true rfl) (fun _ h => by obtain ⟨_, _, _, _, _, _, h⟩ := h; exact h) (fun Z C hE => ?_)
  show Wm E Z 0 0 SH0 σ 0 [(0, .int v0), (1, .int v1)] []
  unfold X9_has at h
  refine r_iload_n (pc' := 1) C dX9_has_0 rfl 0 rfl ?_
  refine r_iload_n (pc' := 2) C dX9_has_1 rfl 1 rfl ?_
  refine r_ishr (pc' := 3) C dX9_has_2 rfl ?_
  refine r_iconst (pc' := 4) C dX9_has_3 rfl kc_1 ?_
  refine r_iand (pc' := 5) C dX9_has_4 rfl ?_
  refine r_iconst (pc' := 6) C dX9_has_5 rfl kc_1 ?_
  refine r_icmp_ne (tgt := 13) (pc' := 9) C dX9_has_6 rfl rfl (fun c1 => ?_) (fun c1 => ?_)
  · rw [if_neg c1] at h
    refine r_iconst (pc' := 14) C dX9_has_13 rfl kc_0 ?_
    have h := Option.some.inj h
    subst h
    exact r_ret C rfl dX9_has_14 hE
  · rw [if_pos c1] at h
    refine r_iconst (pc' := 10) C dX9_has_9 rfl kc_1 ?_
    refine r_goto (tgt := 14) C dX9_has_10 rfl ?_
    have h := Option.some.inj h
    subst h
    exact r_ret C rfl dX9_has_14 hE

/-! BorrowedWeightModel.isHere([II)Z -/
def X9_isHere (N : Nat) (k1 : Nat) (v2 : Int32) (σ : Sg) : Option (Int32) :=
  (X9_isThing N v2 σ).bind fun r1 => (if r1 = 0 then (some 0) else (if inb 32 37 = true then (X9_has N (gi σ k1 (32 : Int32).toNatClampNeg) v2 σ).bind fun r5 => (if r5 = 0 then (some 1) else (some 0)) else none))
set_option maxRecDepth 100000 in
set_option maxHeartbeats 4000000 in
theorem X9_isHere_ok {E : Ev} {k1 : Nat} (hk1 : MaAt SH0 k1) {N : Nat} {v2 : Int32} {σ : Sg} {r : Int32} (h : X9_isHere N k1 v2 σ = some r) : Cm E 2 yX9_isHere cX9_isHere 3 (some .boolean) [.ref 149, .ref k1, .int v2] SH0 SH0 σ σ (some (.int r)) 0 0 := by
  refine Cm.intro (by decide +kernel) (Nat.le_of_ble_eq_true rfl) (fun _ h => by obtain ⟨_, _, _, _, _, _, h⟩ := h; exact h) (fun Z C hE => ?_)
  show Wm E Z 0 0 SH0 σ 0 [(0, .ref 149), (1, .ref k1), (2, .int v2)] []
  unfold X9_isHere at h
  refine r_aload_n (pc' := 1) C dX9_isHere_0 rfl 0 rfl ?_
  refine r_iload_n (pc' := 2) C dX9_isHere_1 rfl 2 rfl ?_
  obtain ⟨r1, e2, h⟩ := bd h
  refine r_cV1 (pc' := 5) C (X9_isThing_ok  e2) mlX9_123 ceX9_isThing cvX9_isThing sh_149 rfl rfl rfl (Nat.le_of_ble_eq_true rfl) rfl (Nat.le_of_ble_eq_true rfl) dX9_isHere_2 rfl (kk := ?_)
  refine r_if_eq (tgt := 23) (pc' := 8) C dX9_isHere_5 rfl rfl (fun c3 => ?_) (fun c3 => ?_)
  · rw [if_pos c3] at h
    refine r_iconst (pc' := 24) C dX9_isHere_23 rfl kc_0 ?_
    have h := Option.some.inj h
    subst h
    exact r_ret C rfl dX9_isHere_24 hE
  · rw [if_neg c3] at h
    refine r_aload_n (pc' := 9) C dX9_isHere_8 rfl 1 rfl ?_
    refine r_bipush (pc' := 11) C dX9_isHere_9 rfl kb_32 ?_
    obtain ⟨q4, h⟩ := ck h
    refine r_iald (pc' := 12) C hk1 (vin q4) dX9_isHere_11 rfl ?_
    refine r_iload_n (pc' := 13) C dX9_isHere_12 rfl 2 rfl ?_
    obtain ⟨r5, e6, h⟩ := bd h
    refine r_cS1 (pc' := 16) C (X9_has_ok  e6) mlX9_127 ceX9_has csX9_has rfl (Nat.le_of_ble_eq_true rfl) rfl (Nat.le_of_ble_eq_true rfl) dX9_isHere_13 rfl (kk := ?_)
    refine r_if_ne (tgt := 23) (pc' := 19) C dX9_isHere_16 rfl rfl (fun c7 => ?_) (fun c7 => ?_)
    · rw [if_neg c7] at h
      refine r_iconst (pc' := 24) C dX9_isHere_23 rfl kc_0 ?_
      have h := Option.some.inj h
      subst h
      exact r_ret C rfl dX9_isHere_24 hE
    · rw [if_pos c7] at h
      refine r_iconst (pc' := 20) C dX9_isHere_19 rfl kc_1 ?_
      refine r_goto (tgt := 24) C dX9_isHere_20 rfl ?_
      have h := Option.some.inj h
      subst h
      exact r_ret C rfl dX9_isHere_24 hE

/-! BorrowedWeightModel.thingBut(I)I -/
def X9_thingBut_j33 (N : Nat)    (σ : Sg) : Option (Int32 × Sg) :=
  bnS (wi σ 149 12 ((gi σ 149 12) - 1)) fun σ5 => some ((-1), σ5)
set_option maxRecDepth 100000 in
set_option maxHeartbeats 4000000 in
theorem X9_thingBut_j33_ok {E : Ev}  {N : Nat}     {σ : Sg} {r : Int32 × Sg} (h : X9_thingBut_j33 N    σ = some r) : Gp E RX9 cX9_thingBut (some .int) 3 3 SH0 r.2 (some (.int r.1)) σ 33 [(0, .ref 149)] [] := by
  intro Z C hE
  unfold X9_thingBut_j33 at h
  refine r_aload_n (pc' := 34) C dX9_thingBut_33 rfl 0 rfl ?_
  refine r_dup (pc' := 35) C dX9_thingBut_34 rfl rfl ?_
  refine r_getI (pc' := 38) C flX9_144 sh_149 rfl dX9_thingBut_35 rfl ?_
  refine r_iconst (pc' := 39) C dX9_thingBut_38 rfl kc_1 ?_
  refine r_isub (pc' := 40) C dX9_thingBut_39 rfl ?_
  obtain ⟨σ5, e6, h⟩ := bs h
  refine r_putI (pc' := 43) (σ1 := σ5) C fpX9_144 sh_149 rfl rfl rfl dX9_thingBut_40 rfl e6 ?_
  refine r_iconst (pc' := 44) C dX9_thingBut_43 rfl kc_m1 ?_
  have h := Option.some.inj h
  subst h
  exact r_ret C rfl dX9_thingBut_44 hE
def X9_thingBut (N : Nat)  (v1 : Int32) (σ : Sg) : Option (Int32 × Sg) :=
  (X9_digitIn N 0 ((gi σ 149 3) - 1) σ).bind fun r1 => (if r1.1 < 0 then (some (r1.1, r1.2)) else (if r1.1 = v1 then (X9_thingBut_j33 N r1.2) else ((X9_isHere N 153 r1.1 r1.2).bind fun r7 => (if r7 = 0 then (X9_thingBut_j33 N r1.2) else (some (r1.1, r1.2))))))
set_option maxRecDepth 100000 in
set_option maxHeartbeats 4000000 in
theorem X9_thingBut_ok {E : Ev}  {N : Nat} {v1 : Int32} {σ : Sg} {r : Int32 × Sg} (h : X9_thingBut N  v1 σ = some r) : Cm E 3 yX9_thingBut cX9_thingBut 3 (some .int) [.ref 149, .int v1] SH0 SH0 σ r.2 (some (.int r.1)) 0 0 := by
  refine Cm.intro (by decide +kernel) (Nat.le_of_ble_eq_true rfl) (fun _ h => by obtain ⟨_, _, _, _, _, _, h⟩ := h; exact h) (fun Z C hE => ?_)
  show Wm E Z 0 0 SH0 σ 0 [(0, .ref 149), (1, .int v1)] []
  unfold X9_thingBut at h
  refine r_aload_n (pc' := 1) C dX9_thingBut_0 rfl 0 rfl ?_
  refine r_iconst (pc' := 2) C dX9_thingBut_1 rfl kc_0 ?_
  refine r_aload_n (pc' := 3) C dX9_thingBut_2 rfl 0 rfl ?_
  refine r_getI (pc' := 6) C flX9_116 sh_149 rfl dX9_thingBut_3 rfl ?_
  refine r_iconst (pc' := 7) C dX9_thingBut_6 rfl kc_1 ?_
  refine r_isub (pc' := 8) C dX9_thingBut_7 rfl ?_
  obtain ⟨r1, e2, h⟩ := bd h
  refine r_cV1 (pc' := 11) C (X9_digitIn_ok  e2) mlX9_186 ceX9_digitIn cvX9_digitIn sh_149 rfl rfl rfl (Nat.le_of_ble_eq_true rfl) rfl (Nat.le_of_ble_eq_true rfl) dX9_thingBut_8 rfl (kk := ?_)
  refine r_istore_n (pc' := 12) (lv2 := [(2, .int r1.1), (0, .ref 149), (1, .int v1)]) C dX9_thingBut_11 rfl rfl (Nat.le_of_ble_eq_true rfl) rfl ?_
  refine r_iload_n (pc' := 13) C dX9_thingBut_12 rfl 0 rfl ?_
  refine r_if_lt (tgt := 45) (pc' := 16) C dX9_thingBut_13 rfl rfl (fun c3 => ?_) (fun c3 => ?_)
  · rw [if_pos c3] at h
    refine r_iload_n (pc' := 46) C dX9_thingBut_45 rfl 0 rfl ?_
    have h := Option.some.inj h
    subst h
    exact r_ret C rfl dX9_thingBut_46 hE
  · rw [if_neg c3] at h
    refine r_iload_n (pc' := 17) C dX9_thingBut_16 rfl 0 rfl ?_
    refine r_iload_n (pc' := 18) C dX9_thingBut_17 rfl 2 rfl ?_
    refine r_icmp_eq (tgt := 33) (pc' := 21) C dX9_thingBut_18 rfl rfl (fun c4 => ?_) (fun c4 => ?_)
    · rw [if_pos c4] at h
      refine r_sub [1] rfl ?_
      exact X9_thingBut_j33_ok  h Z C hE
    · rw [if_neg c4] at h
      refine r_aload_n (pc' := 22) C dX9_thingBut_21 rfl 1 rfl ?_
      refine r_aload_n (pc' := 23) C dX9_thingBut_22 rfl 1 rfl ?_
      refine r_getR (pc' := 26) C flX9_34 sh_149 rfl dX9_thingBut_23 rfl ?_
      refine r_iload_n (pc' := 27) C dX9_thingBut_26 rfl 0 rfl ?_
      obtain ⟨r7, e8, h⟩ := bd h
      refine r_cV1 (pc' := 30) C (X9_isHere_ok mac_153 e8) mlX9_202 ceX9_isHere cvX9_isHere sh_149 rfl rfl rfl (Nat.le_of_ble_eq_true rfl) rfl (Nat.le_of_ble_eq_true rfl) dX9_thingBut_27 rfl (kk := ?_)
      refine r_if_ne (tgt := 45) (pc' := 33) C dX9_thingBut_30 rfl rfl (fun c9 => ?_) (fun c9 => ?_)
      · rw [if_neg c9] at h
        refine r_iload_n (pc' := 46) C dX9_thingBut_45 rfl 0 rfl ?_
        have h := Option.some.inj h
        subst h
        exact r_ret C rfl dX9_thingBut_46 hE
      · rw [if_pos c9] at h
        refine r_sub [1] rfl ?_
        exact X9_thingBut_j33_ok  h Z C hE

/-! BorrowedWeightModel.putsBy()V -/
def X9_putsBy_l2 (N : Nat)    : Nat → Int32 → Sg → Option (Sg)
  | 0, _, _ => none
  | n + 1, v1, σ =>
    if 37 ≤ v1 then (some σ) else (if inb v1 37 = true then if inb ((37 * (gi σ 149 23)) + v1) 592 = true then bnS (wi σ 161 ((37 * (gi σ 149 23)) + v1).toNatClampNeg (gi σ 153 v1.toNatClampNeg)) fun σ4 => X9_putsBy_l2 N n (v1 + 1) σ4 else none else none)
set_option maxRecDepth 100000 in
set_option maxHeartbeats 4000000 in
theorem X9_putsBy_l2_ok {E : Ev}  {N : Nat}    : ∀ (n : Nat) (v1 : Int32) (σ : Sg) (r : Sg), X9_putsBy_l2 N n v1 σ = some r → Gp E RX9 cX9_putsBy none 2 0 SH0 r (none) σ 2 [(0, .ref 149), (1, .int v1)] [] := by
  intro n
  induction n with
  | zero => intro v1 σ r h; cases h
  | succ n ih =>
    intro v1 σ r h Z C hE
    unfold X9_putsBy_l2 at h
    refine r_iload_n (pc' := 3) C dX9_putsBy_2 rfl 1 rfl ?_
    refine r_bipush (pc' := 5) C dX9_putsBy_3 rfl kb_37 ?_
    refine r_icmp_ge (tgt := 34) (pc' := 8) C dX9_putsBy_5 rfl rfl (fun c1 => ?_) (fun c1 => ?_)
    · rw [if_pos c1] at h
      have h := Option.some.inj h
      subst h
      exact r_vret C dX9_putsBy_34 hE
    · rw [if_neg c1] at h
      refine r_aload_n (pc' := 9) C dX9_putsBy_8 rfl 0 rfl ?_
      refine r_getR (pc' := 12) C flX9_58 sh_149 rfl dX9_putsBy_9 rfl ?_
      refine r_bipush (pc' := 14) C dX9_putsBy_12 rfl kb_37 ?_
      refine r_aload_n (pc' := 15) C dX9_putsBy_14 rfl 0 rfl ?_
      refine r_getI (pc' := 18) C flX9_196 sh_149 rfl dX9_putsBy_15 rfl ?_
      refine r_imul (pc' := 19) C dX9_putsBy_18 rfl ?_
      refine r_iload_n (pc' := 20) C dX9_putsBy_19 rfl 1 rfl ?_
      refine r_iadd (pc' := 21) C dX9_putsBy_20 rfl ?_
      refine r_aload_n (pc' := 22) C dX9_putsBy_21 rfl 0 rfl ?_
      refine r_getR (pc' := 25) C flX9_34 sh_149 rfl dX9_putsBy_22 rfl ?_
      refine r_iload_n (pc' := 26) C dX9_putsBy_25 rfl 1 rfl ?_
      obtain ⟨q2, h⟩ := ck h
      refine r_iald (pc' := 27) C sh_153 (vin q2) dX9_putsBy_26 rfl ?_
      obtain ⟨q3, h⟩ := ck h
      obtain ⟨σ4, e5, h⟩ := bs h
      refine r_iast (pc' := 28) (σ1 := σ4) C sh_161 (vin q3) dX9_putsBy_27 rfl e5 ?_
      refine r_iinc (pc' := 31) (v := v1 + 1) (lv2 := [(1, .int (v1 + 1)), (0, .ref 149)]) C dX9_putsBy_28 rfl 1 rfl rfl (Nat.le_of_ble_eq_true rfl) rfl ?_
      refine r_goto (tgt := 2) C dX9_putsBy_31 rfl ?_
      refine r_sub [1, 0] rfl ?_
      exact ih _ _ _ h Z C hE
def X9_putsBy (N : Nat)   (σ : Sg) : Option (Sg) :=
  X9_putsBy_l2 N N 0 σ
set_option maxRecDepth 100000 in
set_option maxHeartbeats 4000000 in
theorem X9_putsBy_ok {E : Ev}  {N : Nat}  {σ : Sg} {r : Sg} (h : X9_putsBy N   σ = some r) : Cm E 0 yX9_putsBy cX9_putsBy 2 none [.ref 149] SH0 SH0 σ r (none) 0 0 := by
  refine Cm.intro (by decide +kernel) (Nat.le_of_ble_eq_true rfl) (fun _ h => by obtain ⟨_, _, _, _, _, _, h⟩ := h; exact h) (fun Z C hE => ?_)
  show Wm E Z 0 0 SH0 σ 0 [(0, .ref 149)] []
  unfold X9_putsBy at h
  refine r_iconst (pc' := 1) C dX9_putsBy_0 rfl kc_0 ?_
  refine r_istore_n (pc' := 2) (lv2 := [(1, .int 0), (0, .ref 149)]) C dX9_putsBy_1 rfl rfl (Nat.le_of_ble_eq_true rfl) rfl ?_
  refine r_sub [1, 0] rfl ?_
  exact X9_putsBy_l2_ok  N _ _ _ h Z C hE

/-! BorrowedWeightModel.toggles([III)V -/
def X9_toggles (N : Nat) (k0 : Nat) (v1 : Int32) (v2 : Int32) (σ : Sg) : Option (Sg) :=
  if inb (24 + v1) 37 = true then if inb (24 + v1) 37 = true then bnS (wi σ k0 (24 + v1).toNatClampNeg ((gi σ k0 (24 + v1).toNatClampNeg) ^^^ (1 <<< (v2 &&& 31)))) fun σ3 => if inb (24 + v2) 37 = true then if inb (24 + v2) 37 = true then bnS (wi σ3 k0 (24 + v2).toNatClampNeg ((gi σ3 k0 (24 + v2).toNatClampNeg) ^^^ (1 <<< (v1 &&& 31)))) fun σ7 => some σ7 else none else none else none else none
set_option maxRecDepth 100000 in
set_option maxHeartbeats 4000000 in
theorem X9_toggles_ok {E : Ev} {k0 : Nat} (hk0 : MaAt SH0 k0) {N : Nat} {v1 : Int32} {v2 : Int32} {σ : Sg} {r : Sg} (h : X9_toggles N k0 v1 v2 σ = some r) : Cm E 0 yX9_toggles cX9_toggles 3 none [.ref k0, .int v1, .int v2] SH0 SH0 σ r (none) 0 0 := by
  refine Cm.intro (by decide +kernel) (Nat.le_of_ble_eq_true rfl) (fun _ h => by obtain ⟨_, _, _, _, _, _, h⟩ := h; exact h) (fun Z C hE => ?_)
  show Wm E Z 0 0 SH0 σ 0 [(0, .ref k0), (1, .int v1), (2, .int v2)] []
  unfold X9_toggles at h
  refine r_aload_n (pc' := 1) C dX9_toggles_0 rfl 0 rfl ?_
  refine r_bipush (pc' := 3) C dX9_toggles_1 rfl kb_24 ?_
  refine r_iload_n (pc' := 4) C dX9_toggles_3 rfl 1 rfl ?_
  refine r_iadd (pc' := 5) C dX9_toggles_4 rfl ?_
  refine r_dup2 (pc' := 6) C dX9_toggles_5 rfl rfl rfl ?_
  obtain ⟨q1, h⟩ := ck h
  refine r_iald (pc' := 7) C hk0 (vin q1) dX9_toggles_6 rfl ?_
  refine r_iconst (pc' := 8) C dX9_toggles_7 rfl kc_1 ?_
  refine r_iload_n (pc' := 9) C dX9_toggles_8 rfl 2 rfl ?_
  refine r_ishl (pc' := 10) C dX9_toggles_9 rfl ?_
  refine r_ixor (pc' := 11) C dX9_toggles_10 rfl ?_
  obtain ⟨q2, h⟩ := ck h
  obtain ⟨σ3, e4, h⟩ := bs h
  refine r_iast (pc' := 12) (σ1 := σ3) C hk0 (vin q2) dX9_toggles_11 rfl e4 ?_
  refine r_aload_n (pc' := 13) C dX9_toggles_12 rfl 0 rfl ?_
  refine r_bipush (pc' := 15) C dX9_toggles_13 rfl kb_24 ?_
  refine r_iload_n (pc' := 16) C dX9_toggles_15 rfl 2 rfl ?_
  refine r_iadd (pc' := 17) C dX9_toggles_16 rfl ?_
  refine r_dup2 (pc' := 18) C dX9_toggles_17 rfl rfl rfl ?_
  obtain ⟨q5, h⟩ := ck h
  refine r_iald (pc' := 19) C hk0 (vin q5) dX9_toggles_18 rfl ?_
  refine r_iconst (pc' := 20) C dX9_toggles_19 rfl kc_1 ?_
  refine r_iload_n (pc' := 21) C dX9_toggles_20 rfl 1 rfl ?_
  refine r_ishl (pc' := 22) C dX9_toggles_21 rfl ?_
  refine r_ixor (pc' := 23) C dX9_toggles_22 rfl ?_
  obtain ⟨q6, h⟩ := ck h
  obtain ⟨σ7, e8, h⟩ := bs h
  refine r_iast (pc' := 24) (σ1 := σ7) C hk0 (vin q6) dX9_toggles_23 rfl e8 ?_
  have h := Option.some.inj h
  subst h
  exact r_vret C dX9_toggles_24 hE

/-! BorrowedWeightModel.adds(I)I -/
def X9_adds_l21 (N : Nat)  (k49 : Int32 → Sg → Option (Int32 × Sg))  : Nat → Int32 → Int32 → Sg → Option (Int32 × Sg)
  | 0, _, _, _ => none
  | n + 1, v1, v2, σ =>
    if 555 ≤ v2 then (k49 v1 σ) else (if inb (v2 + 37) 592 = true then if inb v2 592 = true then bnS (wi σ 161 v2.toNatClampNeg (gi σ 161 (v2 + 37).toNatClampNeg)) fun σ7 => X9_adds_l21 N k49 n v1 (v2 + 1) σ7 else none else none)
set_option maxRecDepth 100000 in
set_option maxHeartbeats 4000000 in
theorem X9_adds_l21_ok {E : Ev}  {N : Nat} {k49 : Int32 → Sg → Option (Int32 × Sg)}  (hk49 : ∀ (v1 : Int32) (σ : Sg) (r : Int32 × Sg), k49 v1 σ = some r → Gp E RX9 cX9_adds (some .int) 3 0 SH0 r.2 (some (.int r.1)) σ 49 [(0, .ref 149), (1, .int v1)] []) : ∀ (n : Nat) (v1 : Int32) (v2 : Int32) (σ : Sg) (r : Int32 × Sg), X9_adds_l21 N k49 n v1 v2 σ = some r → Gp E RX9 cX9_adds (some .int) 3 0 SH0 r.2 (some (.int r.1)) σ 21 [(0, .ref 149), (1, .int v1), (2, .int v2)] [] := by
  intro n
  induction n with
  | zero => intro v1 v2 σ r h; cases h
  | succ n ih =>
    intro v1 v2 σ r h Z C hE
    unfold X9_adds_l21 at h
    refine r_iload_n (pc' := 22) C dX9_adds_21 rfl 2 rfl ?_
    refine r_sipush (pc' := 25) C dX9_adds_22 rfl ks_555 ?_
    refine r_icmp_ge (tgt := 49) (pc' := 28) C dX9_adds_25 rfl rfl (fun c4 => ?_) (fun c4 => ?_)
    · rw [if_pos c4] at h
      refine r_sub [0, 1] rfl ?_
      exact hk49 _ _ _ h Z C hE
    · rw [if_neg c4] at h
      refine r_aload_n (pc' := 29) C dX9_adds_28 rfl 0 rfl ?_
      refine r_getR (pc' := 32) C flX9_58 sh_149 rfl dX9_adds_29 rfl ?_
      refine r_iload_n (pc' := 33) C dX9_adds_32 rfl 2 rfl ?_
      refine r_aload_n (pc' := 34) C dX9_adds_33 rfl 0 rfl ?_
      refine r_getR (pc' := 37) C flX9_58 sh_149 rfl dX9_adds_34 rfl ?_
      refine r_iload_n (pc' := 38) C dX9_adds_37 rfl 2 rfl ?_
      refine r_bipush (pc' := 40) C dX9_adds_38 rfl kb_37 ?_
      refine r_iadd (pc' := 41) C dX9_adds_40 rfl ?_
      obtain ⟨q5, h⟩ := ck h
      refine r_iald (pc' := 42) C sh_161 (vin q5) dX9_adds_41 rfl ?_
      obtain ⟨q6, h⟩ := ck h
      obtain ⟨σ7, e8, h⟩ := bs h
      refine r_iast (pc' := 43) (σ1 := σ7) C sh_161 (vin q6) dX9_adds_42 rfl e8 ?_
      refine r_iinc (pc' := 46) (v := v2 + 1) (lv2 := [(2, .int (v2 + 1)), (0, .ref 149), (1, .int v1)]) C dX9_adds_43 rfl 2 rfl rfl (Nat.le_of_ble_eq_true rfl) rfl ?_
      refine r_goto (tgt := 21) C dX9_adds_46 rfl ?_
      refine r_sub [1, 2, 0] rfl ?_
      exact ih _ _ _ _ h Z C hE
def X9_adds_j49 (N : Nat)   (v1 : Int32) (σ : Sg) : Option (Int32 × Sg) :=
  bnS (wi σ 149 23 ((gi σ 149 23) - 1)) fun σ9 => some (v1, σ9)
set_option maxRecDepth 100000 in
set_option maxHeartbeats 4000000 in
theorem X9_adds_j49_ok {E : Ev}  {N : Nat}    {v1 : Int32} {σ : Sg} {r : Int32 × Sg} (h : X9_adds_j49 N   v1 σ = some r) : Gp E RX9 cX9_adds (some .int) 3 0 SH0 r.2 (some (.int r.1)) σ 49 [(0, .ref 149), (1, .int v1)] [] := by
  intro Z C hE
  unfold X9_adds_j49 at h
  refine r_aload_n (pc' := 50) C dX9_adds_49 rfl 0 rfl ?_
  refine r_dup (pc' := 51) C dX9_adds_50 rfl rfl ?_
  refine r_getI (pc' := 54) C flX9_196 sh_149 rfl dX9_adds_51 rfl ?_
  refine r_iconst (pc' := 55) C dX9_adds_54 rfl kc_1 ?_
  refine r_isub (pc' := 56) C dX9_adds_55 rfl ?_
  obtain ⟨σ9, e10, h⟩ := bs h
  refine r_putI (pc' := 59) (σ1 := σ9) C fpX9_196 sh_149 rfl rfl rfl dX9_adds_56 rfl e10 ?_
  refine r_iload_n (pc' := 60) C dX9_adds_59 rfl 1 rfl ?_
  have h := Option.some.inj h
  subst h
  exact r_ret C rfl dX9_adds_60 hE
def X9_adds (N : Nat)  (v1 : Int32) (σ : Sg) : Option (Int32 × Sg) :=
  bnS (wi σ 149 23 ((gi σ 149 23) + 1)) fun σ1 => if (gi σ1 149 23) ≤ 15 then (some (v1, σ1)) else (X9_adds_l21 N (fun v1 σ => X9_adds_j49 N v1 σ) N v1 0 σ1)
set_option maxRecDepth 100000 in
set_option maxHeartbeats 4000000 in
theorem X9_adds_ok {E : Ev}  {N : Nat} {v1 : Int32} {σ : Sg} {r : Int32 × Sg} (h : X9_adds N  v1 σ = some r) : Cm E 0 yX9_adds cX9_adds 3 (some .int) [.ref 149, .int v1] SH0 SH0 σ r.2 (some (.int r.1)) 0 0 := by
  refine Cm.intro (by decide +kernel) (Nat.le_of_ble_eq_true rfl) (fun _ h => by obtain ⟨_, _, _, _, _, _, h⟩ := h; exact h) (fun Z C hE => ?_)
  show Wm E Z 0 0 SH0 σ 0 [(0, .ref 149), (1, .int v1)] []
  unfold X9_adds at h
  refine r_aload_n (pc' := 1) C dX9_adds_0 rfl 0 rfl ?_
  refine r_dup (pc' := 2) C dX9_adds_1 rfl rfl ?_
  refine r_getI (pc' := 5) C flX9_196 sh_149 rfl dX9_adds_2 rfl ?_
  refine r_iconst (pc' := 6) C dX9_adds_5 rfl kc_1 ?_
  refine r_iadd (pc' := 7) C dX9_adds_6 rfl ?_
  obtain ⟨σ1, e2, h⟩ := bs h
  refine r_putI (pc' := 10) (σ1 := σ1) C fpX9_196 sh_149 rfl rfl rfl dX9_adds_7 rfl e2 ?_
  refine r_aload_n (pc' := 11) C dX9_adds_10 rfl 0 rfl ?_
  refine r_getI (pc' := 14) C flX9_196 sh_149 rfl dX9_adds_11 rfl ?_
  refine r_bipush (pc' := 16) C dX9_adds_14 rfl kb_15 ?_
  refine r_icmp_le (tgt := 59) (pc' := 19) C dX9_adds_16 rfl rfl (fun c3 => ?_) (fun c3 => ?_)
  · rw [if_pos c3] at h
    refine r_iload_n (pc' := 60) C dX9_adds_59 rfl 1 rfl ?_
    have h := Option.some.inj h
    subst h
    exact r_ret C rfl dX9_adds_60 hE
  · rw [if_neg c3] at h
    refine r_iconst (pc' := 20) C dX9_adds_19 rfl kc_0 ?_
    refine r_istore_n (pc' := 21) (lv2 := [(2, .int 0), (0, .ref 149), (1, .int v1)]) C dX9_adds_20 rfl rfl (Nat.le_of_ble_eq_true rfl) rfl ?_
    refine r_sub [1, 2, 0] rfl ?_
    exact X9_adds_l21_ok  (fun _ _ _ h Z C hE => by exact X9_adds_j49_ok  h Z C hE) N _ _ _ _ h Z C hE

/-! BorrowedWeightModel.strings()I -/
def X9_strings_j67 (N : Nat)  (kr : Int32 → Int32 → Int32 → Sg → Option (Int32 × Sg)) (v1 : Int32) (v4 : Int32) (v5 : Int32) (s0 : Int32) (σ : Sg) : Option (Int32 × Sg) :=
  if inb (2 * (gi σ 149 16)) 48 = true then bnS (wi σ 156 (2 * (gi σ 149 16)).toNatClampNeg v4) fun σ16 => if inb ((2 * (gi σ16 149 16)) + 1) 48 = true then bnS (wi σ16 156 ((2 * (gi σ16 149 16)) + 1).toNatClampNeg v5) fun σ19 => (X9_flag N s0 σ19).bind fun r21 => (bnS (wi σ19 149 16 ((gi σ19 149 16) + r21)) fun σ23 => if s0 = 0 then (kr v1 s0 0 σ23) else ((X9_takes N 59 σ23).bind fun r26 => (if r26.1 = 0 then (kr v1 s0 0 r26.2) else (kr v1 s0 1 r26.2)))) else none else none
set_option maxRecDepth 100000 in
set_option maxHeartbeats 4000000 in
theorem X9_strings_j67_ok {E : Ev}  {N : Nat} {kr : Int32 → Int32 → Int32 → Sg → Option (Int32 × Sg)}  (hkr : ∀ (v1 : Int32) (v2 : Int32) (v3 : Int32) (σ : Sg) (r : Int32 × Sg), kr v1 v2 v3 σ = some r → Gp E RX9 cX9_strings (some .int) 8 4 SH0 r.2 (some (.int r.1)) σ 29 [(0, .ref 149), (1, .int v1), (2, .int v2), (3, .int v3)] []) {v1 : Int32} {v4 : Int32} {v5 : Int32} {s0 : Int32} {σ : Sg} {r : Int32 × Sg} (h : X9_strings_j67 N  kr v1 v4 v5 s0 σ = some r) : Gp E RX9 cX9_strings (some .int) 8 4 SH0 r.2 (some (.int r.1)) σ 67 [(0, .ref 149), (1, .int v1), (4, .int v4), (5, .int v5)] [.int s0] := by
  intro Z C hE
  unfold X9_strings_j67 at h
  refine r_istore_n (pc' := 68) (lv2 := [(2, .int s0), (0, .ref 149), (1, .int v1), (4, .int v4), (5, .int v5)]) C dX9_strings_67 rfl rfl (Nat.le_of_ble_eq_true rfl) rfl ?_
  refine r_aload_n (pc' := 69) C dX9_strings_68 rfl 1 rfl ?_
  refine r_getR (pc' := 72) C flX9_43 sh_149 rfl dX9_strings_69 rfl ?_
  refine r_iconst (pc' := 73) C dX9_strings_72 rfl kc_2 ?_
  refine r_aload_n (pc' := 74) C dX9_strings_73 rfl 1 rfl ?_
  refine r_getI (pc' := 77) C flX9_183 sh_149 rfl dX9_strings_74 rfl ?_
  refine r_imul (pc' := 78) C dX9_strings_77 rfl ?_
  refine r_iload (pc' := 80) C dX9_strings_78 rfl 3 rfl ?_
  obtain ⟨q15, h⟩ := ck h
  obtain ⟨σ16, e17, h⟩ := bs h
  refine r_iast (pc' := 81) (σ1 := σ16) C sh_156 (vin q15) dX9_strings_80 rfl e17 ?_
  refine r_aload_n (pc' := 82) C dX9_strings_81 rfl 1 rfl ?_
  refine r_getR (pc' := 85) C flX9_43 sh_149 rfl dX9_strings_82 rfl ?_
  refine r_iconst (pc' := 86) C dX9_strings_85 rfl kc_2 ?_
  refine r_aload_n (pc' := 87) C dX9_strings_86 rfl 1 rfl ?_
  refine r_getI (pc' := 90) C flX9_183 sh_149 rfl dX9_strings_87 rfl ?_
  refine r_imul (pc' := 91) C dX9_strings_90 rfl ?_
  refine r_iconst (pc' := 92) C dX9_strings_91 rfl kc_1 ?_
  refine r_iadd (pc' := 93) C dX9_strings_92 rfl ?_
  refine r_iload (pc' := 95) C dX9_strings_93 rfl 4 rfl ?_
  obtain ⟨q18, h⟩ := ck h
  obtain ⟨σ19, e20, h⟩ := bs h
  refine r_iast (pc' := 96) (σ1 := σ19) C sh_156 (vin q18) dX9_strings_95 rfl e20 ?_
  refine r_aload_n (pc' := 97) C dX9_strings_96 rfl 1 rfl ?_
  refine r_dup (pc' := 98) C dX9_strings_97 rfl rfl ?_
  refine r_getI (pc' := 101) C flX9_183 sh_149 rfl dX9_strings_98 rfl ?_
  refine r_iload_n (pc' := 102) C dX9_strings_101 rfl 0 rfl ?_
  obtain ⟨r21, e22, h⟩ := bd h
  refine r_cS1 (pc' := 105) C (X9_flag_ok  e22) mlX9_159 ceX9_flag csX9_flag rfl (Nat.le_of_ble_eq_true rfl) rfl (Nat.le_of_ble_eq_true rfl) dX9_strings_102 rfl (kk := ?_)
  refine r_iadd (pc' := 106) C dX9_strings_105 rfl ?_
  obtain ⟨σ23, e24, h⟩ := bs h
  refine r_putI (pc' := 109) (σ1 := σ23) C fpX9_183 sh_149 rfl rfl rfl dX9_strings_106 rfl e24 ?_
  refine r_iload_n (pc' := 110) C dX9_strings_109 rfl 0 rfl ?_
  refine r_if_eq (tgt := 126) (pc' := 113) C dX9_strings_110 rfl rfl (fun c25 => ?_) (fun c25 => ?_)
  · rw [if_pos c25] at h
    refine r_iconst (pc' := 127) C dX9_strings_126 rfl kc_0 ?_
    refine r_istore_n (pc' := 128) (lv2 := [(3, .int 0), (2, .int s0), (0, .ref 149), (1, .int v1), (4, .int v4), (5, .int v5)]) C dX9_strings_127 rfl rfl (Nat.le_of_ble_eq_true rfl) rfl ?_
    refine r_goto (tgt := 29) C dX9_strings_128 rfl ?_
    refine r_sub [2, 3, 1, 0] rfl ?_
    exact hkr _ _ _ _ _ h Z C hE
  · rw [if_neg c25] at h
    refine r_aload_n (pc' := 114) C dX9_strings_113 rfl 1 rfl ?_
    refine r_bipush (pc' := 116) C dX9_strings_114 rfl kb_59 ?_
    obtain ⟨r26, e27, h⟩ := bd h
    refine r_cV1 (pc' := 119) C (X9_takes_ok  e27) mlX9_189 ceX9_takes cvX9_takes sh_149 rfl rfl rfl (Nat.le_of_ble_eq_true rfl) rfl (Nat.le_of_ble_eq_true rfl) dX9_strings_116 rfl (kk := ?_)
    refine r_if_eq (tgt := 126) (pc' := 122) C dX9_strings_119 rfl rfl (fun c28 => ?_) (fun c28 => ?_)
    · rw [if_pos c28] at h
      refine r_iconst (pc' := 127) C dX9_strings_126 rfl kc_0 ?_
      refine r_istore_n (pc' := 128) (lv2 := [(3, .int 0), (2, .int s0), (0, .ref 149), (1, .int v1), (4, .int v4), (5, .int v5)]) C dX9_strings_127 rfl rfl (Nat.le_of_ble_eq_true rfl) rfl ?_
      refine r_goto (tgt := 29) C dX9_strings_128 rfl ?_
      refine r_sub [2, 3, 1, 0] rfl ?_
      exact hkr _ _ _ _ _ h Z C hE
    · rw [if_neg c28] at h
      refine r_iconst (pc' := 123) C dX9_strings_122 rfl kc_1 ?_
      refine r_goto (tgt := 127) C dX9_strings_123 rfl ?_
      refine r_istore_n (pc' := 128) (lv2 := [(3, .int 1), (2, .int s0), (0, .ref 149), (1, .int v1), (4, .int v4), (5, .int v5)]) C dX9_strings_127 rfl rfl (Nat.le_of_ble_eq_true rfl) rfl ?_
      refine r_goto (tgt := 29) C dX9_strings_128 rfl ?_
      refine r_sub [2, 3, 1, 0] rfl ?_
      exact hkr _ _ _ _ _ h Z C hE
def X9_strings_j55 (N : Nat)  (kr : Int32 → Int32 → Int32 → Sg → Option (Int32 × Sg)) (v1 : Int32) (v4 : Int32) (s0 : Int32) (σ : Sg) : Option (Int32 × Sg) :=
  if s0 < 0 then (X9_strings_j67 N kr v1 v4 s0 0 σ) else (X9_strings_j67 N kr v1 v4 s0 1 σ)
set_option maxRecDepth 100000 in
set_option maxHeartbeats 4000000 in
theorem X9_strings_j55_ok {E : Ev}  {N : Nat} {kr : Int32 → Int32 → Int32 → Sg → Option (Int32 × Sg)}  (hkr : ∀ (v1 : Int32) (v2 : Int32) (v3 : Int32) (σ : Sg) (r : Int32 × Sg), kr v1 v2 v3 σ = some r → Gp E RX9 cX9_strings (some .int) 8 4 SH0 r.2 (some (.int r.1)) σ 29 [(0, .ref 149), (1, .int v1), (2, .int v2), (3, .int v3)] []) {v1 : Int32} {v4 : Int32} {s0 : Int32} {σ : Sg} {r : Int32 × Sg} (h : X9_strings_j55 N  kr v1 v4 s0 σ = some r) : Gp E RX9 cX9_strings (some .int) 8 4 SH0 r.2 (some (.int r.1)) σ 55 [(0, .ref 149), (1, .int v1), (4, .int v4)] [.int s0] := by
  intro Z C hE
  unfold X9_strings_j55 at h
  refine r_istore (pc' := 57) (lv2 := [(5, .int s0), (0, .ref 149), (1, .int v1), (4, .int v4)]) C dX9_strings_55 rfl (Nat.le_of_ble_eq_true rfl) rfl ?_
  refine r_iload (pc' := 59) C dX9_strings_57 rfl 0 rfl ?_
  refine r_if_lt (tgt := 66) (pc' := 62) C dX9_strings_59 rfl rfl (fun c14 => ?_) (fun c14 => ?_)
  · rw [if_pos c14] at h
    refine r_iconst (pc' := 67) C dX9_strings_66 rfl kc_0 ?_
    refine r_sub [1, 2, 3, 0] rfl ?_
    exact X9_strings_j67_ok  hkr h Z C hE
  · rw [if_neg c14] at h
    refine r_iconst (pc' := 63) C dX9_strings_62 rfl kc_1 ?_
    refine r_goto (tgt := 67) C dX9_strings_63 rfl ?_
    refine r_sub [1, 2, 3, 0] rfl ?_
    exact X9_strings_j67_ok  hkr h Z C hE
def X9_strings_l29 (N : Nat)  (k131 : Int32 → Int32 → Sg → Option (Int32 × Sg))  : Nat → Int32 → Int32 → Int32 → Sg → Option (Int32 × Sg)
  | 0, _, _, _, _ => none
  | n + 1, v1, v2, v3, σ =>
    if v3 = 0 then (k131 v1 v2 σ) else ((X9_thingBut N (-1) σ).bind fun r9 => (if 0 ≤ r9.1 then ((X9_thingBut N r9.1 r9.2).bind fun r12 => (X9_strings_j55 N (fun v1 v2 v3 σ => X9_strings_l29 N k131 n v1 v2 v3 σ) v1 r9.1 r12.1 r12.2)) else (X9_strings_j55 N (fun v1 v2 v3 σ => X9_strings_l29 N k131 n v1 v2 v3 σ) v1 r9.1 (-1) r9.2)))
set_option maxRecDepth 100000 in
set_option maxHeartbeats 4000000 in
theorem X9_strings_l29_ok {E : Ev}  {N : Nat} {k131 : Int32 → Int32 → Sg → Option (Int32 × Sg)}  (hk131 : ∀ (v1 : Int32) (v2 : Int32) (σ : Sg) (r : Int32 × Sg), k131 v1 v2 σ = some r → Gp E RX9 cX9_strings (some .int) 8 4 SH0 r.2 (some (.int r.1)) σ 131 [(0, .ref 149), (1, .int v1), (2, .int v2)] []) : ∀ (n : Nat) (v1 : Int32) (v2 : Int32) (v3 : Int32) (σ : Sg) (r : Int32 × Sg), X9_strings_l29 N k131 n v1 v2 v3 σ = some r → Gp E RX9 cX9_strings (some .int) 8 4 SH0 r.2 (some (.int r.1)) σ 29 [(0, .ref 149), (1, .int v1), (2, .int v2), (3, .int v3)] [] := by
  intro n
  induction n with
  | zero => intro v1 v2 v3 σ r h; cases h
  | succ n ih =>
    intro v1 v2 v3 σ r h Z C hE
    unfold X9_strings_l29 at h
    refine r_iload_n (pc' := 30) C dX9_strings_29 rfl 3 rfl ?_
    refine r_if_eq (tgt := 131) (pc' := 33) C dX9_strings_30 rfl rfl (fun c8 => ?_) (fun c8 => ?_)
    · rw [if_pos c8] at h
      refine r_sub [0, 1, 2] rfl ?_
      exact hk131 _ _ _ _ h Z C hE
    · rw [if_neg c8] at h
      refine r_aload_n (pc' := 34) C dX9_strings_33 rfl 0 rfl ?_
      refine r_iconst (pc' := 35) C dX9_strings_34 rfl kc_m1 ?_
      obtain ⟨r9, e10, h⟩ := bd h
      refine r_cV1 (pc' := 38) C (X9_thingBut_ok  e10) mlX9_206 ceX9_thingBut cvX9_thingBut sh_149 rfl rfl rfl (Nat.le_of_ble_eq_true rfl) rfl (Nat.le_of_ble_eq_true rfl) dX9_strings_35 rfl (kk := ?_)
      refine r_istore (pc' := 40) (lv2 := [(4, .int r9.1), (0, .ref 149), (1, .int v1), (2, .int v2), (3, .int v3)]) C dX9_strings_38 rfl (Nat.le_of_ble_eq_true rfl) rfl ?_
      refine r_iload (pc' := 42) C dX9_strings_40 rfl 0 rfl ?_
      refine r_if_ge (tgt := 49) (pc' := 45) C dX9_strings_42 rfl rfl (fun c11 => ?_) (fun c11 => ?_)
      · rw [if_pos c11] at h
        refine r_aload_n (pc' := 50) C dX9_strings_49 rfl 1 rfl ?_
        refine r_iload (pc' := 52) C dX9_strings_50 rfl 0 rfl ?_
        obtain ⟨r12, e13, h⟩ := bd h
        refine r_cV1 (pc' := 55) C (X9_thingBut_ok  e13) mlX9_206 ceX9_thingBut cvX9_thingBut sh_149 rfl rfl rfl (Nat.le_of_ble_eq_true rfl) rfl (Nat.le_of_ble_eq_true rfl) dX9_strings_52 rfl (kk := ?_)
        refine r_sub [1, 2, 0] rfl ?_
        exact X9_strings_j55_ok  ih h Z C hE
      · rw [if_neg c11] at h
        refine r_iconst (pc' := 46) C dX9_strings_45 rfl kc_m1 ?_
        refine r_goto (tgt := 55) C dX9_strings_46 rfl ?_
        refine r_sub [1, 2, 0] rfl ?_
        exact X9_strings_j55_ok  ih h Z C hE
def X9_strings_j241 (N : Nat)  (kr : Int32 → Int32 → Sg → Option (Int32 × Sg)) (v5 : Int32) (v6 : Int32) (v7 : Int32) (σ : Sg) : Option (Int32 × Sg) :=
  (X9_flag N v7 σ).bind fun r42 => (kr (v5 + r42) (v6 + 1) σ)
set_option maxRecDepth 100000 in
set_option maxHeartbeats 4000000 in
theorem X9_strings_j241_ok {E : Ev}  {N : Nat} {kr : Int32 → Int32 → Sg → Option (Int32 × Sg)}  (hkr : ∀ (v5 : Int32) (v6 : Int32) (σ : Sg) (r : Int32 × Sg), kr v5 v6 σ = some r → Gp E RX9 cX9_strings (some .int) 8 4 SH0 r.2 (some (.int r.1)) σ 159 [(0, .ref 149), (5, .int v5), (6, .int v6)] []) {v5 : Int32} {v6 : Int32} {v7 : Int32} {σ : Sg} {r : Int32 × Sg} (h : X9_strings_j241 N  kr v5 v6 v7 σ = some r) : Gp E RX9 cX9_strings (some .int) 8 4 SH0 r.2 (some (.int r.1)) σ 241 [(0, .ref 149), (5, .int v5), (6, .int v6), (7, .int v7)] [] := by
  intro Z C hE
  unfold X9_strings_j241 at h
  refine r_iload (pc' := 243) C dX9_strings_241 rfl 1 rfl ?_
  refine r_iload (pc' := 245) C dX9_strings_243 rfl 3 rfl ?_
  obtain ⟨r42, e43, h⟩ := bd h
  refine r_cS1 (pc' := 248) C (X9_flag_ok  e43) mlX9_159 ceX9_flag csX9_flag rfl (Nat.le_of_ble_eq_true rfl) rfl (Nat.le_of_ble_eq_true rfl) dX9_strings_245 rfl (kk := ?_)
  refine r_iadd (pc' := 249) C dX9_strings_248 rfl ?_
  refine r_istore (pc' := 251) (lv2 := [(5, .int (v5 + r42)), (0, .ref 149), (6, .int v6), (7, .int v7)]) C dX9_strings_249 rfl (Nat.le_of_ble_eq_true rfl) rfl ?_
  refine r_iinc (pc' := 254) (v := v6 + 1) (lv2 := [(6, .int (v6 + 1)), (5, .int (v5 + r42)), (0, .ref 149), (7, .int v7)]) C dX9_strings_251 rfl 2 rfl rfl (Nat.le_of_ble_eq_true rfl) rfl ?_
  refine r_goto (tgt := 159) C dX9_strings_254 rfl ?_
  refine r_sub [2, 1, 0] rfl ?_
  exact hkr _ _ _ _ h Z C hE
def X9_strings_j207 (N : Nat)  (kr : Int32 → Int32 → Sg → Option (Int32 × Sg)) (v5 : Int32) (v6 : Int32) (s0 : Int32) (σ : Sg) : Option (Int32 × Sg) :=
  if s0 = 0 then (X9_strings_j241 N kr v5 v6 s0 σ) else (if inb (2 * v6) 48 = true then if inb ((2 * v6) + 1) 48 = true then (X9_toggles N 153 (gi σ 156 (2 * v6).toNatClampNeg) (gi σ 156 ((2 * v6) + 1).toNatClampNeg) σ).bind fun r46 => (X9_strings_j241 N kr v5 v6 s0 r46) else none else none)
set_option maxRecDepth 100000 in
set_option maxHeartbeats 4000000 in
theorem X9_strings_j207_ok {E : Ev}  {N : Nat} {kr : Int32 → Int32 → Sg → Option (Int32 × Sg)}  (hkr : ∀ (v5 : Int32) (v6 : Int32) (σ : Sg) (r : Int32 × Sg), kr v5 v6 σ = some r → Gp E RX9 cX9_strings (some .int) 8 4 SH0 r.2 (some (.int r.1)) σ 159 [(0, .ref 149), (5, .int v5), (6, .int v6)] []) {v5 : Int32} {v6 : Int32} {s0 : Int32} {σ : Sg} {r : Int32 × Sg} (h : X9_strings_j207 N  kr v5 v6 s0 σ = some r) : Gp E RX9 cX9_strings (some .int) 8 4 SH0 r.2 (some (.int r.1)) σ 207 [(0, .ref 149), (5, .int v5), (6, .int v6)] [.int s0] := by
  intro Z C hE
  unfold X9_strings_j207 at h
  refine r_istore (pc' := 209) (lv2 := [(7, .int s0), (0, .ref 149), (5, .int v5), (6, .int v6)]) C dX9_strings_207 rfl (Nat.le_of_ble_eq_true rfl) rfl ?_
  refine r_iload (pc' := 211) C dX9_strings_209 rfl 0 rfl ?_
  refine r_if_eq (tgt := 241) (pc' := 214) C dX9_strings_211 rfl rfl (fun c41 => ?_) (fun c41 => ?_)
  · rw [if_pos c41] at h
    refine r_sub [1, 2, 3, 0] rfl ?_
    exact X9_strings_j241_ok  hkr h Z C hE
  · rw [if_neg c41] at h
    refine r_aload_n (pc' := 215) C dX9_strings_214 rfl 1 rfl ?_
    refine r_getR (pc' := 218) C flX9_34 sh_149 rfl dX9_strings_215 rfl ?_
    refine r_aload_n (pc' := 219) C dX9_strings_218 rfl 1 rfl ?_
    refine r_getR (pc' := 222) C flX9_43 sh_149 rfl dX9_strings_219 rfl ?_
    refine r_iconst (pc' := 223) C dX9_strings_222 rfl kc_2 ?_
    refine r_iload (pc' := 225) C dX9_strings_223 rfl 3 rfl ?_
    refine r_imul (pc' := 226) C dX9_strings_225 rfl ?_
    obtain ⟨q44, h⟩ := ck h
    refine r_iald (pc' := 227) C sh_156 (vin q44) dX9_strings_226 rfl ?_
    refine r_aload_n (pc' := 228) C dX9_strings_227 rfl 1 rfl ?_
    refine r_getR (pc' := 231) C flX9_43 sh_149 rfl dX9_strings_228 rfl ?_
    refine r_iconst (pc' := 232) C dX9_strings_231 rfl kc_2 ?_
    refine r_iload (pc' := 234) C dX9_strings_232 rfl 3 rfl ?_
    refine r_imul (pc' := 235) C dX9_strings_234 rfl ?_
    refine r_iconst (pc' := 236) C dX9_strings_235 rfl kc_1 ?_
    refine r_iadd (pc' := 237) C dX9_strings_236 rfl ?_
    obtain ⟨q45, h⟩ := ck h
    refine r_iald (pc' := 238) C sh_156 (vin q45) dX9_strings_237 rfl ?_
    obtain ⟨r46, e47, h⟩ := bd h
    refine r_cS0 (pc' := 241) C (X9_toggles_ok mac_153 e47) mlX9_212 ceX9_toggles csX9_toggles rfl (Nat.le_of_ble_eq_true rfl) rfl (Nat.le_of_ble_eq_true rfl) dX9_strings_238 rfl (kk := ?_)
    refine r_sub [1, 2, 3, 0] rfl ?_
    exact X9_strings_j241_ok  hkr h Z C hE
def X9_strings_l159 (N : Nat)  (k257 : Int32 → Sg → Option (Int32 × Sg))  : Nat → Int32 → Int32 → Sg → Option (Int32 × Sg)
  | 0, _, _, _ => none
  | n + 1, v5, v6, σ =>
    if (gi σ 149 16) ≤ v6 then (k257 v5 σ) else (if inb (2 * v6) 48 = true then if inb (24 + (gi σ 156 (2 * v6).toNatClampNeg)) 37 = true then if inb ((2 * v6) + 1) 48 = true then (X9_has N (gi σ 153 (24 + (gi σ 156 (2 * v6).toNatClampNeg)).toNatClampNeg) (gi σ 156 ((2 * v6) + 1).toNatClampNeg) σ).bind fun r38 => (if r38 = 0 then (X9_strings_j207 N (fun v5 v6 σ => X9_strings_l159 N k257 n v5 v6 σ) v5 v6 1 σ) else (X9_strings_j207 N (fun v5 v6 σ => X9_strings_l159 N k257 n v5 v6 σ) v5 v6 0 σ)) else none else none else none)
set_option maxRecDepth 100000 in
set_option maxHeartbeats 4000000 in
theorem X9_strings_l159_ok {E : Ev}  {N : Nat} {k257 : Int32 → Sg → Option (Int32 × Sg)}  (hk257 : ∀ (v5 : Int32) (σ : Sg) (r : Int32 × Sg), k257 v5 σ = some r → Gp E RX9 cX9_strings (some .int) 8 4 SH0 r.2 (some (.int r.1)) σ 257 [(0, .ref 149), (5, .int v5)] []) : ∀ (n : Nat) (v5 : Int32) (v6 : Int32) (σ : Sg) (r : Int32 × Sg), X9_strings_l159 N k257 n v5 v6 σ = some r → Gp E RX9 cX9_strings (some .int) 8 4 SH0 r.2 (some (.int r.1)) σ 159 [(0, .ref 149), (5, .int v5), (6, .int v6)] [] := by
  intro n
  induction n with
  | zero => intro v5 v6 σ r h; cases h
  | succ n ih =>
    intro v5 v6 σ r h Z C hE
    unfold X9_strings_l159 at h
    refine r_iload (pc' := 161) C dX9_strings_159 rfl 2 rfl ?_
    refine r_aload_n (pc' := 162) C dX9_strings_161 rfl 0 rfl ?_
    refine r_getI (pc' := 165) C flX9_183 sh_149 rfl dX9_strings_162 rfl ?_
    refine r_icmp_ge (tgt := 257) (pc' := 168) C dX9_strings_165 rfl rfl (fun c34 => ?_) (fun c34 => ?_)
    · rw [if_pos c34] at h
      refine r_sub [0, 1] rfl ?_
      exact hk257 _ _ _ h Z C hE
    · rw [if_neg c34] at h
      refine r_aload_n (pc' := 169) C dX9_strings_168 rfl 0 rfl ?_
      refine r_getR (pc' := 172) C flX9_34 sh_149 rfl dX9_strings_169 rfl ?_
      refine r_bipush (pc' := 174) C dX9_strings_172 rfl kb_24 ?_
      refine r_aload_n (pc' := 175) C dX9_strings_174 rfl 0 rfl ?_
      refine r_getR (pc' := 178) C flX9_43 sh_149 rfl dX9_strings_175 rfl ?_
      refine r_iconst (pc' := 179) C dX9_strings_178 rfl kc_2 ?_
      refine r_iload (pc' := 181) C dX9_strings_179 rfl 2 rfl ?_
      refine r_imul (pc' := 182) C dX9_strings_181 rfl ?_
      obtain ⟨q35, h⟩ := ck h
      refine r_iald (pc' := 183) C sh_156 (vin q35) dX9_strings_182 rfl ?_
      refine r_iadd (pc' := 184) C dX9_strings_183 rfl ?_
      obtain ⟨q36, h⟩ := ck h
      refine r_iald (pc' := 185) C sh_153 (vin q36) dX9_strings_184 rfl ?_
      refine r_aload_n (pc' := 186) C dX9_strings_185 rfl 0 rfl ?_
      refine r_getR (pc' := 189) C flX9_43 sh_149 rfl dX9_strings_186 rfl ?_
      refine r_iconst (pc' := 190) C dX9_strings_189 rfl kc_2 ?_
      refine r_iload (pc' := 192) C dX9_strings_190 rfl 2 rfl ?_
      refine r_imul (pc' := 193) C dX9_strings_192 rfl ?_
      refine r_iconst (pc' := 194) C dX9_strings_193 rfl kc_1 ?_
      refine r_iadd (pc' := 195) C dX9_strings_194 rfl ?_
      obtain ⟨q37, h⟩ := ck h
      refine r_iald (pc' := 196) C sh_156 (vin q37) dX9_strings_195 rfl ?_
      obtain ⟨r38, e39, h⟩ := bd h
      refine r_cS1 (pc' := 199) C (X9_has_ok  e39) mlX9_127 ceX9_has csX9_has rfl (Nat.le_of_ble_eq_true rfl) rfl (Nat.le_of_ble_eq_true rfl) dX9_strings_196 rfl (kk := ?_)
      refine r_if_ne (tgt := 206) (pc' := 202) C dX9_strings_199 rfl rfl (fun c40 => ?_) (fun c40 => ?_)
      · rw [if_neg c40] at h
        refine r_iconst (pc' := 207) C dX9_strings_206 rfl kc_0 ?_
        exact X9_strings_j207_ok  ih h Z C hE
      · rw [if_pos c40] at h
        refine r_iconst (pc' := 203) C dX9_strings_202 rfl kc_1 ?_
        refine r_goto (tgt := 207) C dX9_strings_203 rfl ?_
        exact X9_strings_j207_ok  ih h Z C hE
def X9_strings_j257 (N : Nat)   (v5 : Int32) (σ : Sg) : Option (Int32 × Sg) :=
  if v5 ≤ 0 then (some (0, σ)) else ((X9_adds N v5 σ).bind fun r49 => (some (r49.1, r49.2)))
set_option maxRecDepth 100000 in
set_option maxHeartbeats 4000000 in
theorem X9_strings_j257_ok {E : Ev}  {N : Nat}    {v5 : Int32} {σ : Sg} {r : Int32 × Sg} (h : X9_strings_j257 N   v5 σ = some r) : Gp E RX9 cX9_strings (some .int) 8 4 SH0 r.2 (some (.int r.1)) σ 257 [(0, .ref 149), (5, .int v5)] [] := by
  intro Z C hE
  unfold X9_strings_j257 at h
  refine r_iload (pc' := 259) C dX9_strings_257 rfl 1 rfl ?_
  refine r_if_le (tgt := 271) (pc' := 262) C dX9_strings_259 rfl rfl (fun c48 => ?_) (fun c48 => ?_)
  · rw [if_pos c48] at h
    refine r_iconst (pc' := 272) C dX9_strings_271 rfl kc_0 ?_
    have h := Option.some.inj h
    subst h
    exact r_ret C rfl dX9_strings_272 hE
  · rw [if_neg c48] at h
    refine r_aload_n (pc' := 263) C dX9_strings_262 rfl 0 rfl ?_
    refine r_iload (pc' := 265) C dX9_strings_263 rfl 1 rfl ?_
    obtain ⟨r49, e50, h⟩ := bd h
    refine r_cV1 (pc' := 268) C (X9_adds_ok  e50) mlX9_216 ceX9_adds cvX9_adds sh_149 rfl rfl rfl (Nat.le_of_ble_eq_true rfl) rfl (Nat.le_of_ble_eq_true rfl) dX9_strings_265 rfl (kk := ?_)
    refine r_goto (tgt := 272) C dX9_strings_268 rfl ?_
    have h := Option.some.inj h
    subst h
    exact r_ret C rfl dX9_strings_272 hE
def X9_strings_j131 (N : Nat)   (v1 : Int32) (v2 : Int32) (σ : Sg) : Option (Int32 × Sg) :=
  (X9_faultOf N v1 35 v2 σ).bind fun r29 => (if 0 ≤ r29 then ((X9_putsBy N σ).bind fun r32 => (X9_strings_l159 N (fun v5 σ => X9_strings_j257 N v5 σ) N 0 0 r32)) else (some (r29, σ)))
set_option maxRecDepth 100000 in
set_option maxHeartbeats 4000000 in
theorem X9_strings_j131_ok {E : Ev}  {N : Nat}    {v1 : Int32} {v2 : Int32} {σ : Sg} {r : Int32 × Sg} (h : X9_strings_j131 N   v1 v2 σ = some r) : Gp E RX9 cX9_strings (some .int) 8 4 SH0 r.2 (some (.int r.1)) σ 131 [(0, .ref 149), (1, .int v1), (2, .int v2)] [] := by
  intro Z C hE
  unfold X9_strings_j131 at h
  refine r_aload_n (pc' := 132) C dX9_strings_131 rfl 0 rfl ?_
  refine r_iload_n (pc' := 133) C dX9_strings_132 rfl 1 rfl ?_
  refine r_bipush (pc' := 135) C dX9_strings_133 rfl kb_35 ?_
  refine r_iload_n (pc' := 136) C dX9_strings_135 rfl 2 rfl ?_
  obtain ⟨r29, e30, h⟩ := bd h
  refine r_cV1 (pc' := 139) C (X9_faultOf_ok  e30) mlX9_192 ceX9_faultOf cvX9_faultOf sh_149 rfl rfl rfl (Nat.le_of_ble_eq_true rfl) rfl (Nat.le_of_ble_eq_true rfl) dX9_strings_136 rfl (kk := ?_)
  refine r_istore (pc' := 141) (lv2 := [(4, .int r29), (0, .ref 149), (1, .int v1), (2, .int v2)]) C dX9_strings_139 rfl (Nat.le_of_ble_eq_true rfl) rfl ?_
  refine r_iload (pc' := 143) C dX9_strings_141 rfl 0 rfl ?_
  refine r_if_ge (tgt := 149) (pc' := 146) C dX9_strings_143 rfl rfl (fun c31 => ?_) (fun c31 => ?_)
  · rw [if_pos c31] at h
    refine r_aload_n (pc' := 150) C dX9_strings_149 rfl 1 rfl ?_
    obtain ⟨r32, e33, h⟩ := bd h
    refine r_cV0 (pc' := 153) C (X9_putsBy_ok  e33) mlX9_209 ceX9_putsBy cvX9_putsBy sh_149 rfl rfl rfl (Nat.le_of_ble_eq_true rfl) rfl (Nat.le_of_ble_eq_true rfl) dX9_strings_150 rfl (kk := ?_)
    refine r_iconst (pc' := 154) C dX9_strings_153 rfl kc_0 ?_
    refine r_istore (pc' := 156) (lv2 := [(5, .int 0), (4, .int r29), (0, .ref 149), (1, .int v1), (2, .int v2)]) C dX9_strings_154 rfl (Nat.le_of_ble_eq_true rfl) rfl ?_
    refine r_iconst (pc' := 157) C dX9_strings_156 rfl kc_0 ?_
    refine r_istore (pc' := 159) (lv2 := [(6, .int 0), (5, .int 0), (4, .int r29), (0, .ref 149), (1, .int v1), (2, .int v2)]) C dX9_strings_157 rfl (Nat.le_of_ble_eq_true rfl) rfl ?_
    refine r_sub [3, 1, 0] rfl ?_
    exact X9_strings_l159_ok  (fun _ _ _ h Z C hE => by exact X9_strings_j257_ok  h Z C hE) N _ _ _ _ h Z C hE
  · rw [if_neg c31] at h
    refine r_iload (pc' := 148) C dX9_strings_146 rfl 0 rfl ?_
    have h := Option.some.inj h
    subst h
    exact r_ret C rfl dX9_strings_148 hE
def X9_strings (N : Nat)   (σ : Sg) : Option (Int32 × Sg) :=
  bnS (wi σ 149 0 0) fun σ1 => (X9_begins N 35 σ1).bind fun r3 => (bnS (wi r3.2 149 16 0) fun σ5 => if r3.1 ≤ 0 then (X9_strings_l29 N (fun v1 v2 σ => X9_strings_j131 N v1 v2 σ) N r3.1 1 0 σ5) else (X9_strings_l29 N (fun v1 v2 σ => X9_strings_j131 N v1 v2 σ) N r3.1 1 1 σ5))
set_option maxRecDepth 100000 in
set_option maxHeartbeats 4000000 in
theorem X9_strings_ok {E : Ev}  {N : Nat}  {σ : Sg} {r : Int32 × Sg} (h : X9_strings N   σ = some r) : Cm E 4 yX9_strings cX9_strings 8 (some .int) [.ref 149] SH0 SH0 σ r.2 (some (.int r.1)) 0 0 := by
  refine Cm.intro (by decide +kernel) (Nat.le_of_ble_eq_true rfl) (fun _ h => by obtain ⟨_, _, _, _, _, _, h⟩ := h; exact h) (fun Z C hE => ?_)
  show Wm E Z 0 0 SH0 σ 0 [(0, .ref 149)] []
  unfold X9_strings at h
  refine r_aload_n (pc' := 1) C dX9_strings_0 rfl 0 rfl ?_
  refine r_iconst (pc' := 2) C dX9_strings_1 rfl kc_0 ?_
  obtain ⟨σ1, e2, h⟩ := bs h
  refine r_putI (pc' := 5) (σ1 := σ1) C fpX9_3 sh_149 rfl rfl rfl dX9_strings_2 rfl e2 ?_
  refine r_aload_n (pc' := 6) C dX9_strings_5 rfl 0 rfl ?_
  refine r_bipush (pc' := 8) C dX9_strings_6 rfl kb_35 ?_
  obtain ⟨r3, e4, h⟩ := bd h
  refine r_cV1 (pc' := 11) C (X9_begins_ok  e4) mlX9_180 ceX9_begins cvX9_begins sh_149 rfl rfl rfl (Nat.le_of_ble_eq_true rfl) rfl (Nat.le_of_ble_eq_true rfl) dX9_strings_8 rfl (kk := ?_)
  refine r_istore_n (pc' := 12) (lv2 := [(1, .int r3.1), (0, .ref 149)]) C dX9_strings_11 rfl rfl (Nat.le_of_ble_eq_true rfl) rfl ?_
  refine r_aload_n (pc' := 13) C dX9_strings_12 rfl 1 rfl ?_
  refine r_iconst (pc' := 14) C dX9_strings_13 rfl kc_0 ?_
  obtain ⟨σ5, e6, h⟩ := bs h
  refine r_putI (pc' := 17) (σ1 := σ5) C fpX9_183 sh_149 rfl rfl rfl dX9_strings_14 rfl e6 ?_
  refine r_iconst (pc' := 18) C dX9_strings_17 rfl kc_1 ?_
  refine r_istore_n (pc' := 19) (lv2 := [(2, .int 1), (1, .int r3.1), (0, .ref 149)]) C dX9_strings_18 rfl rfl (Nat.le_of_ble_eq_true rfl) rfl ?_
  refine r_iload_n (pc' := 20) C dX9_strings_19 rfl 1 rfl ?_
  refine r_if_le (tgt := 27) (pc' := 23) C dX9_strings_20 rfl rfl (fun c7 => ?_) (fun c7 => ?_)
  · rw [if_pos c7] at h
    refine r_iconst (pc' := 28) C dX9_strings_27 rfl kc_0 ?_
    refine r_istore_n (pc' := 29) (lv2 := [(3, .int 0), (2, .int 1), (1, .int r3.1), (0, .ref 149)]) C dX9_strings_28 rfl rfl (Nat.le_of_ble_eq_true rfl) rfl ?_
    refine r_sub [3, 2, 1, 0] rfl ?_
    exact X9_strings_l29_ok  (fun _ _ _ _ h Z C hE => by exact X9_strings_j131_ok  h Z C hE) N _ _ _ _ _ h Z C hE
  · rw [if_neg c7] at h
    refine r_iconst (pc' := 24) C dX9_strings_23 rfl kc_1 ?_
    refine r_goto (tgt := 28) C dX9_strings_24 rfl ?_
    refine r_istore_n (pc' := 29) (lv2 := [(3, .int 1), (2, .int 1), (1, .int r3.1), (0, .ref 149)]) C dX9_strings_28 rfl rfl (Nat.le_of_ble_eq_true rfl) rfl ?_
    refine r_sub [3, 2, 1, 0] rfl ?_
    exact X9_strings_l29_ok  (fun _ _ _ _ h Z C hE => by exact X9_strings_j131_ok  h Z C hE) N _ _ _ _ _ h Z C hE

/-! BorrowedWeightModel.isDigit()Z -/
def X9_isDigit (N : Nat)   (σ : Sg) : Option (Int32) :=
  if (gi σ 149 13) ≤ (gi σ 149 12) then (some 0) else (if inb (gi σ 149 12) 80 = true then (X9_in N ((gi σ 155 (gi σ 149 12).toNatClampNeg).toInt64) 48 57 σ).bind fun r3 => (if r3 = 0 then (some 0) else (some 1)) else none)
set_option maxRecDepth 100000 in
set_option maxHeartbeats 4000000 in
theorem X9_isDigit_ok {E : Ev}  {N : Nat}  {σ : Sg} {r : Int32} (h : X9_isDigit N   σ = some r) : Cm E 1 yX9_isDigit cX9_isDigit 1 (some .boolean) [.ref 149] SH0 SH0 σ σ (some (.int r)) 0 0 := by
  refine Cm.intro (by decide +kernel) (Nat.le_of_ble_eq_true rfl) (fun _ h => by obtain ⟨_, _, _, _, _, _, h⟩ := h; exact h) (fun Z C hE => ?_)
  show Wm E Z 0 0 SH0 σ 0 [(0, .ref 149)] []
  unfold X9_isDigit at h
  refine r_aload_n (pc' := 1) C dX9_isDigit_0 rfl 0 rfl ?_
  refine r_getI (pc' := 4) C flX9_144 sh_149 rfl dX9_isDigit_1 rfl ?_
  refine r_aload_n (pc' := 5) C dX9_isDigit_4 rfl 0 rfl ?_
  refine r_getI (pc' := 8) C flX9_156 sh_149 rfl dX9_isDigit_5 rfl ?_
  refine r_icmp_ge (tgt := 37) (pc' := 11) C dX9_isDigit_8 rfl rfl (fun c1 => ?_) (fun c1 => ?_)
  · rw [if_pos c1] at h
    refine r_iconst (pc' := 38) C dX9_isDigit_37 rfl kc_0 ?_
    have h := Option.some.inj h
    subst h
    exact r_ret C rfl dX9_isDigit_38 hE
  · rw [if_neg c1] at h
    refine r_aload_n (pc' := 12) C dX9_isDigit_11 rfl 0 rfl ?_
    refine r_getR (pc' := 15) C flX9_40 sh_149 rfl dX9_isDigit_12 rfl ?_
    refine r_aload_n (pc' := 16) C dX9_isDigit_15 rfl 0 rfl ?_
    refine r_getI (pc' := 19) C flX9_144 sh_149 rfl dX9_isDigit_16 rfl ?_
    obtain ⟨q2, h⟩ := ck h
    refine r_iald (pc' := 20) C sh_155 (vin q2) dX9_isDigit_19 rfl ?_
    refine r_i2l (pc' := 21) C dX9_isDigit_20 rfl rfl ?_
    refine r_ldc2 (pc' := 24) C cnX9_163 dX9_isDigit_21 rfl ?_
    refine r_ldc2 (pc' := 27) C cnX9_165 dX9_isDigit_24 rfl ?_
    obtain ⟨r3, e4, h⟩ := bd h
    refine r_cS1 (pc' := 30) C (X9_in_ok  e4) mlX9_119 ceX9_in csX9_in rfl (Nat.le_of_ble_eq_true rfl) rfl (Nat.le_of_ble_eq_true rfl) dX9_isDigit_27 rfl (kk := ?_)
    refine r_if_eq (tgt := 37) (pc' := 33) C dX9_isDigit_30 rfl rfl (fun c5 => ?_) (fun c5 => ?_)
    · rw [if_pos c5] at h
      refine r_iconst (pc' := 38) C dX9_isDigit_37 rfl kc_0 ?_
      have h := Option.some.inj h
      subst h
      exact r_ret C rfl dX9_isDigit_38 hE
    · rw [if_neg c5] at h
      refine r_iconst (pc' := 34) C dX9_isDigit_33 rfl kc_1 ?_
      refine r_goto (tgt := 38) C dX9_isDigit_34 rfl ?_
      have h := Option.some.inj h
      subst h
      exact r_ret C rfl dX9_isDigit_38 hE

/-! BorrowedWeightModel.number(I)I -/
def X9_number_l13 (N : Nat)    : Nat → Int32 → Int32 → Int32 → Sg → Option (Int32 × Sg)
  | 0, _, _, _, _ => none
  | n + 1, v1, v2, v3, σ =>
    if v1 ≤ v3 then (some (v2, σ)) else ((X9_isDigit N σ).bind fun r5 => (if r5 = 0 then (some (v2, σ)) else (if inb (gi σ 149 12) 80 = true then bnS (wi σ 149 12 ((gi σ 149 12) + 1)) fun σ9 => X9_number_l13 N n v1 (((10 * v2) + (gi σ 155 (gi σ 149 12).toNatClampNeg)) - 48) (v3 + 1) σ9 else none)))
set_option maxRecDepth 100000 in
set_option maxHeartbeats 4000000 in
theorem X9_number_l13_ok {E : Ev}  {N : Nat}    : ∀ (n : Nat) (v1 : Int32) (v2 : Int32) (v3 : Int32) (σ : Sg) (r : Int32 × Sg), X9_number_l13 N n v1 v2 v3 σ = some r → Gp E RX9 cX9_number (some .int) 4 2 SH0 r.2 (some (.int r.1)) σ 13 [(0, .ref 149), (1, .int v1), (2, .int v2), (3, .int v3)] [] := by
  intro n
  induction n with
  | zero => intro v1 v2 v3 σ r h; cases h
  | succ n ih =>
    intro v1 v2 v3 σ r h Z C hE
    unfold X9_number_l13 at h
    refine r_iload_n (pc' := 14) C dX9_number_13 rfl 3 rfl ?_
    refine r_iload_n (pc' := 15) C dX9_number_14 rfl 1 rfl ?_
    refine r_icmp_ge (tgt := 59) (pc' := 18) C dX9_number_15 rfl rfl (fun c4 => ?_) (fun c4 => ?_)
    · rw [if_pos c4] at h
      refine r_iload_n (pc' := 60) C dX9_number_59 rfl 2 rfl ?_
      have h := Option.some.inj h
      subst h
      exact r_ret C rfl dX9_number_60 hE
    · rw [if_neg c4] at h
      refine r_aload_n (pc' := 19) C dX9_number_18 rfl 0 rfl ?_
      obtain ⟨r5, e6, h⟩ := bd h
      refine r_cV1 (pc' := 22) C (X9_isDigit_ok  e6) mlX9_176 ceX9_isDigit cvX9_isDigit sh_149 rfl rfl rfl (Nat.le_of_ble_eq_true rfl) rfl (Nat.le_of_ble_eq_true rfl) dX9_number_19 rfl (kk := ?_)
      refine r_if_eq (tgt := 59) (pc' := 25) C dX9_number_22 rfl rfl (fun c7 => ?_) (fun c7 => ?_)
      · rw [if_pos c7] at h
        refine r_iload_n (pc' := 60) C dX9_number_59 rfl 2 rfl ?_
        have h := Option.some.inj h
        subst h
        exact r_ret C rfl dX9_number_60 hE
      · rw [if_neg c7] at h
        refine r_bipush (pc' := 27) C dX9_number_25 rfl kb_10 ?_
        refine r_iload_n (pc' := 28) C dX9_number_27 rfl 2 rfl ?_
        refine r_imul (pc' := 29) C dX9_number_28 rfl ?_
        refine r_aload_n (pc' := 30) C dX9_number_29 rfl 0 rfl ?_
        refine r_getR (pc' := 33) C flX9_40 sh_149 rfl dX9_number_30 rfl ?_
        refine r_aload_n (pc' := 34) C dX9_number_33 rfl 0 rfl ?_
        refine r_getI (pc' := 37) C flX9_144 sh_149 rfl dX9_number_34 rfl ?_
        obtain ⟨q8, h⟩ := ck h
        refine r_iald (pc' := 38) C sh_155 (vin q8) dX9_number_37 rfl ?_
        refine r_iadd (pc' := 39) C dX9_number_38 rfl ?_
        refine r_bipush (pc' := 41) C dX9_number_39 rfl kb_48 ?_
        refine r_isub (pc' := 42) C dX9_number_41 rfl ?_
        refine r_istore_n (pc' := 43) (lv2 := [(2, .int (((10 * v2) + (gi σ 155 (gi σ 149 12).toNatClampNeg)) - 48)), (0, .ref 149), (1, .int v1), (3, .int v3)]) C dX9_number_42 rfl rfl (Nat.le_of_ble_eq_true rfl) rfl ?_
        refine r_aload_n (pc' := 44) C dX9_number_43 rfl 1 rfl ?_
        refine r_dup (pc' := 45) C dX9_number_44 rfl rfl ?_
        refine r_getI (pc' := 48) C flX9_144 sh_149 rfl dX9_number_45 rfl ?_
        refine r_iconst (pc' := 49) C dX9_number_48 rfl kc_1 ?_
        refine r_iadd (pc' := 50) C dX9_number_49 rfl ?_
        obtain ⟨σ9, e10, h⟩ := bs h
        refine r_putI (pc' := 53) (σ1 := σ9) C fpX9_144 sh_149 rfl rfl rfl dX9_number_50 rfl e10 ?_
        refine r_iinc (pc' := 56) (v := v3 + 1) (lv2 := [(3, .int (v3 + 1)), (2, .int (((10 * v2) + (gi σ 155 (gi σ 149 12).toNatClampNeg)) - 48)), (0, .ref 149), (1, .int v1)]) C dX9_number_53 rfl 3 rfl rfl (Nat.le_of_ble_eq_true rfl) rfl ?_
        refine r_goto (tgt := 13) C dX9_number_56 rfl ?_
        refine r_sub [2, 3, 1, 0] rfl ?_
        exact ih _ _ _ _ _ h Z C hE
def X9_number (N : Nat)  (v1 : Int32) (σ : Sg) : Option (Int32 × Sg) :=
  (X9_isDigit N σ).bind fun r1 => (if r1 = 0 then (some ((-1), σ)) else (X9_number_l13 N N v1 0 0 σ))
set_option maxRecDepth 100000 in
set_option maxHeartbeats 4000000 in
theorem X9_number_ok {E : Ev}  {N : Nat} {v1 : Int32} {σ : Sg} {r : Int32 × Sg} (h : X9_number N  v1 σ = some r) : Cm E 2 yX9_number cX9_number 4 (some .int) [.ref 149, .int v1] SH0 SH0 σ r.2 (some (.int r.1)) 0 0 := by
  refine Cm.intro (by decide +kernel) (Nat.le_of_ble_eq_true rfl) (fun _ h => by obtain ⟨_, _, _, _, _, _, h⟩ := h; exact h) (fun Z C hE => ?_)
  show Wm E Z 0 0 SH0 σ 0 [(0, .ref 149), (1, .int v1)] []
  unfold X9_number at h
  refine r_aload_n (pc' := 1) C dX9_number_0 rfl 0 rfl ?_
  obtain ⟨r1, e2, h⟩ := bd h
  refine r_cV1 (pc' := 4) C (X9_isDigit_ok  e2) mlX9_176 ceX9_isDigit cvX9_isDigit sh_149 rfl rfl rfl (Nat.le_of_ble_eq_true rfl) rfl (Nat.le_of_ble_eq_true rfl) dX9_number_1 rfl (kk := ?_)
  refine r_if_ne (tgt := 9) (pc' := 7) C dX9_number_4 rfl rfl (fun c3 => ?_) (fun c3 => ?_)
  · rw [if_neg c3] at h
    refine r_iconst (pc' := 10) C dX9_number_9 rfl kc_0 ?_
    refine r_istore_n (pc' := 11) (lv2 := [(2, .int 0), (0, .ref 149), (1, .int v1)]) C dX9_number_10 rfl rfl (Nat.le_of_ble_eq_true rfl) rfl ?_
    refine r_iconst (pc' := 12) C dX9_number_11 rfl kc_0 ?_
    refine r_istore_n (pc' := 13) (lv2 := [(3, .int 0), (2, .int 0), (0, .ref 149), (1, .int v1)]) C dX9_number_12 rfl rfl (Nat.le_of_ble_eq_true rfl) rfl ?_
    refine r_sub [2, 3, 1, 0] rfl ?_
    exact X9_number_l13_ok  N _ _ _ _ _ h Z C hE
  · rw [if_pos c3] at h
    refine r_iconst (pc' := 8) C dX9_number_7 rfl kc_m1 ?_
    have h := Option.some.inj h
    subst h
    exact r_ret C rfl dX9_number_8 hE

/-! BorrowedWeightModel.winds()I -/
def X9_winds_l14 (N : Nat)  (k44 : Int32 → Sg → Option (Int32 × Sg))  : Nat → Int32 → Sg → Option (Int32 × Sg)
  | 0, _, _ => none
  | n + 1, v1, σ =>
    if 20 ≤ v1 then (k44 v1 σ) else ((X9_isDigit N σ).bind fun r6 => (if r6 = 0 then (k44 v1 σ) else ((X9_number N 1 σ).bind fun r9 => (if inb v1 48 = true then bnS (wi r9.2 156 v1.toNatClampNeg r9.1) fun σ12 => X9_winds_l14 N k44 n (v1 + 1) σ12 else none))))
set_option maxRecDepth 100000 in
set_option maxHeartbeats 4000000 in
theorem X9_winds_l14_ok {E : Ev}  {N : Nat} {k44 : Int32 → Sg → Option (Int32 × Sg)}  (hk44 : ∀ (v1 : Int32) (σ : Sg) (r : Int32 × Sg), k44 v1 σ = some r → Gp E RX9 cX9_winds (some .int) 3 3 SH0 r.2 (some (.int r.1)) σ 44 [(0, .ref 149), (1, .int v1)] []) : ∀ (n : Nat) (v1 : Int32) (σ : Sg) (r : Int32 × Sg), X9_winds_l14 N k44 n v1 σ = some r → Gp E RX9 cX9_winds (some .int) 3 3 SH0 r.2 (some (.int r.1)) σ 14 [(0, .ref 149), (1, .int v1)] [] := by
  intro n
  induction n with
  | zero => intro v1 σ r h; cases h
  | succ n ih =>
    intro v1 σ r h Z C hE
    unfold X9_winds_l14 at h
    refine r_iload_n (pc' := 15) C dX9_winds_14 rfl 1 rfl ?_
    refine r_bipush (pc' := 17) C dX9_winds_15 rfl kb_20 ?_
    refine r_icmp_ge (tgt := 44) (pc' := 20) C dX9_winds_17 rfl rfl (fun c5 => ?_) (fun c5 => ?_)
    · rw [if_pos c5] at h
      exact hk44 _ _ _ h Z C hE
    · rw [if_neg c5] at h
      refine r_aload_n (pc' := 21) C dX9_winds_20 rfl 0 rfl ?_
      obtain ⟨r6, e7, h⟩ := bd h
      refine r_cV1 (pc' := 24) C (X9_isDigit_ok  e7) mlX9_176 ceX9_isDigit cvX9_isDigit sh_149 rfl rfl rfl (Nat.le_of_ble_eq_true rfl) rfl (Nat.le_of_ble_eq_true rfl) dX9_winds_21 rfl (kk := ?_)
      refine r_if_eq (tgt := 44) (pc' := 27) C dX9_winds_24 rfl rfl (fun c8 => ?_) (fun c8 => ?_)
      · rw [if_pos c8] at h
        exact hk44 _ _ _ h Z C hE
      · rw [if_neg c8] at h
        refine r_aload_n (pc' := 28) C dX9_winds_27 rfl 0 rfl ?_
        refine r_getR (pc' := 31) C flX9_43 sh_149 rfl dX9_winds_28 rfl ?_
        refine r_iload_n (pc' := 32) C dX9_winds_31 rfl 1 rfl ?_
        refine r_aload_n (pc' := 33) C dX9_winds_32 rfl 0 rfl ?_
        refine r_iconst (pc' := 34) C dX9_winds_33 rfl kc_1 ?_
        obtain ⟨r9, e10, h⟩ := bd h
        refine r_cV1 (pc' := 37) C (X9_number_ok  e10) mlX9_219 ceX9_number cvX9_number sh_149 rfl rfl rfl (Nat.le_of_ble_eq_true rfl) rfl (Nat.le_of_ble_eq_true rfl) dX9_winds_34 rfl (kk := ?_)
        obtain ⟨q11, h⟩ := ck h
        obtain ⟨σ12, e13, h⟩ := bs h
        refine r_iast (pc' := 38) (σ1 := σ12) C sh_156 (vin q11) dX9_winds_37 rfl e13 ?_
        refine r_iinc (pc' := 41) (v := v1 + 1) (lv2 := [(1, .int (v1 + 1)), (0, .ref 149)]) C dX9_winds_38 rfl 1 rfl rfl (Nat.le_of_ble_eq_true rfl) rfl ?_
        refine r_goto (tgt := 14) C dX9_winds_41 rfl ?_
        refine r_sub [1, 0] rfl ?_
        exact ih _ _ _ h Z C hE
def X9_winds_l73 (N : Nat)    : Nat → Int32 → Int32 → Sg → Option (Int32 × Sg)
  | 0, _, _, _ => none
  | n + 1, v1, v2, σ =>
    if v1 ≤ v2 then (some (v1, σ)) else (if inb v2 48 = true then if inb v2 20 = true then bnS (wi σ 152 v2.toNatClampNeg (gi σ 156 v2.toNatClampNeg)) fun σ21 => X9_winds_l73 N n v1 (v2 + 1) σ21 else none else none)
set_option maxRecDepth 100000 in
set_option maxHeartbeats 4000000 in
theorem X9_winds_l73_ok {E : Ev}  {N : Nat}    : ∀ (n : Nat) (v1 : Int32) (v2 : Int32) (σ : Sg) (r : Int32 × Sg), X9_winds_l73 N n v1 v2 σ = some r → Gp E RX9 cX9_winds (some .int) 3 3 SH0 r.2 (some (.int r.1)) σ 73 [(0, .ref 149), (1, .int v1), (2, .int v2)] [] := by
  intro n
  induction n with
  | zero => intro v1 v2 σ r h; cases h
  | succ n ih =>
    intro v1 v2 σ r h Z C hE
    unfold X9_winds_l73 at h
    refine r_iload_n (pc' := 74) C dX9_winds_73 rfl 2 rfl ?_
    refine r_iload_n (pc' := 75) C dX9_winds_74 rfl 1 rfl ?_
    refine r_icmp_ge (tgt := 96) (pc' := 78) C dX9_winds_75 rfl rfl (fun c18 => ?_) (fun c18 => ?_)
    · rw [if_pos c18] at h
      refine r_iload_n (pc' := 97) C dX9_winds_96 rfl 1 rfl ?_
      have h := Option.some.inj h
      subst h
      exact r_ret C rfl dX9_winds_97 hE
    · rw [if_neg c18] at h
      refine r_aload_n (pc' := 79) C dX9_winds_78 rfl 0 rfl ?_
      refine r_getR (pc' := 82) C flX9_31 sh_149 rfl dX9_winds_79 rfl ?_
      refine r_iload_n (pc' := 83) C dX9_winds_82 rfl 2 rfl ?_
      refine r_aload_n (pc' := 84) C dX9_winds_83 rfl 0 rfl ?_
      refine r_getR (pc' := 87) C flX9_43 sh_149 rfl dX9_winds_84 rfl ?_
      refine r_iload_n (pc' := 88) C dX9_winds_87 rfl 2 rfl ?_
      obtain ⟨q19, h⟩ := ck h
      refine r_iald (pc' := 89) C sh_156 (vin q19) dX9_winds_88 rfl ?_
      obtain ⟨q20, h⟩ := ck h
      obtain ⟨σ21, e22, h⟩ := bs h
      refine r_iast (pc' := 90) (σ1 := σ21) C sh_152 (vin q20) dX9_winds_89 rfl e22 ?_
      refine r_iinc (pc' := 93) (v := v2 + 1) (lv2 := [(2, .int (v2 + 1)), (0, .ref 149), (1, .int v1)]) C dX9_winds_90 rfl 2 rfl rfl (Nat.le_of_ble_eq_true rfl) rfl ?_
      refine r_goto (tgt := 73) C dX9_winds_93 rfl ?_
      refine r_sub [1, 2, 0] rfl ?_
      exact ih _ _ _ _ h Z C hE
def X9_winds_j44 (N : Nat)   (v1 : Int32) (σ : Sg) : Option (Int32 × Sg) :=
  if v1 = 0 then (some ((-1) - (gi σ 149 12), σ)) else (if (gi σ 149 13) ≤ (gi σ 149 12) then (bnS (wi σ 149 5 v1) fun σ16 => X9_winds_l73 N N v1 0 σ16) else (some ((-1) - (gi σ 149 12), σ)))
set_option maxRecDepth 100000 in
set_option maxHeartbeats 4000000 in
theorem X9_winds_j44_ok {E : Ev}  {N : Nat}    {v1 : Int32} {σ : Sg} {r : Int32 × Sg} (h : X9_winds_j44 N   v1 σ = some r) : Gp E RX9 cX9_winds (some .int) 3 3 SH0 r.2 (some (.int r.1)) σ 44 [(0, .ref 149), (1, .int v1)] [] := by
  intro Z C hE
  unfold X9_winds_j44 at h
  refine r_iload_n (pc' := 45) C dX9_winds_44 rfl 1 rfl ?_
  refine r_if_eq (tgt := 59) (pc' := 48) C dX9_winds_45 rfl rfl (fun c14 => ?_) (fun c14 => ?_)
  · rw [if_pos c14] at h
    refine r_iconst (pc' := 60) C dX9_winds_59 rfl kc_m1 ?_
    refine r_aload_n (pc' := 61) C dX9_winds_60 rfl 0 rfl ?_
    refine r_getI (pc' := 64) C flX9_144 sh_149 rfl dX9_winds_61 rfl ?_
    refine r_isub (pc' := 65) C dX9_winds_64 rfl ?_
    have h := Option.some.inj h
    subst h
    exact r_ret C rfl dX9_winds_65 hE
  · rw [if_neg c14] at h
    refine r_aload_n (pc' := 49) C dX9_winds_48 rfl 0 rfl ?_
    refine r_getI (pc' := 52) C flX9_144 sh_149 rfl dX9_winds_49 rfl ?_
    refine r_aload_n (pc' := 53) C dX9_winds_52 rfl 0 rfl ?_
    refine r_getI (pc' := 56) C flX9_156 sh_149 rfl dX9_winds_53 rfl ?_
    refine r_icmp_ge (tgt := 66) (pc' := 59) C dX9_winds_56 rfl rfl (fun c15 => ?_) (fun c15 => ?_)
    · rw [if_pos c15] at h
      refine r_aload_n (pc' := 67) C dX9_winds_66 rfl 0 rfl ?_
      refine r_iload_n (pc' := 68) C dX9_winds_67 rfl 1 rfl ?_
      obtain ⟨σ16, e17, h⟩ := bs h
      refine r_putI (pc' := 71) (σ1 := σ16) C fpX9_24 sh_149 rfl rfl rfl dX9_winds_68 rfl e17 ?_
      refine r_iconst (pc' := 72) C dX9_winds_71 rfl kc_0 ?_
      refine r_istore_n (pc' := 73) (lv2 := [(2, .int 0), (0, .ref 149), (1, .int v1)]) C dX9_winds_72 rfl rfl (Nat.le_of_ble_eq_true rfl) rfl ?_
      refine r_sub [1, 2, 0] rfl ?_
      exact X9_winds_l73_ok  N _ _ _ _ h Z C hE
    · rw [if_neg c15] at h
      refine r_iconst (pc' := 60) C dX9_winds_59 rfl kc_m1 ?_
      refine r_aload_n (pc' := 61) C dX9_winds_60 rfl 0 rfl ?_
      refine r_getI (pc' := 64) C flX9_144 sh_149 rfl dX9_winds_61 rfl ?_
      refine r_isub (pc' := 65) C dX9_winds_64 rfl ?_
      have h := Option.some.inj h
      subst h
      exact r_ret C rfl dX9_winds_65 hE
def X9_winds (N : Nat)   (σ : Sg) : Option (Int32 × Sg) :=
  bnS (wi σ 149 0 0) fun σ1 => (X9_begins N 80 σ1).bind fun r3 => (X9_winds_l14 N (fun v1 σ => X9_winds_j44 N v1 σ) N 0 r3.2)
set_option maxRecDepth 100000 in
set_option maxHeartbeats 4000000 in
theorem X9_winds_ok {E : Ev}  {N : Nat}  {σ : Sg} {r : Int32 × Sg} (h : X9_winds N   σ = some r) : Cm E 3 yX9_winds cX9_winds 3 (some .int) [.ref 149] SH0 SH0 σ r.2 (some (.int r.1)) 0 0 := by
  refine Cm.intro (by decide +kernel) (Nat.le_of_ble_eq_true rfl) (fun _ h => by obtain ⟨_, _, _, _, _, _, h⟩ := h; exact h) (fun Z C hE => ?_)
  show Wm E Z 0 0 SH0 σ 0 [(0, .ref 149)] []
  unfold X9_winds at h
  refine r_aload_n (pc' := 1) C dX9_winds_0 rfl 0 rfl ?_
  refine r_iconst (pc' := 2) C dX9_winds_1 rfl kc_0 ?_
  obtain ⟨σ1, e2, h⟩ := bs h
  refine r_putI (pc' := 5) (σ1 := σ1) C fpX9_3 sh_149 rfl rfl rfl dX9_winds_2 rfl e2 ?_
  refine r_aload_n (pc' := 6) C dX9_winds_5 rfl 0 rfl ?_
  refine r_bipush (pc' := 8) C dX9_winds_6 rfl kb_80 ?_
  obtain ⟨r3, e4, h⟩ := bd h
  refine r_cV1 (pc' := 11) C (X9_begins_ok  e4) mlX9_180 ceX9_begins cvX9_begins sh_149 rfl rfl rfl (Nat.le_of_ble_eq_true rfl) rfl (Nat.le_of_ble_eq_true rfl) dX9_winds_8 rfl (kk := ?_)
  refine r_pop (pc' := 12) C dX9_winds_11 rfl rfl ?_
  refine r_iconst (pc' := 13) C dX9_winds_12 rfl kc_0 ?_
  refine r_istore_n (pc' := 14) (lv2 := [(1, .int 0), (0, .ref 149)]) C dX9_winds_13 rfl rfl (Nat.le_of_ble_eq_true rfl) rfl ?_
  refine r_sub [1, 0] rfl ?_
  exact X9_winds_l14_ok  (fun _ _ _ h Z C hE => by exact X9_winds_j44_ok  h Z C hE) N _ _ _ h Z C hE

/-! BorrowedWeightModel.codes(I)V -/
def X9_codes (N : Nat)  (v1 : Int32) (σ : Sg) : Option (Sg) :=
  if inb (gi σ 149 20) 80 = true then bnS (wi σ 158 (gi σ 149 20).toNatClampNeg v1) fun σ2 => bnS (wi σ2 149 20 ((gi σ2 149 20) + 1)) fun σ4 => some σ4 else none
set_option maxRecDepth 100000 in
set_option maxHeartbeats 4000000 in
theorem X9_codes_ok {E : Ev}  {N : Nat} {v1 : Int32} {σ : Sg} {r : Sg} (h : X9_codes N  v1 σ = some r) : Cm E 0 yX9_codes cX9_codes 2 none [.ref 149, .int v1] SH0 SH0 σ r (none) 0 0 := by
  refine Cm.intro (by decide +kernel) (Nat.le_of_ble_eq_true rfl) (fun _ h => by obtain ⟨_, _, _, _, _, _, h⟩ := h; exact h) (fun Z C hE => ?_)
  show Wm E Z 0 0 SH0 σ 0 [(0, .ref 149), (1, .int v1)] []
  unfold X9_codes at h
  refine r_aload_n (pc' := 1) C dX9_codes_0 rfl 0 rfl ?_
  refine r_getR (pc' := 4) C flX9_49 sh_149 rfl dX9_codes_1 rfl ?_
  refine r_aload_n (pc' := 5) C dX9_codes_4 rfl 0 rfl ?_
  refine r_getI (pc' := 8) C flX9_222 sh_149 rfl dX9_codes_5 rfl ?_
  refine r_iload_n (pc' := 9) C dX9_codes_8 rfl 1 rfl ?_
  obtain ⟨q1, h⟩ := ck h
  obtain ⟨σ2, e3, h⟩ := bs h
  refine r_iast (pc' := 10) (σ1 := σ2) C sh_158 (vin q1) dX9_codes_9 rfl e3 ?_
  refine r_aload_n (pc' := 11) C dX9_codes_10 rfl 0 rfl ?_
  refine r_dup (pc' := 12) C dX9_codes_11 rfl rfl ?_
  refine r_getI (pc' := 15) C flX9_222 sh_149 rfl dX9_codes_12 rfl ?_
  refine r_iconst (pc' := 16) C dX9_codes_15 rfl kc_1 ?_
  refine r_iadd (pc' := 17) C dX9_codes_16 rfl ?_
  obtain ⟨σ4, e5, h⟩ := bs h
  refine r_putI (pc' := 20) (σ1 := σ4) C fpX9_222 sh_149 rfl rfl rfl dX9_codes_17 rfl e5 ?_
  have h := Option.some.inj h
  subst h
  exact r_vret C dX9_codes_20 hE

/-! BorrowedWeightModel.laysCode([II)V -/
def X9_laysCode_l7 (N : Nat) (k1 : Nat)   : Nat → Int32 → Int32 → Sg → Option (Sg)
  | 0, _, _, _ => none
  | n + 1, v2, v3, σ =>
    if v2 ≤ v3 then (some σ) else (if inb v3 80 = true then if inb v3 80 = true then bnS (wi σ 157 v3.toNatClampNeg (gi σ k1 v3.toNatClampNeg)) fun σ6 => X9_laysCode_l7 N k1 n v2 (v3 + 1) σ6 else none else none)
set_option maxRecDepth 100000 in
set_option maxHeartbeats 4000000 in
theorem X9_laysCode_l7_ok {E : Ev} {k1 : Nat} (hk1 : MbAt SH0 k1) {N : Nat}    : ∀ (n : Nat) (v2 : Int32) (v3 : Int32) (σ : Sg) (r : Sg), X9_laysCode_l7 N k1 n v2 v3 σ = some r → Gp E RX9 cX9_laysCode none 4 0 SH0 r (none) σ 7 [(0, .ref 149), (1, .ref k1), (2, .int v2), (3, .int v3)] [] := by
  intro n
  induction n with
  | zero => intro v2 v3 σ r h; cases h
  | succ n ih =>
    intro v2 v3 σ r h Z C hE
    unfold X9_laysCode_l7 at h
    refine r_iload_n (pc' := 8) C dX9_laysCode_7 rfl 3 rfl ?_
    refine r_iload_n (pc' := 9) C dX9_laysCode_8 rfl 2 rfl ?_
    refine r_icmp_ge (tgt := 27) (pc' := 12) C dX9_laysCode_9 rfl rfl (fun c3 => ?_) (fun c3 => ?_)
    · rw [if_pos c3] at h
      have h := Option.some.inj h
      subst h
      exact r_vret C dX9_laysCode_27 hE
    · rw [if_neg c3] at h
      refine r_aload_n (pc' := 13) C dX9_laysCode_12 rfl 0 rfl ?_
      refine r_getR (pc' := 16) C flX9_46 sh_149 rfl dX9_laysCode_13 rfl ?_
      refine r_iload_n (pc' := 17) C dX9_laysCode_16 rfl 3 rfl ?_
      refine r_aload_n (pc' := 18) C dX9_laysCode_17 rfl 1 rfl ?_
      refine r_iload_n (pc' := 19) C dX9_laysCode_18 rfl 3 rfl ?_
      obtain ⟨q4, h⟩ := ck h
      refine r_iald (pc' := 20) C hk1 (vin q4) dX9_laysCode_19 rfl ?_
      obtain ⟨q5, h⟩ := ck h
      obtain ⟨σ6, e7, h⟩ := bs h
      refine r_iast (pc' := 21) (σ1 := σ6) C sh_157 (vin q5) dX9_laysCode_20 rfl e7 ?_
      refine r_iinc (pc' := 24) (v := v3 + 1) (lv2 := [(3, .int (v3 + 1)), (0, .ref 149), (1, .ref k1), (2, .int v2)]) C dX9_laysCode_21 rfl 3 rfl rfl (Nat.le_of_ble_eq_true rfl) rfl ?_
      refine r_goto (tgt := 7) C dX9_laysCode_24 rfl ?_
      refine r_sub [1, 2, 3, 0] rfl ?_
      exact ih _ _ _ _ h Z C hE
def X9_laysCode (N : Nat) (k1 : Nat) (v2 : Int32) (σ : Sg) : Option (Sg) :=
  bnS (wi σ 149 19 v2) fun σ1 => X9_laysCode_l7 N k1 N v2 0 σ1
set_option maxRecDepth 100000 in
set_option maxHeartbeats 4000000 in
theorem X9_laysCode_ok {E : Ev} {k1 : Nat} (hk1 : MbAt SH0 k1) {N : Nat} {v2 : Int32} {σ : Sg} {r : Sg} (h : X9_laysCode N k1 v2 σ = some r) : Cm E 0 yX9_laysCode cX9_laysCode 4 none [.ref 149, .ref k1, .int v2] SH0 SH0 σ r (none) 0 0 := by
  refine Cm.intro (by decide +kernel) (Nat.le_of_ble_eq_true rfl) (fun _ h => by obtain ⟨_, _, _, _, _, _, h⟩ := h; exact h) (fun Z C hE => ?_)
  show Wm E Z 0 0 SH0 σ 0 [(0, .ref 149), (1, .ref k1), (2, .int v2)] []
  unfold X9_laysCode at h
  refine r_aload_n (pc' := 1) C dX9_laysCode_0 rfl 0 rfl ?_
  refine r_iload_n (pc' := 2) C dX9_laysCode_1 rfl 2 rfl ?_
  obtain ⟨σ1, e2, h⟩ := bs h
  refine r_putI (pc' := 5) (σ1 := σ1) C fpX9_247 sh_149 rfl rfl rfl dX9_laysCode_2 rfl e2 ?_
  refine r_iconst (pc' := 6) C dX9_laysCode_5 rfl kc_0 ?_
  refine r_istore_n (pc' := 7) (lv2 := [(3, .int 0), (0, .ref 149), (1, .ref k1), (2, .int v2)]) C dX9_laysCode_6 rfl rfl (Nat.le_of_ble_eq_true rfl) rfl ?_
  refine r_sub [1, 2, 3, 0] rfl ?_
  exact X9_laysCode_l7_ok hk1 N _ _ _ _ h Z C hE

/-! BorrowedWeightModel.refuse()I -/
def X9_refuse (N : Nat)   (σ : Sg) : Option (Int32 × Sg) :=
  bnS (wi σ 149 0 1) fun σ1 => some (0, σ1)
set_option maxRecDepth 100000 in
set_option maxHeartbeats 4000000 in
theorem X9_refuse_ok {E : Ev}  {N : Nat}  {σ : Sg} {r : Int32 × Sg} (h : X9_refuse N   σ = some r) : Cm E 0 yX9_refuse cX9_refuse 1 (some .int) [.ref 149] SH0 SH0 σ r.2 (some (.int r.1)) 0 0 := by
  refine Cm.intro (by decide +kernel) (Nat.le_of_ble_eq_true rfl) (fun _ h => by obtain ⟨_, _, _, _, _, _, h⟩ := h; exact h) (fun Z C hE => ?_)
  show Wm E Z 0 0 SH0 σ 0 [(0, .ref 149)] []
  unfold X9_refuse at h
  refine r_aload_n (pc' := 1) C dX9_refuse_0 rfl 0 rfl ?_
  refine r_iconst (pc' := 2) C dX9_refuse_1 rfl kc_1 ?_
  obtain ⟨σ1, e2, h⟩ := bs h
  refine r_putI (pc' := 5) (σ1 := σ1) C fpX9_3 sh_149 rfl rfl rfl dX9_refuse_2 rfl e2 ?_
  refine r_iconst (pc' := 6) C dX9_refuse_5 rfl kc_0 ?_
  have h := Option.some.inj h
  subst h
  exact r_ret C rfl dX9_refuse_6 hE

/-! BorrowedWeightModel.windOn(I)I -/
def X9_windOn (N : Nat)  (v1 : Int32) (σ : Sg) : Option (Int32) :=
  if gi σ 149 5 = 0 then none else if inb (v1 - v1 / (gi σ 149 5) * (gi σ 149 5)) 20 = true then some (gi σ 152 (v1 - v1 / (gi σ 149 5) * (gi σ 149 5)).toNatClampNeg) else none
set_option maxRecDepth 100000 in
set_option maxHeartbeats 4000000 in
theorem X9_windOn_ok {E : Ev}  {N : Nat} {v1 : Int32} {σ : Sg} {r : Int32} (h : X9_windOn N  v1 σ = some r) : Cm E 0 yX9_windOn cX9_windOn 2 (some .int) [.ref 149, .int v1] SH0 SH0 σ σ (some (.int r)) 0 0 := by
  refine Cm.intro (by decide +kernel) (Nat.le_of_ble_eq_true rfl) (fun _ h => by obtain ⟨_, _, _, _, _, _, h⟩ := h; exact h) (fun Z C hE => ?_)
  show Wm E Z 0 0 SH0 σ 0 [(0, .ref 149), (1, .int v1)] []
  unfold X9_windOn at h
  refine r_aload_n (pc' := 1) C dX9_windOn_0 rfl 0 rfl ?_
  refine r_getR (pc' := 4) C flX9_31 sh_149 rfl dX9_windOn_1 rfl ?_
  refine r_iload_n (pc' := 5) C dX9_windOn_4 rfl 1 rfl ?_
  refine r_aload_n (pc' := 6) C dX9_windOn_5 rfl 0 rfl ?_
  refine r_getI (pc' := 9) C flX9_24 sh_149 rfl dX9_windOn_6 rfl ?_
  obtain ⟨q1, h⟩ := ck0 h
  refine r_irem (pc' := 10) C dX9_windOn_9 rfl q1 ?_
  obtain ⟨q2, h⟩ := ck h
  refine r_iald (pc' := 11) C sh_152 (vin q2) dX9_windOn_10 rfl ?_
  have h := Option.some.inj h
  subst h
  exact r_ret C rfl dX9_windOn_11 hE

/-! BorrowedWeightModel.worked(III)I -/
def X9_worked (N : Nat)  (v0 : Int32) (v1 : Int32) (v2 : Int32) (σ : Sg) : Option (Int32) :=
  if v0 = 0 then (if v2 ≤ v1 then ((X9_flag N 0 σ).bind fun r3 => (some r3)) else ((X9_flag N 1 σ).bind fun r5 => (some r5))) else if v0 = 1 then (if v1 ≤ v2 then ((X9_flag N 0 σ).bind fun r9 => (some r9)) else ((X9_flag N 1 σ).bind fun r11 => (some r11))) else if v0 = 2 then (if v1 = v2 then ((X9_flag N 1 σ).bind fun r17 => (some r17)) else ((X9_flag N 0 σ).bind fun r15 => (some r15))) else if v0 = 3 then (some (v1 + v2)) else if v0 = 4 then (some (v1 - v2)) else if v0 = 5 then (some (v1 * v2)) else (if v2 = 0 then (some 0) else (if v2 = 0 then none else some (v1 / v2)))
set_option maxRecDepth 100000 in
set_option maxHeartbeats 4000000 in
theorem X9_worked_ok {E : Ev}  {N : Nat} {v0 : Int32} {v1 : Int32} {v2 : Int32} {σ : Sg} {r : Int32} (h : X9_worked N  v0 v1 v2 σ = some r) : Cm E 1 yX9_worked cX9_worked 3 (some .int) [.int v0, .int v1, .int v2] SH0 SH0 σ σ (some (.int r)) 0 0 := by
  refine Cm.intro (by decide +kernel) (Nat.le_of_ble_eq_true rfl) (fun _ h => by obtain ⟨_, _, _, _, _, _, h⟩ := h; exact h) (fun Z C hE => ?_)
  show Wm E Z 0 0 SH0 σ 0 [(0, .int v0), (1, .int v1), (2, .int v2)] []
  unfold X9_worked at h
  refine r_iload_n (pc' := 1) C dX9_worked_0 rfl 0 rfl ?_
  by_cases c1 : v0 = 0
  · rw [if_pos c1] at h
    refine r_tabIn (tgt := 40) C dX9_worked_1 (by rw [c1]; decide) (by rw [c1]; decide) (by rw [c1]; rfl) rfl ?_
    refine r_iload_n (pc' := 41) C dX9_worked_40 rfl 1 rfl ?_
    refine r_iload_n (pc' := 42) C dX9_worked_41 rfl 2 rfl ?_
    refine r_icmp_ge (tgt := 49) (pc' := 45) C dX9_worked_42 rfl rfl (fun c2 => ?_) (fun c2 => ?_)
    · rw [if_pos c2] at h
      refine r_iconst (pc' := 50) C dX9_worked_49 rfl kc_0 ?_
      obtain ⟨r3, e4, h⟩ := bd h
      refine r_cS1 (pc' := 53) C (X9_flag_ok  e4) mlX9_159 ceX9_flag csX9_flag rfl (Nat.le_of_ble_eq_true rfl) rfl (Nat.le_of_ble_eq_true rfl) dX9_worked_50 rfl (kk := ?_)
      have h := Option.some.inj h
      subst h
      exact r_ret C rfl dX9_worked_53 hE
    · rw [if_neg c2] at h
      refine r_iconst (pc' := 46) C dX9_worked_45 rfl kc_1 ?_
      refine r_goto (tgt := 50) C dX9_worked_46 rfl ?_
      obtain ⟨r5, e6, h⟩ := bd h
      refine r_cS1 (pc' := 53) C (X9_flag_ok  e6) mlX9_159 ceX9_flag csX9_flag rfl (Nat.le_of_ble_eq_true rfl) rfl (Nat.le_of_ble_eq_true rfl) dX9_worked_50 rfl (kk := ?_)
      have h := Option.some.inj h
      subst h
      exact r_ret C rfl dX9_worked_53 hE
  rw [if_neg c1] at h
  by_cases c7 : v0 = 1
  · rw [if_pos c7] at h
    refine r_tabIn (tgt := 54) C dX9_worked_1 (by rw [c7]; decide) (by rw [c7]; decide) (by rw [c7]; rfl) rfl ?_
    refine r_iload_n (pc' := 55) C dX9_worked_54 rfl 1 rfl ?_
    refine r_iload_n (pc' := 56) C dX9_worked_55 rfl 2 rfl ?_
    refine r_icmp_le (tgt := 63) (pc' := 59) C dX9_worked_56 rfl rfl (fun c8 => ?_) (fun c8 => ?_)
    · rw [if_pos c8] at h
      refine r_iconst (pc' := 64) C dX9_worked_63 rfl kc_0 ?_
      obtain ⟨r9, e10, h⟩ := bd h
      refine r_cS1 (pc' := 67) C (X9_flag_ok  e10) mlX9_159 ceX9_flag csX9_flag rfl (Nat.le_of_ble_eq_true rfl) rfl (Nat.le_of_ble_eq_true rfl) dX9_worked_64 rfl (kk := ?_)
      have h := Option.some.inj h
      subst h
      exact r_ret C rfl dX9_worked_67 hE
    · rw [if_neg c8] at h
      refine r_iconst (pc' := 60) C dX9_worked_59 rfl kc_1 ?_
      refine r_goto (tgt := 64) C dX9_worked_60 rfl ?_
      obtain ⟨r11, e12, h⟩ := bd h
      refine r_cS1 (pc' := 67) C (X9_flag_ok  e12) mlX9_159 ceX9_flag csX9_flag rfl (Nat.le_of_ble_eq_true rfl) rfl (Nat.le_of_ble_eq_true rfl) dX9_worked_64 rfl (kk := ?_)
      have h := Option.some.inj h
      subst h
      exact r_ret C rfl dX9_worked_67 hE
  rw [if_neg c7] at h
  by_cases c13 : v0 = 2
  · rw [if_pos c13] at h
    refine r_tabIn (tgt := 68) C dX9_worked_1 (by rw [c13]; decide) (by rw [c13]; decide) (by rw [c13]; rfl) rfl ?_
    refine r_iload_n (pc' := 69) C dX9_worked_68 rfl 1 rfl ?_
    refine r_iload_n (pc' := 70) C dX9_worked_69 rfl 2 rfl ?_
    refine r_icmp_ne (tgt := 77) (pc' := 73) C dX9_worked_70 rfl rfl (fun c14 => ?_) (fun c14 => ?_)
    · rw [if_neg c14] at h
      refine r_iconst (pc' := 78) C dX9_worked_77 rfl kc_0 ?_
      obtain ⟨r15, e16, h⟩ := bd h
      refine r_cS1 (pc' := 81) C (X9_flag_ok  e16) mlX9_159 ceX9_flag csX9_flag rfl (Nat.le_of_ble_eq_true rfl) rfl (Nat.le_of_ble_eq_true rfl) dX9_worked_78 rfl (kk := ?_)
      have h := Option.some.inj h
      subst h
      exact r_ret C rfl dX9_worked_81 hE
    · rw [if_pos c14] at h
      refine r_iconst (pc' := 74) C dX9_worked_73 rfl kc_1 ?_
      refine r_goto (tgt := 78) C dX9_worked_74 rfl ?_
      obtain ⟨r17, e18, h⟩ := bd h
      refine r_cS1 (pc' := 81) C (X9_flag_ok  e18) mlX9_159 ceX9_flag csX9_flag rfl (Nat.le_of_ble_eq_true rfl) rfl (Nat.le_of_ble_eq_true rfl) dX9_worked_78 rfl (kk := ?_)
      have h := Option.some.inj h
      subst h
      exact r_ret C rfl dX9_worked_81 hE
  rw [if_neg c13] at h
  by_cases c19 : v0 = 3
  · rw [if_pos c19] at h
    refine r_tabIn (tgt := 82) C dX9_worked_1 (by rw [c19]; decide) (by rw [c19]; decide) (by rw [c19]; rfl) rfl ?_
    refine r_iload_n (pc' := 83) C dX9_worked_82 rfl 1 rfl ?_
    refine r_iload_n (pc' := 84) C dX9_worked_83 rfl 2 rfl ?_
    refine r_iadd (pc' := 85) C dX9_worked_84 rfl ?_
    have h := Option.some.inj h
    subst h
    exact r_ret C rfl dX9_worked_85 hE
  rw [if_neg c19] at h
  by_cases c20 : v0 = 4
  · rw [if_pos c20] at h
    refine r_tabIn (tgt := 86) C dX9_worked_1 (by rw [c20]; decide) (by rw [c20]; decide) (by rw [c20]; rfl) rfl ?_
    refine r_iload_n (pc' := 87) C dX9_worked_86 rfl 1 rfl ?_
    refine r_iload_n (pc' := 88) C dX9_worked_87 rfl 2 rfl ?_
    refine r_isub (pc' := 89) C dX9_worked_88 rfl ?_
    have h := Option.some.inj h
    subst h
    exact r_ret C rfl dX9_worked_89 hE
  rw [if_neg c20] at h
  by_cases c21 : v0 = 5
  · rw [if_pos c21] at h
    refine r_tabIn (tgt := 90) C dX9_worked_1 (by rw [c21]; decide) (by rw [c21]; decide) (by rw [c21]; rfl) rfl ?_
    refine r_iload_n (pc' := 91) C dX9_worked_90 rfl 1 rfl ?_
    refine r_iload_n (pc' := 92) C dX9_worked_91 rfl 2 rfl ?_
    refine r_imul (pc' := 93) C dX9_worked_92 rfl ?_
    have h := Option.some.inj h
    subst h
    exact r_ret C rfl dX9_worked_93 hE
  rw [if_neg c21] at h
  have o24 : v0.toInt < 0 ∨ 5 < v0.toInt := by
    refine tab_out (fun k h1 h2 => ?_) (by decide) (by decide)
    have hk : k = 0 ∨ k = 1 ∨ k = 2 ∨ k = 3 ∨ k = 4 ∨ k = 5 := by omega
    rcases hk with rfl | rfl | rfl | rfl | rfl | rfl
    · exact c1
    · exact c7
    · exact c13
    · exact c19
    · exact c20
    · exact c21
  refine r_tabOut (tgt := 94) C dX9_worked_1 o24 rfl ?_
  refine r_iload_n (pc' := 95) C dX9_worked_94 rfl 2 rfl ?_
  refine r_if_ne (tgt := 102) (pc' := 98) C dX9_worked_95 rfl rfl (fun c22 => ?_) (fun c22 => ?_)
  · rw [if_neg c22] at h
    refine r_iload_n (pc' := 103) C dX9_worked_102 rfl 1 rfl ?_
    refine r_iload_n (pc' := 104) C dX9_worked_103 rfl 2 rfl ?_
    obtain ⟨q23, h⟩ := ck0 h
    refine r_idiv (pc' := 105) C dX9_worked_104 rfl q23 ?_
    have h := Option.some.inj h
    subst h
    exact r_ret C rfl dX9_worked_105 hE
  · rw [if_pos c22] at h
    refine r_iconst (pc' := 99) C dX9_worked_98 rfl kc_0 ?_
    refine r_goto (tgt := 105) C dX9_worked_99 rfl ?_
    have h := Option.some.inj h
    subst h
    exact r_ret C rfl dX9_worked_105 hE

/-! BorrowedWeightModel.ruled()I -/
def X9_ruled_l4 (N : Nat)  (k125 : Sg → Option (Int32 × Sg))  : Nat → Int32 → Int32 → Sg → Option (Int32 × Sg)
  | 0, _, _, _ => none
  | n + 1, v1, v2, σ =>
    if (gi σ 149 19) ≤ v2 then (k125 σ) else (if inb v2 80 = true then if (gi σ 157 v2.toNatClampNeg) = 3000 then (if inb (v1 - 1) 80 = true then if inb (v1 - 1) 80 = true then bnS (wi σ 159 (v1 - 1).toNatClampNeg (-(gi σ 159 (v1 - 1).toNatClampNeg))) fun σ22 => X9_ruled_l4 N k125 n v1 (v2 + 1) σ22 else none else none) else (if (gi σ 157 v2.toNatClampNeg) < 2000 then (if (gi σ 157 v2.toNatClampNeg) < 1000 then (if inb v1 80 = true then bnS (wi σ 159 v1.toNatClampNeg (gi σ 157 v2.toNatClampNeg)) fun σ7 => X9_ruled_l4 N k125 n (v1 + 1) (v2 + 1) σ7 else none) else (if inb ((gi σ 157 v2.toNatClampNeg) - 1000) 8 = true then if inb v1 80 = true then bnS (wi σ 159 v1.toNatClampNeg (gi σ 160 ((gi σ 157 v2.toNatClampNeg) - 1000).toNatClampNeg)) fun σ11 => X9_ruled_l4 N k125 n (v1 + 1) (v2 + 1) σ11 else none else none)) else (if inb ((v1 + (-1)) - 1) 80 = true then if inb (v1 + (-1)) 80 = true then (X9_worked N ((gi σ 157 v2.toNatClampNeg) - 2000) (gi σ 159 ((v1 + (-1)) - 1).toNatClampNeg) (gi σ 159 (v1 + (-1)).toNatClampNeg) σ).bind fun r15 => (if inb ((v1 + (-1)) - 1) 80 = true then bnS (wi σ 159 ((v1 + (-1)) - 1).toNatClampNeg r15) fun σ18 => X9_ruled_l4 N k125 n (v1 + (-1)) (v2 + 1) σ18 else none) else none else none)) else none)
set_option maxRecDepth 100000 in
set_option maxHeartbeats 4000000 in
theorem X9_ruled_l4_ok {E : Ev}  {N : Nat} {k125 : Sg → Option (Int32 × Sg)}  (hk125 : ∀ (σ : Sg) (r : Int32 × Sg), k125 σ = some r → Gp E RX9 cX9_ruled (some .int) 4 2 SH0 r.2 (some (.int r.1)) σ 125 [(0, .ref 149)] []) : ∀ (n : Nat) (v1 : Int32) (v2 : Int32) (σ : Sg) (r : Int32 × Sg), X9_ruled_l4 N k125 n v1 v2 σ = some r → Gp E RX9 cX9_ruled (some .int) 4 2 SH0 r.2 (some (.int r.1)) σ 4 [(0, .ref 149), (1, .int v1), (2, .int v2)] [] := by
  intro n
  induction n with
  | zero => intro v1 v2 σ r h; cases h
  | succ n ih =>
    intro v1 v2 σ r h Z C hE
    unfold X9_ruled_l4 at h
    refine r_iload_n (pc' := 5) C dX9_ruled_4 rfl 2 rfl ?_
    refine r_aload_n (pc' := 6) C dX9_ruled_5 rfl 0 rfl ?_
    refine r_getI (pc' := 9) C flX9_247 sh_149 rfl dX9_ruled_6 rfl ?_
    refine r_icmp_ge (tgt := 125) (pc' := 12) C dX9_ruled_9 rfl rfl (fun c1 => ?_) (fun c1 => ?_)
    · rw [if_pos c1] at h
      refine r_sub [0] rfl ?_
      exact hk125 _ _ h Z C hE
    · rw [if_neg c1] at h
      refine r_aload_n (pc' := 13) C dX9_ruled_12 rfl 0 rfl ?_
      refine r_getR (pc' := 16) C flX9_46 sh_149 rfl dX9_ruled_13 rfl ?_
      refine r_iload_n (pc' := 17) C dX9_ruled_16 rfl 2 rfl ?_
      obtain ⟨q2, h⟩ := ck h
      refine r_iald (pc' := 18) C sh_157 (vin q2) dX9_ruled_17 rfl ?_
      refine r_istore_n (pc' := 19) (lv2 := [(3, .int (gi σ 157 v2.toNatClampNeg)), (0, .ref 149), (1, .int v1), (2, .int v2)]) C dX9_ruled_18 rfl rfl (Nat.le_of_ble_eq_true rfl) rfl ?_
      refine r_iload_n (pc' := 20) C dX9_ruled_19 rfl 0 rfl ?_
      refine r_sipush (pc' := 23) C dX9_ruled_20 rfl ks_3000 ?_
      refine r_icmp_ne (tgt := 46) (pc' := 26) C dX9_ruled_23 rfl rfl (fun c3 => ?_) (fun c3 => ?_)
      · rw [if_neg c3] at h
        refine r_iload_n (pc' := 47) C dX9_ruled_46 rfl 0 rfl ?_
        refine r_sipush (pc' := 50) C dX9_ruled_47 rfl ks_2000 ?_
        refine r_icmp_lt (tgt := 89) (pc' := 53) C dX9_ruled_50 rfl rfl (fun c4 => ?_) (fun c4 => ?_)
        · rw [if_pos c4] at h
          refine r_aload_n (pc' := 90) C dX9_ruled_89 rfl 1 rfl ?_
          refine r_getR (pc' := 93) C flX9_52 sh_149 rfl dX9_ruled_90 rfl ?_
          refine r_iload_n (pc' := 94) C dX9_ruled_93 rfl 2 rfl ?_
          refine r_iload_n (pc' := 95) C dX9_ruled_94 rfl 0 rfl ?_
          refine r_sipush (pc' := 98) C dX9_ruled_95 rfl ks_1000 ?_
          refine r_icmp_lt (tgt := 114) (pc' := 101) C dX9_ruled_98 rfl rfl (fun c5 => ?_) (fun c5 => ?_)
          · rw [if_pos c5] at h
            refine r_iload_n (pc' := 115) C dX9_ruled_114 rfl 0 rfl ?_
            obtain ⟨q6, h⟩ := ck h
            obtain ⟨σ7, e8, h⟩ := bs h
            refine r_iast (pc' := 116) (σ1 := σ7) C sh_159 (vin q6) dX9_ruled_115 rfl e8 ?_
            refine r_iinc (pc' := 119) (v := v1 + 1) (lv2 := [(1, .int (v1 + 1)), (3, .int (gi σ 157 v2.toNatClampNeg)), (0, .ref 149), (2, .int v2)]) C dX9_ruled_116 rfl 2 rfl rfl (Nat.le_of_ble_eq_true rfl) rfl ?_
            refine r_iinc (pc' := 122) (v := v2 + 1) (lv2 := [(2, .int (v2 + 1)), (1, .int (v1 + 1)), (3, .int (gi σ 157 v2.toNatClampNeg)), (0, .ref 149)]) C dX9_ruled_119 rfl 3 rfl rfl (Nat.le_of_ble_eq_true rfl) rfl ?_
            refine r_goto (tgt := 4) C dX9_ruled_122 rfl ?_
            refine r_sub [3, 1, 0] rfl ?_
            exact ih _ _ _ _ h Z C hE
          · rw [if_neg c5] at h
            refine r_aload_n (pc' := 102) C dX9_ruled_101 rfl 1 rfl ?_
            refine r_getR (pc' := 105) C flX9_55 sh_149 rfl dX9_ruled_102 rfl ?_
            refine r_iload_n (pc' := 106) C dX9_ruled_105 rfl 0 rfl ?_
            refine r_sipush (pc' := 109) C dX9_ruled_106 rfl ks_1000 ?_
            refine r_isub (pc' := 110) C dX9_ruled_109 rfl ?_
            obtain ⟨q9, h⟩ := ck h
            refine r_iald (pc' := 111) C sh_160 (vin q9) dX9_ruled_110 rfl ?_
            refine r_goto (tgt := 115) C dX9_ruled_111 rfl ?_
            obtain ⟨q10, h⟩ := ck h
            obtain ⟨σ11, e12, h⟩ := bs h
            refine r_iast (pc' := 116) (σ1 := σ11) C sh_159 (vin q10) dX9_ruled_115 rfl e12 ?_
            refine r_iinc (pc' := 119) (v := v1 + 1) (lv2 := [(1, .int (v1 + 1)), (3, .int (gi σ 157 v2.toNatClampNeg)), (0, .ref 149), (2, .int v2)]) C dX9_ruled_116 rfl 2 rfl rfl (Nat.le_of_ble_eq_true rfl) rfl ?_
            refine r_iinc (pc' := 122) (v := v2 + 1) (lv2 := [(2, .int (v2 + 1)), (1, .int (v1 + 1)), (3, .int (gi σ 157 v2.toNatClampNeg)), (0, .ref 149)]) C dX9_ruled_119 rfl 3 rfl rfl (Nat.le_of_ble_eq_true rfl) rfl ?_
            refine r_goto (tgt := 4) C dX9_ruled_122 rfl ?_
            refine r_sub [3, 1, 0] rfl ?_
            exact ih _ _ _ _ h Z C hE
        · rw [if_neg c4] at h
          refine r_iinc (pc' := 56) (v := v1 + (-1)) (lv2 := [(1, .int (v1 + (-1))), (3, .int (gi σ 157 v2.toNatClampNeg)), (0, .ref 149), (2, .int v2)]) C dX9_ruled_53 rfl 2 rfl rfl (Nat.le_of_ble_eq_true rfl) rfl ?_
          refine r_aload_n (pc' := 57) C dX9_ruled_56 rfl 2 rfl ?_
          refine r_getR (pc' := 60) C flX9_52 sh_149 rfl dX9_ruled_57 rfl ?_
          refine r_iload_n (pc' := 61) C dX9_ruled_60 rfl 0 rfl ?_
          refine r_iconst (pc' := 62) C dX9_ruled_61 rfl kc_1 ?_
          refine r_isub (pc' := 63) C dX9_ruled_62 rfl ?_
          refine r_iload_n (pc' := 64) C dX9_ruled_63 rfl 1 rfl ?_
          refine r_sipush (pc' := 67) C dX9_ruled_64 rfl ks_2000 ?_
          refine r_isub (pc' := 68) C dX9_ruled_67 rfl ?_
          refine r_aload_n (pc' := 69) C dX9_ruled_68 rfl 2 rfl ?_
          refine r_getR (pc' := 72) C flX9_52 sh_149 rfl dX9_ruled_69 rfl ?_
          refine r_iload_n (pc' := 73) C dX9_ruled_72 rfl 0 rfl ?_
          refine r_iconst (pc' := 74) C dX9_ruled_73 rfl kc_1 ?_
          refine r_isub (pc' := 75) C dX9_ruled_74 rfl ?_
          obtain ⟨q13, h⟩ := ck h
          refine r_iald (pc' := 76) C sh_159 (vin q13) dX9_ruled_75 rfl ?_
          refine r_aload_n (pc' := 77) C dX9_ruled_76 rfl 2 rfl ?_
          refine r_getR (pc' := 80) C flX9_52 sh_149 rfl dX9_ruled_77 rfl ?_
          refine r_iload_n (pc' := 81) C dX9_ruled_80 rfl 0 rfl ?_
          obtain ⟨q14, h⟩ := ck h
          refine r_iald (pc' := 82) C sh_159 (vin q14) dX9_ruled_81 rfl ?_
          obtain ⟨r15, e16, h⟩ := bd h
          refine r_cS1 (pc' := 85) C (X9_worked_ok  e16) mlX9_257 ceX9_worked csX9_worked rfl (Nat.le_of_ble_eq_true rfl) rfl (Nat.le_of_ble_eq_true rfl) dX9_ruled_82 rfl (kk := ?_)
          obtain ⟨q17, h⟩ := ck h
          obtain ⟨σ18, e19, h⟩ := bs h
          refine r_iast (pc' := 86) (σ1 := σ18) C sh_159 (vin q17) dX9_ruled_85 rfl e19 ?_
          refine r_goto (tgt := 119) C dX9_ruled_86 rfl ?_
          refine r_iinc (pc' := 122) (v := v2 + 1) (lv2 := [(2, .int (v2 + 1)), (1, .int (v1 + (-1))), (3, .int (gi σ 157 v2.toNatClampNeg)), (0, .ref 149)]) C dX9_ruled_119 rfl 3 rfl rfl (Nat.le_of_ble_eq_true rfl) rfl ?_
          refine r_goto (tgt := 4) C dX9_ruled_122 rfl ?_
          refine r_sub [3, 1, 0] rfl ?_
          exact ih _ _ _ _ h Z C hE
      · rw [if_pos c3] at h
        refine r_aload_n (pc' := 27) C dX9_ruled_26 rfl 1 rfl ?_
        refine r_getR (pc' := 30) C flX9_52 sh_149 rfl dX9_ruled_27 rfl ?_
        refine r_iload_n (pc' := 31) C dX9_ruled_30 rfl 2 rfl ?_
        refine r_iconst (pc' := 32) C dX9_ruled_31 rfl kc_1 ?_
        refine r_isub (pc' := 33) C dX9_ruled_32 rfl ?_
        refine r_aload_n (pc' := 34) C dX9_ruled_33 rfl 1 rfl ?_
        refine r_getR (pc' := 37) C flX9_52 sh_149 rfl dX9_ruled_34 rfl ?_
        refine r_iload_n (pc' := 38) C dX9_ruled_37 rfl 2 rfl ?_
        refine r_iconst (pc' := 39) C dX9_ruled_38 rfl kc_1 ?_
        refine r_isub (pc' := 40) C dX9_ruled_39 rfl ?_
        obtain ⟨q20, h⟩ := ck h
        refine r_iald (pc' := 41) C sh_159 (vin q20) dX9_ruled_40 rfl ?_
        refine r_ineg (pc' := 42) C dX9_ruled_41 rfl ?_
        obtain ⟨q21, h⟩ := ck h
        obtain ⟨σ22, e23, h⟩ := bs h
        refine r_iast (pc' := 43) (σ1 := σ22) C sh_159 (vin q21) dX9_ruled_42 rfl e23 ?_
        refine r_goto (tgt := 119) C dX9_ruled_43 rfl ?_
        refine r_iinc (pc' := 122) (v := v2 + 1) (lv2 := [(2, .int (v2 + 1)), (3, .int (gi σ 157 v2.toNatClampNeg)), (0, .ref 149), (1, .int v1)]) C dX9_ruled_119 rfl 3 rfl rfl (Nat.le_of_ble_eq_true rfl) rfl ?_
        refine r_goto (tgt := 4) C dX9_ruled_122 rfl ?_
        refine r_sub [2, 3, 0] rfl ?_
        exact ih _ _ _ _ h Z C hE
def X9_ruled_j125 (N : Nat)    (σ : Sg) : Option (Int32 × Sg) :=
  if (gi σ 149 19) = 0 then (if inb 0 8 = true then if inb 1 8 = true then some (((gi σ 160 (0 : Int32).toNatClampNeg) / 2) + ((gi σ 160 (1 : Int32).toNatClampNeg) / 3), σ) else none else none) else (if inb 0 80 = true then some (gi σ 159 (0 : Int32).toNatClampNeg, σ) else none)
set_option maxRecDepth 100000 in
set_option maxHeartbeats 4000000 in
theorem X9_ruled_j125_ok {E : Ev}  {N : Nat}     {σ : Sg} {r : Int32 × Sg} (h : X9_ruled_j125 N    σ = some r) : Gp E RX9 cX9_ruled (some .int) 4 2 SH0 r.2 (some (.int r.1)) σ 125 [(0, .ref 149)] [] := by
  intro Z C hE
  unfold X9_ruled_j125 at h
  refine r_aload_n (pc' := 126) C dX9_ruled_125 rfl 0 rfl ?_
  refine r_getI (pc' := 129) C flX9_247 sh_149 rfl dX9_ruled_126 rfl ?_
  refine r_if_ne (tgt := 152) (pc' := 132) C dX9_ruled_129 rfl rfl (fun c24 => ?_) (fun c24 => ?_)
  · rw [if_neg c24] at h
    refine r_aload_n (pc' := 153) C dX9_ruled_152 rfl 0 rfl ?_
    refine r_getR (pc' := 156) C flX9_52 sh_149 rfl dX9_ruled_153 rfl ?_
    refine r_iconst (pc' := 157) C dX9_ruled_156 rfl kc_0 ?_
    obtain ⟨q25, h⟩ := ck h
    refine r_iald (pc' := 158) C sh_159 (vin q25) dX9_ruled_157 rfl ?_
    have h := Option.some.inj h
    subst h
    exact r_ret C rfl dX9_ruled_158 hE
  · rw [if_pos c24] at h
    refine r_aload_n (pc' := 133) C dX9_ruled_132 rfl 0 rfl ?_
    refine r_getR (pc' := 136) C flX9_55 sh_149 rfl dX9_ruled_133 rfl ?_
    refine r_iconst (pc' := 137) C dX9_ruled_136 rfl kc_0 ?_
    obtain ⟨q26, h⟩ := ck h
    refine r_iald (pc' := 138) C sh_160 (vin q26) dX9_ruled_137 rfl ?_
    refine r_iconst (pc' := 139) C dX9_ruled_138 rfl kc_2 ?_
    refine r_idiv (pc' := 140) C dX9_ruled_139 rfl (by decide) ?_
    refine r_aload_n (pc' := 141) C dX9_ruled_140 rfl 0 rfl ?_
    refine r_getR (pc' := 144) C flX9_55 sh_149 rfl dX9_ruled_141 rfl ?_
    refine r_iconst (pc' := 145) C dX9_ruled_144 rfl kc_1 ?_
    obtain ⟨q28, h⟩ := ck h
    refine r_iald (pc' := 146) C sh_160 (vin q28) dX9_ruled_145 rfl ?_
    refine r_iconst (pc' := 147) C dX9_ruled_146 rfl kc_3 ?_
    refine r_idiv (pc' := 148) C dX9_ruled_147 rfl (by decide) ?_
    refine r_iadd (pc' := 149) C dX9_ruled_148 rfl ?_
    refine r_goto (tgt := 158) C dX9_ruled_149 rfl ?_
    have h := Option.some.inj h
    subst h
    exact r_ret C rfl dX9_ruled_158 hE
def X9_ruled (N : Nat)   (σ : Sg) : Option (Int32 × Sg) :=
  X9_ruled_l4 N (fun σ => X9_ruled_j125 N σ) N 0 0 σ
set_option maxRecDepth 100000 in
set_option maxHeartbeats 4000000 in
theorem X9_ruled_ok {E : Ev}  {N : Nat}  {σ : Sg} {r : Int32 × Sg} (h : X9_ruled N   σ = some r) : Cm E 2 yX9_ruled cX9_ruled 4 (some .int) [.ref 149] SH0 SH0 σ r.2 (some (.int r.1)) 0 0 := by
  refine Cm.intro (by decide +kernel) (Nat.le_of_ble_eq_true rfl) (fun _ h => by obtain ⟨_, _, _, _, _, _, h⟩ := h; exact h) (fun Z C hE => ?_)
  show Wm E Z 0 0 SH0 σ 0 [(0, .ref 149)] []
  unfold X9_ruled at h
  refine r_iconst (pc' := 1) C dX9_ruled_0 rfl kc_0 ?_
  refine r_istore_n (pc' := 2) (lv2 := [(1, .int 0), (0, .ref 149)]) C dX9_ruled_1 rfl rfl (Nat.le_of_ble_eq_true rfl) rfl ?_
  refine r_iconst (pc' := 3) C dX9_ruled_2 rfl kc_0 ?_
  refine r_istore_n (pc' := 4) (lv2 := [(2, .int 0), (1, .int 0), (0, .ref 149)]) C dX9_ruled_3 rfl rfl (Nat.le_of_ble_eq_true rfl) rfl ?_
  refine r_sub [2, 1, 0] rfl ?_
  exact X9_ruled_l4_ok  (fun _ _ h Z C hE => by exact X9_ruled_j125_ok  h Z C hE) N _ _ _ _ h Z C hE
