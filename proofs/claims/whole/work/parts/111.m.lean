/-! BorrowedWeightModel.goesOn([II)V -/
def X9_goesOn_l12 (N : Nat) (k1 : Nat)   : Nat → Int32 → Int32 → Sg → Option (Sg)
  | 0, _, _, _ => none
  | n + 1, v2, v3, σ =>
    if v2 ≤ v3 then (some σ) else ((X9_hourGoes N k1 σ).bind fun r6 => (X9_goesOn_l12 N k1 n v2 (v3 + 1) r6))
set_option maxRecDepth 100000 in
set_option maxHeartbeats 4000000 in
theorem X9_goesOn_l12_ok {E : Ev} {k1 : Nat} (hk1 : MaAt SH0 k1) {N : Nat}    : ∀ (n : Nat) (v2 : Int32) (v3 : Int32) (σ : Sg) (r : Sg), X9_goesOn_l12 N k1 n v2 v3 σ = some r → Gp E RX9 cX9_goesOn none 4 8 SH0 r (none) σ 12 [(0, .ref 149), (1, .ref k1), (2, .int v2), (3, .int v3)] [] := by
  intro n
  induction n with
  | zero => intro v2 v3 σ r h; cases h
  | succ n ih =>
    intro v2 v3 σ r h Z C hE
    unfold X9_goesOn_l12 at h
    refine r_iload_n (pc' := 13) C dX9_goesOn_12 rfl 3 rfl ?_
    refine r_iload_n (pc' := 14) C dX9_goesOn_13 rfl 2 rfl ?_
    refine r_icmp_ge (tgt := 28) (pc' := 17) C dX9_goesOn_14 rfl rfl (fun c5 => ?_) (fun c5 => ?_)
    · rw [if_pos c5] at h
      have h := Option.some.inj h
      subst h
      exact r_vret C dX9_goesOn_28 hE
    · rw [if_neg c5] at h
      refine r_aload_n (pc' := 18) C dX9_goesOn_17 rfl 0 rfl ?_
      refine r_aload_n (pc' := 19) C dX9_goesOn_18 rfl 1 rfl ?_
      obtain ⟨r6, e7, h⟩ := bd h
      refine r_cV0 (pc' := 22) C (X9_hourGoes_ok hk1 e7) mlX9_313 ceX9_hourGoes cvX9_hourGoes sh_149 rfl rfl rfl (Nat.le_of_ble_eq_true rfl) rfl (Nat.le_of_ble_eq_true rfl) dX9_goesOn_19 rfl (kk := ?_)
      refine r_iinc (pc' := 25) (v := v3 + 1) (lv2 := [(3, .int (v3 + 1)), (0, .ref 149), (1, .ref k1), (2, .int v2)]) C dX9_goesOn_22 rfl 3 rfl rfl (Nat.le_of_ble_eq_true rfl) rfl ?_
      refine r_goto (tgt := 12) C dX9_goesOn_25 rfl ?_
      refine r_sub [1, 2, 3, 0] rfl ?_
      exact ih _ _ _ _ h Z C hE
def X9_goesOn (N : Nat) (k1 : Nat) (v2 : Int32) (σ : Sg) : Option (Sg) :=
  bnS (wi σ 149 25 0) fun σ1 => bnS (wi σ1 149 26 0) fun σ3 => X9_goesOn_l12 N k1 N v2 0 σ3
set_option maxRecDepth 100000 in
set_option maxHeartbeats 4000000 in
theorem X9_goesOn_ok {E : Ev} {k1 : Nat} (hk1 : MaAt SH0 k1) {N : Nat} {v2 : Int32} {σ : Sg} {r : Sg} (h : X9_goesOn N k1 v2 σ = some r) : Cm E 8 yX9_goesOn cX9_goesOn 4 none [.ref 149, .ref k1, .int v2] SH0 SH0 σ r (none) 0 0 := by
  refine Cm.intro (by decide +kernel) (Nat.le_of_ble_eq_true rfl) (fun _ h => by obtain ⟨_, _, _, _, _, _, h⟩ := h; exact h) (fun Z C hE => ?_)
  show Wm E Z 0 0 SH0 σ 0 [(0, .ref 149), (1, .ref k1), (2, .int v2)] []
  unfold X9_goesOn at h
  refine r_aload_n (pc' := 1) C dX9_goesOn_0 rfl 0 rfl ?_
  refine r_iconst (pc' := 2) C dX9_goesOn_1 rfl kc_0 ?_
  obtain ⟨σ1, e2, h⟩ := bs h
  refine r_putI (pc' := 5) (σ1 := σ1) C fpX9_297 sh_149 rfl rfl rfl dX9_goesOn_2 rfl e2 ?_
  refine r_aload_n (pc' := 6) C dX9_goesOn_5 rfl 0 rfl ?_
  refine r_iconst (pc' := 7) C dX9_goesOn_6 rfl kc_0 ?_
  obtain ⟨σ3, e4, h⟩ := bs h
  refine r_putI (pc' := 10) (σ1 := σ3) C fpX9_300 sh_149 rfl rfl rfl dX9_goesOn_7 rfl e4 ?_
  refine r_iconst (pc' := 11) C dX9_goesOn_10 rfl kc_0 ?_
  refine r_istore_n (pc' := 12) (lv2 := [(3, .int 0), (0, .ref 149), (1, .ref k1), (2, .int v2)]) C dX9_goesOn_11 rfl rfl (Nat.le_of_ble_eq_true rfl) rfl ?_
  refine r_sub [1, 2, 3, 0] rfl ?_
  exact X9_goesOn_l12_ok hk1 N _ _ _ _ h Z C hE

/-! BorrowedWeightModel.enters(J)V -/
def X9_enters (N : Nat)  (v1 : Int64) (σ : Sg) : Option (Sg) :=
  if inb (gi σ 149 1) 24 = true then bnS (wl σ 150 (gi σ 149 1).toNatClampNeg v1) fun σ2 => bnS (wi σ2 149 1 ((gi σ2 149 1) + 1)) fun σ4 => some σ4 else none
set_option maxRecDepth 100000 in
set_option maxHeartbeats 4000000 in
theorem X9_enters_ok {E : Ev}  {N : Nat} {v1 : Int64} {σ : Sg} {r : Sg} (h : X9_enters N  v1 σ = some r) : Cm E 0 yX9_enters cX9_enters 3 none [.ref 149, .long v1] SH0 SH0 σ r (none) 0 0 := by
  refine Cm.intro (by decide +kernel) (Nat.le_of_ble_eq_true rfl) (fun _ h => by obtain ⟨_, _, _, _, _, _, h⟩ := h; exact h) (fun Z C hE => ?_)
  show Wm E Z 0 0 SH0 σ 0 [(0, .ref 149), (1, .long v1)] []
  unfold X9_enters at h
  refine r_aload_n (pc' := 1) C dX9_enters_0 rfl 0 rfl ?_
  refine r_getR (pc' := 4) C flX9_11 sh_149 rfl dX9_enters_1 rfl ?_
  refine r_aload_n (pc' := 5) C dX9_enters_4 rfl 0 rfl ?_
  refine r_getI (pc' := 8) C flX9_15 sh_149 rfl dX9_enters_5 rfl ?_
  refine r_lload_n (pc' := 9) C dX9_enters_8 rfl 1 rfl ?_
  obtain ⟨q1, h⟩ := ck h
  obtain ⟨σ2, e3, h⟩ := bs h
  refine r_last (pc' := 10) (σ1 := σ2) C sh_150 (vin q1) dX9_enters_9 rfl e3 ?_
  refine r_aload_n (pc' := 11) C dX9_enters_10 rfl 0 rfl ?_
  refine r_dup (pc' := 12) C dX9_enters_11 rfl rfl ?_
  refine r_getI (pc' := 15) C flX9_15 sh_149 rfl dX9_enters_12 rfl ?_
  refine r_iconst (pc' := 16) C dX9_enters_15 rfl kc_1 ?_
  refine r_iadd (pc' := 17) C dX9_enters_16 rfl ?_
  obtain ⟨σ4, e5, h⟩ := bs h
  refine r_putI (pc' := 20) (σ1 := σ4) C fpX9_15 sh_149 rfl rfl rfl dX9_enters_17 rfl e5 ?_
  have h := Option.some.inj h
  subst h
  exact r_vret C dX9_enters_20 hE

/-! BorrowedWeightModel.hours(I)I -/
def X9_hours (N : Nat)  (v1 : Int32) (σ : Sg) : Option (Int32 × Sg) :=
  bnS (wi σ 149 0 0) fun σ1 => (X9_in N v1.toInt64 0 60 σ1).bind fun r3 => (if r3 = 0 then (some ((-1), σ1)) else ((X9_putsBy N σ1).bind fun r6 => ((X9_goesOn N 153 v1 r6).bind fun r8 => (bnS (wi r8 149 1 0) fun σ10 => (X9_enters N ((gi σ10 149 25).toInt64) σ10).bind fun r12 => ((X9_enters N ((gi r12 149 26).toInt64) r12).bind fun r14 => ((X9_here N 153 r14).bind fun r16 => ((X9_adds N r16 r14).bind fun r18 => (some (r18.1, r18.2)))))))))
set_option maxRecDepth 100000 in
set_option maxHeartbeats 4000000 in
theorem X9_hours_ok {E : Ev}  {N : Nat} {v1 : Int32} {σ : Sg} {r : Int32 × Sg} (h : X9_hours N  v1 σ = some r) : Cm E 9 yX9_hours cX9_hours 2 (some .int) [.ref 149, .int v1] SH0 SH0 σ r.2 (some (.int r.1)) 0 0 := by
  refine Cm.intro (by decide +kernel) (Nat.le_of_ble_eq_true rfl) (fun _ h => by obtain ⟨_, _, _, _, _, _, h⟩ := h; exact h) (fun Z C hE => ?_)
  show Wm E Z 0 0 SH0 σ 0 [(0, .ref 149), (1, .int v1)] []
  unfold X9_hours at h
  refine r_aload_n (pc' := 1) C dX9_hours_0 rfl 0 rfl ?_
  refine r_iconst (pc' := 2) C dX9_hours_1 rfl kc_0 ?_
  obtain ⟨σ1, e2, h⟩ := bs h
  refine r_putI (pc' := 5) (σ1 := σ1) C fpX9_3 sh_149 rfl rfl rfl dX9_hours_2 rfl e2 ?_
  refine r_iload_n (pc' := 6) C dX9_hours_5 rfl 1 rfl ?_
  refine r_i2l (pc' := 7) C dX9_hours_6 rfl rfl ?_
  refine r_lconst (pc' := 8) C dX9_hours_7 rfl kl_0 ?_
  refine r_ldc2 (pc' := 11) C cnX9_322 dX9_hours_8 rfl ?_
  obtain ⟨r3, e4, h⟩ := bd h
  refine r_cS1 (pc' := 14) C (X9_in_ok  e4) mlX9_119 ceX9_in csX9_in rfl (Nat.le_of_ble_eq_true rfl) rfl (Nat.le_of_ble_eq_true rfl) dX9_hours_11 rfl (kk := ?_)
  refine r_if_ne (tgt := 19) (pc' := 17) C dX9_hours_14 rfl rfl (fun c5 => ?_) (fun c5 => ?_)
  · rw [if_neg c5] at h
    refine r_aload_n (pc' := 20) C dX9_hours_19 rfl 0 rfl ?_
    obtain ⟨r6, e7, h⟩ := bd h
    refine r_cV0 (pc' := 23) C (X9_putsBy_ok  e7) mlX9_209 ceX9_putsBy cvX9_putsBy sh_149 rfl rfl rfl (Nat.le_of_ble_eq_true rfl) rfl (Nat.le_of_ble_eq_true rfl) dX9_hours_20 rfl (kk := ?_)
    refine r_aload_n (pc' := 24) C dX9_hours_23 rfl 0 rfl ?_
    refine r_aload_n (pc' := 25) C dX9_hours_24 rfl 0 rfl ?_
    refine r_getR (pc' := 28) C flX9_34 sh_149 rfl dX9_hours_25 rfl ?_
    refine r_iload_n (pc' := 29) C dX9_hours_28 rfl 1 rfl ?_
    obtain ⟨r8, e9, h⟩ := bd h
    refine r_cV0 (pc' := 32) C (X9_goesOn_ok mac_153 e9) mlX9_324 ceX9_goesOn cvX9_goesOn sh_149 rfl rfl rfl (Nat.le_of_ble_eq_true rfl) rfl (Nat.le_of_ble_eq_true rfl) dX9_hours_29 rfl (kk := ?_)
    refine r_aload_n (pc' := 33) C dX9_hours_32 rfl 0 rfl ?_
    refine r_iconst (pc' := 34) C dX9_hours_33 rfl kc_0 ?_
    obtain ⟨σ10, e11, h⟩ := bs h
    refine r_putI (pc' := 37) (σ1 := σ10) C fpX9_15 sh_149 rfl rfl rfl dX9_hours_34 rfl e11 ?_
    refine r_aload_n (pc' := 38) C dX9_hours_37 rfl 0 rfl ?_
    refine r_aload_n (pc' := 39) C dX9_hours_38 rfl 0 rfl ?_
    refine r_getI (pc' := 42) C flX9_297 sh_149 rfl dX9_hours_39 rfl ?_
    refine r_i2l (pc' := 43) C dX9_hours_42 rfl rfl ?_
    obtain ⟨r12, e13, h⟩ := bd h
    refine r_cV0 (pc' := 46) C (X9_enters_ok  e13) mlX9_327 ceX9_enters cvX9_enters sh_149 rfl rfl rfl (Nat.le_of_ble_eq_true rfl) rfl (Nat.le_of_ble_eq_true rfl) dX9_hours_43 rfl (kk := ?_)
    refine r_aload_n (pc' := 47) C dX9_hours_46 rfl 0 rfl ?_
    refine r_aload_n (pc' := 48) C dX9_hours_47 rfl 0 rfl ?_
    refine r_getI (pc' := 51) C flX9_300 sh_149 rfl dX9_hours_48 rfl ?_
    refine r_i2l (pc' := 52) C dX9_hours_51 rfl rfl ?_
    obtain ⟨r14, e15, h⟩ := bd h
    refine r_cV0 (pc' := 55) C (X9_enters_ok  e15) mlX9_327 ceX9_enters cvX9_enters sh_149 rfl rfl rfl (Nat.le_of_ble_eq_true rfl) rfl (Nat.le_of_ble_eq_true rfl) dX9_hours_52 rfl (kk := ?_)
    refine r_aload_n (pc' := 56) C dX9_hours_55 rfl 0 rfl ?_
    refine r_aload_n (pc' := 57) C dX9_hours_56 rfl 0 rfl ?_
    refine r_aload_n (pc' := 58) C dX9_hours_57 rfl 0 rfl ?_
    refine r_getR (pc' := 61) C flX9_34 sh_149 rfl dX9_hours_58 rfl ?_
    obtain ⟨r16, e17, h⟩ := bd h
    refine r_cV1 (pc' := 64) C (X9_here_ok mac_153 e17) mlX9_307 ceX9_here cvX9_here sh_149 rfl rfl rfl (Nat.le_of_ble_eq_true rfl) rfl (Nat.le_of_ble_eq_true rfl) dX9_hours_61 rfl (kk := ?_)
    obtain ⟨r18, e19, h⟩ := bd h
    refine r_cV1 (pc' := 67) C (X9_adds_ok  e19) mlX9_216 ceX9_adds cvX9_adds sh_149 rfl rfl rfl (Nat.le_of_ble_eq_true rfl) rfl (Nat.le_of_ble_eq_true rfl) dX9_hours_64 rfl (kk := ?_)
    have h := Option.some.inj h
    subst h
    exact r_ret C rfl dX9_hours_67 hE
  · rw [if_pos c5] at h
    refine r_iconst (pc' := 18) C dX9_hours_17 rfl kc_m1 ?_
    have h := Option.some.inj h
    subst h
    exact r_ret C rfl dX9_hours_18 hE

/-! BorrowedWeightModel.lendsTo([III)I -/
def X9_lendsTo (N : Nat) (k1 : Nat) (v2 : Int32) (v3 : Int32) (σ : Sg) : Option (Int32 × Sg) :=
  (X9_isThing N v2 σ).bind fun r1 => (if r1 = 0 then (some ((-1), σ)) else ((X9_in N v3.toInt64 1 9 σ).bind fun r4 => (if r4 = 0 then (some ((-1), σ)) else ((X9_isHere N k1 v2 σ).bind fun r7 => (if r7 = 0 then (some ((-2), σ)) else (if inb 33 37 = true then if v3 ≤ (gi σ k1 (33 : Int32).toNatClampNeg) then (if inb v2 37 = true then if ((gi σ k1 v2.toNatClampNeg) + v3) ≤ 9 then (if inb v2 37 = true then if inb v2 37 = true then bnS (wi σ k1 v2.toNatClampNeg ((gi σ k1 v2.toNatClampNeg) + v3)) fun σ16 => if inb 33 37 = true then if inb 33 37 = true then bnS (wi σ16 k1 (33 : Int32).toNatClampNeg ((gi σ16 k1 (33 : Int32).toNatClampNeg) - v3)) fun σ20 => if inb v2 37 = true then some (gi σ20 k1 v2.toNatClampNeg, σ20) else none else none else none else none else none) else (some ((-4), σ)) else none) else (some ((-3), σ)) else none))))))
set_option maxRecDepth 100000 in
set_option maxHeartbeats 4000000 in
theorem X9_lendsTo_ok {E : Ev} {k1 : Nat} (hk1 : MaAt SH0 k1) {N : Nat} {v2 : Int32} {v3 : Int32} {σ : Sg} {r : Int32 × Sg} (h : X9_lendsTo N k1 v2 v3 σ = some r) : Cm E 3 yX9_lendsTo cX9_lendsTo 4 (some .int) [.ref 149, .ref k1, .int v2, .int v3] SH0 SH0 σ r.2 (some (.int r.1)) 0 0 := by
  refine Cm.intro (by decide +kernel) (Nat.le_of_ble_eq_true rfl) (fun _ h => by obtain ⟨_, _, _, _, _, _, h⟩ := h; exact h) (fun Z C hE => ?_)
  show Wm E Z 0 0 SH0 σ 0 [(0, .ref 149), (1, .ref k1), (2, .int v2), (3, .int v3)] []
  unfold X9_lendsTo at h
  refine r_aload_n (pc' := 1) C dX9_lendsTo_0 rfl 0 rfl ?_
  refine r_iload_n (pc' := 2) C dX9_lendsTo_1 rfl 2 rfl ?_
  obtain ⟨r1, e2, h⟩ := bd h
  refine r_cV1 (pc' := 5) C (X9_isThing_ok  e2) mlX9_123 ceX9_isThing cvX9_isThing sh_149 rfl rfl rfl (Nat.le_of_ble_eq_true rfl) rfl (Nat.le_of_ble_eq_true rfl) dX9_lendsTo_2 rfl (kk := ?_)
  refine r_if_eq (tgt := 20) (pc' := 8) C dX9_lendsTo_5 rfl rfl (fun c3 => ?_) (fun c3 => ?_)
  · rw [if_pos c3] at h
    refine r_iconst (pc' := 21) C dX9_lendsTo_20 rfl kc_m1 ?_
    have h := Option.some.inj h
    subst h
    exact r_ret C rfl dX9_lendsTo_21 hE
  · rw [if_neg c3] at h
    refine r_iload_n (pc' := 9) C dX9_lendsTo_8 rfl 3 rfl ?_
    refine r_i2l (pc' := 10) C dX9_lendsTo_9 rfl rfl ?_
    refine r_lconst (pc' := 11) C dX9_lendsTo_10 rfl kl_1 ?_
    refine r_ldc2 (pc' := 14) C cnX9_317 dX9_lendsTo_11 rfl ?_
    obtain ⟨r4, e5, h⟩ := bd h
    refine r_cS1 (pc' := 17) C (X9_in_ok  e5) mlX9_119 ceX9_in csX9_in rfl (Nat.le_of_ble_eq_true rfl) rfl (Nat.le_of_ble_eq_true rfl) dX9_lendsTo_14 rfl (kk := ?_)
    refine r_if_ne (tgt := 22) (pc' := 20) C dX9_lendsTo_17 rfl rfl (fun c6 => ?_) (fun c6 => ?_)
    · rw [if_neg c6] at h
      refine r_aload_n (pc' := 23) C dX9_lendsTo_22 rfl 0 rfl ?_
      refine r_aload_n (pc' := 24) C dX9_lendsTo_23 rfl 1 rfl ?_
      refine r_iload_n (pc' := 25) C dX9_lendsTo_24 rfl 2 rfl ?_
      obtain ⟨r7, e8, h⟩ := bd h
      refine r_cV1 (pc' := 28) C (X9_isHere_ok hk1 e8) mlX9_202 ceX9_isHere cvX9_isHere sh_149 rfl rfl rfl (Nat.le_of_ble_eq_true rfl) rfl (Nat.le_of_ble_eq_true rfl) dX9_lendsTo_25 rfl (kk := ?_)
      refine r_if_ne (tgt := 34) (pc' := 31) C dX9_lendsTo_28 rfl rfl (fun c9 => ?_) (fun c9 => ?_)
      · rw [if_neg c9] at h
        refine r_aload_n (pc' := 35) C dX9_lendsTo_34 rfl 1 rfl ?_
        refine r_bipush (pc' := 37) C dX9_lendsTo_35 rfl kb_33 ?_
        obtain ⟨q10, h⟩ := ck h
        refine r_iald (pc' := 38) C hk1 (vin q10) dX9_lendsTo_37 rfl ?_
        refine r_iload_n (pc' := 39) C dX9_lendsTo_38 rfl 3 rfl ?_
        refine r_icmp_ge (tgt := 45) (pc' := 42) C dX9_lendsTo_39 rfl rfl (fun c11 => ?_) (fun c11 => ?_)
        · rw [if_pos c11] at h
          refine r_aload_n (pc' := 46) C dX9_lendsTo_45 rfl 1 rfl ?_
          refine r_iload_n (pc' := 47) C dX9_lendsTo_46 rfl 2 rfl ?_
          obtain ⟨q12, h⟩ := ck h
          refine r_iald (pc' := 48) C hk1 (vin q12) dX9_lendsTo_47 rfl ?_
          refine r_iload_n (pc' := 49) C dX9_lendsTo_48 rfl 3 rfl ?_
          refine r_iadd (pc' := 50) C dX9_lendsTo_49 rfl ?_
          refine r_bipush (pc' := 52) C dX9_lendsTo_50 rfl kb_9 ?_
          refine r_icmp_le (tgt := 58) (pc' := 55) C dX9_lendsTo_52 rfl rfl (fun c13 => ?_) (fun c13 => ?_)
          · rw [if_pos c13] at h
            refine r_aload_n (pc' := 59) C dX9_lendsTo_58 rfl 1 rfl ?_
            refine r_iload_n (pc' := 60) C dX9_lendsTo_59 rfl 2 rfl ?_
            refine r_dup2 (pc' := 61) C dX9_lendsTo_60 rfl rfl rfl ?_
            obtain ⟨q14, h⟩ := ck h
            refine r_iald (pc' := 62) C hk1 (vin q14) dX9_lendsTo_61 rfl ?_
            refine r_iload_n (pc' := 63) C dX9_lendsTo_62 rfl 3 rfl ?_
            refine r_iadd (pc' := 64) C dX9_lendsTo_63 rfl ?_
            obtain ⟨q15, h⟩ := ck h
            obtain ⟨σ16, e17, h⟩ := bs h
            refine r_iast (pc' := 65) (σ1 := σ16) C hk1 (vin q15) dX9_lendsTo_64 rfl e17 ?_
            refine r_aload_n (pc' := 66) C dX9_lendsTo_65 rfl 1 rfl ?_
            refine r_bipush (pc' := 68) C dX9_lendsTo_66 rfl kb_33 ?_
            refine r_dup2 (pc' := 69) C dX9_lendsTo_68 rfl rfl rfl ?_
            obtain ⟨q18, h⟩ := ck h
            refine r_iald (pc' := 70) C hk1 (vin q18) dX9_lendsTo_69 rfl ?_
            refine r_iload_n (pc' := 71) C dX9_lendsTo_70 rfl 3 rfl ?_
            refine r_isub (pc' := 72) C dX9_lendsTo_71 rfl ?_
            obtain ⟨q19, h⟩ := ck h
            obtain ⟨σ20, e21, h⟩ := bs h
            refine r_iast (pc' := 73) (σ1 := σ20) C hk1 (vin q19) dX9_lendsTo_72 rfl e21 ?_
            refine r_aload_n (pc' := 74) C dX9_lendsTo_73 rfl 1 rfl ?_
            refine r_iload_n (pc' := 75) C dX9_lendsTo_74 rfl 2 rfl ?_
            obtain ⟨q22, h⟩ := ck h
            refine r_iald (pc' := 76) C hk1 (vin q22) dX9_lendsTo_75 rfl ?_
            have h := Option.some.inj h
            subst h
            exact r_ret C rfl dX9_lendsTo_76 hE
          · rw [if_neg c13] at h
            refine r_bipush (pc' := 57) C dX9_lendsTo_55 rfl kb_m4 ?_
            have h := Option.some.inj h
            subst h
            exact r_ret C rfl dX9_lendsTo_57 hE
        · rw [if_neg c11] at h
          refine r_bipush (pc' := 44) C dX9_lendsTo_42 rfl kb_m3 ?_
          have h := Option.some.inj h
          subst h
          exact r_ret C rfl dX9_lendsTo_44 hE
      · rw [if_pos c9] at h
        refine r_bipush (pc' := 33) C dX9_lendsTo_31 rfl kb_m2 ?_
        have h := Option.some.inj h
        subst h
        exact r_ret C rfl dX9_lendsTo_33 hE
    · rw [if_pos c6] at h
      refine r_iconst (pc' := 21) C dX9_lendsTo_20 rfl kc_m1 ?_
      have h := Option.some.inj h
      subst h
      exact r_ret C rfl dX9_lendsTo_21 hE

/-! BorrowedWeightModel.counted(I)I -/
def X9_counted (N : Nat)  (v1 : Int32) (σ : Sg) : Option (Int32 × Sg) :=
  if 0 ≤ v1 then ((X9_adds N v1 σ).bind fun r2 => (some (r2.1, r2.2))) else (some (v1, σ))
set_option maxRecDepth 100000 in
set_option maxHeartbeats 4000000 in
theorem X9_counted_ok {E : Ev}  {N : Nat} {v1 : Int32} {σ : Sg} {r : Int32 × Sg} (h : X9_counted N  v1 σ = some r) : Cm E 1 yX9_counted cX9_counted 2 (some .int) [.ref 149, .int v1] SH0 SH0 σ r.2 (some (.int r.1)) 0 0 := by
  refine Cm.intro (by decide +kernel) (Nat.le_of_ble_eq_true rfl) (fun _ h => by obtain ⟨_, _, _, _, _, _, h⟩ := h; exact h) (fun Z C hE => ?_)
  show Wm E Z 0 0 SH0 σ 0 [(0, .ref 149), (1, .int v1)] []
  unfold X9_counted at h
  refine r_iload_n (pc' := 1) C dX9_counted_0 rfl 1 rfl ?_
  refine r_if_ge (tgt := 8) (pc' := 4) C dX9_counted_1 rfl rfl (fun c1 => ?_) (fun c1 => ?_)
  · rw [if_pos c1] at h
    refine r_aload_n (pc' := 9) C dX9_counted_8 rfl 0 rfl ?_
    refine r_iload_n (pc' := 10) C dX9_counted_9 rfl 1 rfl ?_
    obtain ⟨r2, e3, h⟩ := bd h
    refine r_cV1 (pc' := 13) C (X9_adds_ok  e3) mlX9_216 ceX9_adds cvX9_adds sh_149 rfl rfl rfl (Nat.le_of_ble_eq_true rfl) rfl (Nat.le_of_ble_eq_true rfl) dX9_counted_10 rfl (kk := ?_)
    have h := Option.some.inj h
    subst h
    exact r_ret C rfl dX9_counted_13 hE
  · rw [if_neg c1] at h
    refine r_iload_n (pc' := 5) C dX9_counted_4 rfl 1 rfl ?_
    refine r_goto (tgt := 13) C dX9_counted_5 rfl ?_
    have h := Option.some.inj h
    subst h
    exact r_ret C rfl dX9_counted_13 hE

/-! BorrowedWeightModel.lends(II)I -/
def X9_lends (N : Nat)  (v1 : Int32) (v2 : Int32) (σ : Sg) : Option (Int32 × Sg) :=
  bnS (wi σ 149 0 0) fun σ1 => (X9_putsBy N σ1).bind fun r3 => ((X9_lendsTo N 153 v1 v2 r3).bind fun r5 => ((X9_counted N r5.1 r5.2).bind fun r7 => (some (r7.1, r7.2))))
set_option maxRecDepth 100000 in
set_option maxHeartbeats 4000000 in
theorem X9_lends_ok {E : Ev}  {N : Nat} {v1 : Int32} {v2 : Int32} {σ : Sg} {r : Int32 × Sg} (h : X9_lends N  v1 v2 σ = some r) : Cm E 4 yX9_lends cX9_lends 3 (some .int) [.ref 149, .int v1, .int v2] SH0 SH0 σ r.2 (some (.int r.1)) 0 0 := by
  refine Cm.intro (by decide +kernel) (Nat.le_of_ble_eq_true rfl) (fun _ h => by obtain ⟨_, _, _, _, _, _, h⟩ := h; exact h) (fun Z C hE => ?_)
  show Wm E Z 0 0 SH0 σ 0 [(0, .ref 149), (1, .int v1), (2, .int v2)] []
  unfold X9_lends at h
  refine r_aload_n (pc' := 1) C dX9_lends_0 rfl 0 rfl ?_
  refine r_iconst (pc' := 2) C dX9_lends_1 rfl kc_0 ?_
  obtain ⟨σ1, e2, h⟩ := bs h
  refine r_putI (pc' := 5) (σ1 := σ1) C fpX9_3 sh_149 rfl rfl rfl dX9_lends_2 rfl e2 ?_
  refine r_aload_n (pc' := 6) C dX9_lends_5 rfl 0 rfl ?_
  obtain ⟨r3, e4, h⟩ := bd h
  refine r_cV0 (pc' := 9) C (X9_putsBy_ok  e4) mlX9_209 ceX9_putsBy cvX9_putsBy sh_149 rfl rfl rfl (Nat.le_of_ble_eq_true rfl) rfl (Nat.le_of_ble_eq_true rfl) dX9_lends_6 rfl (kk := ?_)
  refine r_aload_n (pc' := 10) C dX9_lends_9 rfl 0 rfl ?_
  refine r_aload_n (pc' := 11) C dX9_lends_10 rfl 0 rfl ?_
  refine r_aload_n (pc' := 12) C dX9_lends_11 rfl 0 rfl ?_
  refine r_getR (pc' := 15) C flX9_34 sh_149 rfl dX9_lends_12 rfl ?_
  refine r_iload_n (pc' := 16) C dX9_lends_15 rfl 1 rfl ?_
  refine r_iload_n (pc' := 17) C dX9_lends_16 rfl 2 rfl ?_
  obtain ⟨r5, e6, h⟩ := bd h
  refine r_cV1 (pc' := 20) C (X9_lendsTo_ok mac_153 e6) mlX9_331 ceX9_lendsTo cvX9_lendsTo sh_149 rfl rfl rfl (Nat.le_of_ble_eq_true rfl) rfl (Nat.le_of_ble_eq_true rfl) dX9_lends_17 rfl (kk := ?_)
  obtain ⟨r7, e8, h⟩ := bd h
  refine r_cV1 (pc' := 23) C (X9_counted_ok  e8) mlX9_334 ceX9_counted cvX9_counted sh_149 rfl rfl rfl (Nat.le_of_ble_eq_true rfl) rfl (Nat.le_of_ble_eq_true rfl) dX9_lends_20 rfl (kk := ?_)
  have h := Option.some.inj h
  subst h
  exact r_ret C rfl dX9_lends_23 hE

/-! BorrowedWeightModel.givesBack(II)I -/
def X9_givesBack (N : Nat)  (v1 : Int32) (v2 : Int32) (σ : Sg) : Option (Int32 × Sg) :=
  (X9_isThing N v1 σ).bind fun r1 => (if r1 = 0 then (some ((-1), σ)) else ((X9_in N v2.toInt64 1 9 σ).bind fun r4 => (if r4 = 0 then (some ((-1), σ)) else (if inb v1 37 = true then if v2 ≤ (gi σ 153 v1.toNatClampNeg) then (if inb 33 37 = true then if ((gi σ 153 (33 : Int32).toNatClampNeg) + v2) ≤ 99 then (if inb v1 37 = true then if inb v1 37 = true then bnS (wi σ 153 v1.toNatClampNeg ((gi σ 153 v1.toNatClampNeg) - v2)) fun σ13 => if inb 33 37 = true then if inb 33 37 = true then bnS (wi σ13 153 (33 : Int32).toNatClampNeg ((gi σ13 153 (33 : Int32).toNatClampNeg) + v2)) fun σ17 => if inb 33 37 = true then some (gi σ17 153 (33 : Int32).toNatClampNeg, σ17) else none else none else none else none else none) else (some ((-3), σ)) else none) else (some ((-2), σ)) else none))))
set_option maxRecDepth 100000 in
set_option maxHeartbeats 4000000 in
theorem X9_givesBack_ok {E : Ev}  {N : Nat} {v1 : Int32} {v2 : Int32} {σ : Sg} {r : Int32 × Sg} (h : X9_givesBack N  v1 v2 σ = some r) : Cm E 2 yX9_givesBack cX9_givesBack 3 (some .int) [.ref 149, .int v1, .int v2] SH0 SH0 σ r.2 (some (.int r.1)) 0 0 := by
  refine Cm.intro (by decide +kernel) (Nat.le_of_ble_eq_true rfl) (fun _ h => by obtain ⟨_, _, _, _, _, _, h⟩ := h; exact h) (fun Z C hE => ?_)
  show Wm E Z 0 0 SH0 σ 0 [(0, .ref 149), (1, .int v1), (2, .int v2)] []
  unfold X9_givesBack at h
  refine r_aload_n (pc' := 1) C dX9_givesBack_0 rfl 0 rfl ?_
  refine r_iload_n (pc' := 2) C dX9_givesBack_1 rfl 1 rfl ?_
  obtain ⟨r1, e2, h⟩ := bd h
  refine r_cV1 (pc' := 5) C (X9_isThing_ok  e2) mlX9_123 ceX9_isThing cvX9_isThing sh_149 rfl rfl rfl (Nat.le_of_ble_eq_true rfl) rfl (Nat.le_of_ble_eq_true rfl) dX9_givesBack_2 rfl (kk := ?_)
  refine r_if_eq (tgt := 20) (pc' := 8) C dX9_givesBack_5 rfl rfl (fun c3 => ?_) (fun c3 => ?_)
  · rw [if_pos c3] at h
    refine r_iconst (pc' := 21) C dX9_givesBack_20 rfl kc_m1 ?_
    have h := Option.some.inj h
    subst h
    exact r_ret C rfl dX9_givesBack_21 hE
  · rw [if_neg c3] at h
    refine r_iload_n (pc' := 9) C dX9_givesBack_8 rfl 2 rfl ?_
    refine r_i2l (pc' := 10) C dX9_givesBack_9 rfl rfl ?_
    refine r_lconst (pc' := 11) C dX9_givesBack_10 rfl kl_1 ?_
    refine r_ldc2 (pc' := 14) C cnX9_317 dX9_givesBack_11 rfl ?_
    obtain ⟨r4, e5, h⟩ := bd h
    refine r_cS1 (pc' := 17) C (X9_in_ok  e5) mlX9_119 ceX9_in csX9_in rfl (Nat.le_of_ble_eq_true rfl) rfl (Nat.le_of_ble_eq_true rfl) dX9_givesBack_14 rfl (kk := ?_)
    refine r_if_ne (tgt := 22) (pc' := 20) C dX9_givesBack_17 rfl rfl (fun c6 => ?_) (fun c6 => ?_)
    · rw [if_neg c6] at h
      refine r_aload_n (pc' := 23) C dX9_givesBack_22 rfl 0 rfl ?_
      refine r_getR (pc' := 26) C flX9_34 sh_149 rfl dX9_givesBack_23 rfl ?_
      refine r_iload_n (pc' := 27) C dX9_givesBack_26 rfl 1 rfl ?_
      obtain ⟨q7, h⟩ := ck h
      refine r_iald (pc' := 28) C sh_153 (vin q7) dX9_givesBack_27 rfl ?_
      refine r_iload_n (pc' := 29) C dX9_givesBack_28 rfl 2 rfl ?_
      refine r_icmp_ge (tgt := 35) (pc' := 32) C dX9_givesBack_29 rfl rfl (fun c8 => ?_) (fun c8 => ?_)
      · rw [if_pos c8] at h
        refine r_aload_n (pc' := 36) C dX9_givesBack_35 rfl 0 rfl ?_
        refine r_getR (pc' := 39) C flX9_34 sh_149 rfl dX9_givesBack_36 rfl ?_
        refine r_bipush (pc' := 41) C dX9_givesBack_39 rfl kb_33 ?_
        obtain ⟨q9, h⟩ := ck h
        refine r_iald (pc' := 42) C sh_153 (vin q9) dX9_givesBack_41 rfl ?_
        refine r_iload_n (pc' := 43) C dX9_givesBack_42 rfl 2 rfl ?_
        refine r_iadd (pc' := 44) C dX9_givesBack_43 rfl ?_
        refine r_bipush (pc' := 46) C dX9_givesBack_44 rfl kb_99 ?_
        refine r_icmp_le (tgt := 52) (pc' := 49) C dX9_givesBack_46 rfl rfl (fun c10 => ?_) (fun c10 => ?_)
        · rw [if_pos c10] at h
          refine r_aload_n (pc' := 53) C dX9_givesBack_52 rfl 0 rfl ?_
          refine r_getR (pc' := 56) C flX9_34 sh_149 rfl dX9_givesBack_53 rfl ?_
          refine r_iload_n (pc' := 57) C dX9_givesBack_56 rfl 1 rfl ?_
          refine r_dup2 (pc' := 58) C dX9_givesBack_57 rfl rfl rfl ?_
          obtain ⟨q11, h⟩ := ck h
          refine r_iald (pc' := 59) C sh_153 (vin q11) dX9_givesBack_58 rfl ?_
          refine r_iload_n (pc' := 60) C dX9_givesBack_59 rfl 2 rfl ?_
          refine r_isub (pc' := 61) C dX9_givesBack_60 rfl ?_
          obtain ⟨q12, h⟩ := ck h
          obtain ⟨σ13, e14, h⟩ := bs h
          refine r_iast (pc' := 62) (σ1 := σ13) C sh_153 (vin q12) dX9_givesBack_61 rfl e14 ?_
          refine r_aload_n (pc' := 63) C dX9_givesBack_62 rfl 0 rfl ?_
          refine r_getR (pc' := 66) C flX9_34 sh_149 rfl dX9_givesBack_63 rfl ?_
          refine r_bipush (pc' := 68) C dX9_givesBack_66 rfl kb_33 ?_
          refine r_dup2 (pc' := 69) C dX9_givesBack_68 rfl rfl rfl ?_
          obtain ⟨q15, h⟩ := ck h
          refine r_iald (pc' := 70) C sh_153 (vin q15) dX9_givesBack_69 rfl ?_
          refine r_iload_n (pc' := 71) C dX9_givesBack_70 rfl 2 rfl ?_
          refine r_iadd (pc' := 72) C dX9_givesBack_71 rfl ?_
          obtain ⟨q16, h⟩ := ck h
          obtain ⟨σ17, e18, h⟩ := bs h
          refine r_iast (pc' := 73) (σ1 := σ17) C sh_153 (vin q16) dX9_givesBack_72 rfl e18 ?_
          refine r_aload_n (pc' := 74) C dX9_givesBack_73 rfl 0 rfl ?_
          refine r_getR (pc' := 77) C flX9_34 sh_149 rfl dX9_givesBack_74 rfl ?_
          refine r_bipush (pc' := 79) C dX9_givesBack_77 rfl kb_33 ?_
          obtain ⟨q19, h⟩ := ck h
          refine r_iald (pc' := 80) C sh_153 (vin q19) dX9_givesBack_79 rfl ?_
          have h := Option.some.inj h
          subst h
          exact r_ret C rfl dX9_givesBack_80 hE
        · rw [if_neg c10] at h
          refine r_bipush (pc' := 51) C dX9_givesBack_49 rfl kb_m3 ?_
          have h := Option.some.inj h
          subst h
          exact r_ret C rfl dX9_givesBack_51 hE
      · rw [if_neg c8] at h
        refine r_bipush (pc' := 34) C dX9_givesBack_32 rfl kb_m2 ?_
        have h := Option.some.inj h
        subst h
        exact r_ret C rfl dX9_givesBack_34 hE
    · rw [if_pos c6] at h
      refine r_iconst (pc' := 21) C dX9_givesBack_20 rfl kc_m1 ?_
      have h := Option.some.inj h
      subst h
      exact r_ret C rfl dX9_givesBack_21 hE

/-! BorrowedWeightModel.gives(II)I -/
def X9_gives (N : Nat)  (v1 : Int32) (v2 : Int32) (σ : Sg) : Option (Int32 × Sg) :=
  bnS (wi σ 149 0 0) fun σ1 => (X9_putsBy N σ1).bind fun r3 => ((X9_givesBack N v1 v2 r3).bind fun r5 => ((X9_counted N r5.1 r5.2).bind fun r7 => (some (r7.1, r7.2))))
set_option maxRecDepth 100000 in
set_option maxHeartbeats 4000000 in
theorem X9_gives_ok {E : Ev}  {N : Nat} {v1 : Int32} {v2 : Int32} {σ : Sg} {r : Int32 × Sg} (h : X9_gives N  v1 v2 σ = some r) : Cm E 3 yX9_gives cX9_gives 3 (some .int) [.ref 149, .int v1, .int v2] SH0 SH0 σ r.2 (some (.int r.1)) 0 0 := by
  refine Cm.intro (by decide +kernel) (Nat.le_of_ble_eq_true rfl) (fun _ h => by obtain ⟨_, _, _, _, _, _, h⟩ := h; exact h) (fun Z C hE => ?_)
  show Wm E Z 0 0 SH0 σ 0 [(0, .ref 149), (1, .int v1), (2, .int v2)] []
  unfold X9_gives at h
  refine r_aload_n (pc' := 1) C dX9_gives_0 rfl 0 rfl ?_
  refine r_iconst (pc' := 2) C dX9_gives_1 rfl kc_0 ?_
  obtain ⟨σ1, e2, h⟩ := bs h
  refine r_putI (pc' := 5) (σ1 := σ1) C fpX9_3 sh_149 rfl rfl rfl dX9_gives_2 rfl e2 ?_
  refine r_aload_n (pc' := 6) C dX9_gives_5 rfl 0 rfl ?_
  obtain ⟨r3, e4, h⟩ := bd h
  refine r_cV0 (pc' := 9) C (X9_putsBy_ok  e4) mlX9_209 ceX9_putsBy cvX9_putsBy sh_149 rfl rfl rfl (Nat.le_of_ble_eq_true rfl) rfl (Nat.le_of_ble_eq_true rfl) dX9_gives_6 rfl (kk := ?_)
  refine r_aload_n (pc' := 10) C dX9_gives_9 rfl 0 rfl ?_
  refine r_aload_n (pc' := 11) C dX9_gives_10 rfl 0 rfl ?_
  refine r_iload_n (pc' := 12) C dX9_gives_11 rfl 1 rfl ?_
  refine r_iload_n (pc' := 13) C dX9_gives_12 rfl 2 rfl ?_
  obtain ⟨r5, e6, h⟩ := bd h
  refine r_cV1 (pc' := 16) C (X9_givesBack_ok  e6) mlX9_337 ceX9_givesBack cvX9_givesBack sh_149 rfl rfl rfl (Nat.le_of_ble_eq_true rfl) rfl (Nat.le_of_ble_eq_true rfl) dX9_gives_13 rfl (kk := ?_)
  obtain ⟨r7, e8, h⟩ := bd h
  refine r_cV1 (pc' := 19) C (X9_counted_ok  e8) mlX9_334 ceX9_counted cvX9_counted sh_149 rfl rfl rfl (Nat.le_of_ble_eq_true rfl) rfl (Nat.le_of_ble_eq_true rfl) dX9_gives_16 rfl (kk := ?_)
  have h := Option.some.inj h
  subst h
  exact r_ret C rfl dX9_gives_19 hE

/-! BorrowedWeightModel.stringMany([I)I -/
def X9_stringMany_l4 (N : Nat) (k1 : Nat)  (σ : Sg) : Nat → Int32 → Int32 → Option (Int32)
  | 0, _, _ => none
  | n + 1, v2, v3 =>
    if (gi σ 149 3) ≤ v3 then (some (v2 / 2)) else (if inb (24 + v3) 37 = true then (J6_bitCount_0f7a4 N (gi σ k1 (24 + v3).toNatClampNeg) σ).bind fun r4 => (X9_stringMany_l4 N k1 σ n (v2 + r4) (v3 + 1)) else none)
set_option maxRecDepth 100000 in
set_option maxHeartbeats 4000000 in
theorem X9_stringMany_l4_ok {E : Ev} {k1 : Nat} (hk1 : MaAt SH0 k1) {N : Nat}  {σ : Sg}  : ∀ (n : Nat) (v2 : Int32) (v3 : Int32) (r : Int32), X9_stringMany_l4 N k1 σ n v2 v3 = some r → Gp E RX9 cX9_stringMany (some .int) 4 1 SH0 σ (some (.int r)) σ 4 [(0, .ref 149), (1, .ref k1), (2, .int v2), (3, .int v3)] [] := by
  intro n
  induction n with
  | zero => intro v2 v3 r h; cases h
  | succ n ih =>
    intro v2 v3 r h Z C hE
    unfold X9_stringMany_l4 at h
    refine r_iload_n (pc' := 5) C dX9_stringMany_4 rfl 3 rfl ?_
    refine r_aload_n (pc' := 6) C dX9_stringMany_5 rfl 0 rfl ?_
    refine r_getI (pc' := 9) C flX9_116 sh_149 rfl dX9_stringMany_6 rfl ?_
    refine r_icmp_ge (tgt := 30) (pc' := 12) C dX9_stringMany_9 rfl rfl (fun c1 => ?_) (fun c1 => ?_)
    · rw [if_pos c1] at h
      refine r_iload_n (pc' := 31) C dX9_stringMany_30 rfl 2 rfl ?_
      refine r_iconst (pc' := 32) C dX9_stringMany_31 rfl kc_2 ?_
      refine r_idiv (pc' := 33) C dX9_stringMany_32 rfl (by decide) ?_
      have h := Option.some.inj h
      subst h
      exact r_ret C rfl dX9_stringMany_33 hE
    · rw [if_neg c1] at h
      refine r_iload_n (pc' := 13) C dX9_stringMany_12 rfl 2 rfl ?_
      refine r_aload_n (pc' := 14) C dX9_stringMany_13 rfl 1 rfl ?_
      refine r_bipush (pc' := 16) C dX9_stringMany_14 rfl kb_24 ?_
      refine r_iload_n (pc' := 17) C dX9_stringMany_16 rfl 3 rfl ?_
      refine r_iadd (pc' := 18) C dX9_stringMany_17 rfl ?_
      obtain ⟨q3, h⟩ := ck h
      refine r_iald (pc' := 19) C hk1 (vin q3) dX9_stringMany_18 rfl ?_
      obtain ⟨r4, e5, h⟩ := bd h
      refine r_cS1 (pc' := 22) C (J6_bitCount_0f7a4_ok  e5) mlX9_135 ceJ6_bitCount_0f7a4 csJ6_bitCount_0f7a4 rfl (Nat.le_of_ble_eq_true rfl) rfl (Nat.le_of_ble_eq_true rfl) dX9_stringMany_19 rfl (kk := ?_)
      refine r_iadd (pc' := 23) C dX9_stringMany_22 rfl ?_
      refine r_istore_n (pc' := 24) (lv2 := [(2, .int (v2 + r4)), (0, .ref 149), (1, .ref k1), (3, .int v3)]) C dX9_stringMany_23 rfl rfl (Nat.le_of_ble_eq_true rfl) rfl ?_
      refine r_iinc (pc' := 27) (v := v3 + 1) (lv2 := [(3, .int (v3 + 1)), (2, .int (v2 + r4)), (0, .ref 149), (1, .ref k1)]) C dX9_stringMany_24 rfl 3 rfl rfl (Nat.le_of_ble_eq_true rfl) rfl ?_
      refine r_goto (tgt := 4) C dX9_stringMany_27 rfl ?_
      refine r_sub [2, 3, 1, 0] rfl ?_
      exact ih _ _ _ h Z C hE
def X9_stringMany (N : Nat) (k1 : Nat)  (σ : Sg) : Option (Int32) :=
  X9_stringMany_l4 N k1 σ N 0 0
set_option maxRecDepth 100000 in
set_option maxHeartbeats 4000000 in
theorem X9_stringMany_ok {E : Ev} {k1 : Nat} (hk1 : MaAt SH0 k1) {N : Nat}  {σ : Sg} {r : Int32} (h : X9_stringMany N k1  σ = some r) : Cm E 1 yX9_stringMany cX9_stringMany 4 (some .int) [.ref 149, .ref k1] SH0 SH0 σ σ (some (.int r)) 0 0 := by
  refine Cm.intro (by decide +kernel) (Nat.le_of_ble_eq_true rfl) (fun _ h => by obtain ⟨_, _, _, _, _, _, h⟩ := h; exact h) (fun Z C hE => ?_)
  show Wm E Z 0 0 SH0 σ 0 [(0, .ref 149), (1, .ref k1)] []
  unfold X9_stringMany at h
  refine r_iconst (pc' := 1) C dX9_stringMany_0 rfl kc_0 ?_
  refine r_istore_n (pc' := 2) (lv2 := [(2, .int 0), (0, .ref 149), (1, .ref k1)]) C dX9_stringMany_1 rfl rfl (Nat.le_of_ble_eq_true rfl) rfl ?_
  refine r_iconst (pc' := 3) C dX9_stringMany_2 rfl kc_0 ?_
  refine r_istore_n (pc' := 4) (lv2 := [(3, .int 0), (2, .int 0), (0, .ref 149), (1, .ref k1)]) C dX9_stringMany_3 rfl rfl (Nat.le_of_ble_eq_true rfl) rfl ?_
  refine r_sub [2, 3, 1, 0] rfl ?_
  exact X9_stringMany_l4_ok hk1 N _ _ _ h Z C hE

/-! BorrowedWeightModel.tiesTwo([III)I -/
def X9_tiesTwo (N : Nat) (k1 : Nat) (v2 : Int32) (v3 : Int32) (σ : Sg) : Option (Int32 × Sg) :=
  (X9_isThing N v2 σ).bind fun r1 => (if r1 = 0 then (some ((-1), σ)) else ((X9_isThing N v3 σ).bind fun r4 => (if r4 = 0 then (some ((-1), σ)) else (if v2 = v3 then (some ((-1), σ)) else ((X9_isHere N k1 v2 σ).bind fun r8 => (if r8 = 0 then (some ((-2), σ)) else ((X9_isHere N k1 v3 σ).bind fun r11 => (if r11 = 0 then (some ((-2), σ)) else ((X9_toggles N k1 v2 v3 σ).bind fun r14 => ((X9_stringMany N k1 r14).bind fun r16 => (some (r16, r14))))))))))))
set_option maxRecDepth 100000 in
set_option maxHeartbeats 4000000 in
theorem X9_tiesTwo_ok {E : Ev} {k1 : Nat} (hk1 : MaAt SH0 k1) {N : Nat} {v2 : Int32} {v3 : Int32} {σ : Sg} {r : Int32 × Sg} (h : X9_tiesTwo N k1 v2 v3 σ = some r) : Cm E 3 yX9_tiesTwo cX9_tiesTwo 4 (some .int) [.ref 149, .ref k1, .int v2, .int v3] SH0 SH0 σ r.2 (some (.int r.1)) 0 0 := by
  refine Cm.intro (by decide +kernel) (Nat.le_of_ble_eq_true rfl) (fun _ h => by obtain ⟨_, _, _, _, _, _, h⟩ := h; exact h) (fun Z C hE => ?_)
  show Wm E Z 0 0 SH0 σ 0 [(0, .ref 149), (1, .ref k1), (2, .int v2), (3, .int v3)] []
  unfold X9_tiesTwo at h
  refine r_aload_n (pc' := 1) C dX9_tiesTwo_0 rfl 0 rfl ?_
  refine r_iload_n (pc' := 2) C dX9_tiesTwo_1 rfl 2 rfl ?_
  obtain ⟨r1, e2, h⟩ := bd h
  refine r_cV1 (pc' := 5) C (X9_isThing_ok  e2) mlX9_123 ceX9_isThing cvX9_isThing sh_149 rfl rfl rfl (Nat.le_of_ble_eq_true rfl) rfl (Nat.le_of_ble_eq_true rfl) dX9_tiesTwo_2 rfl (kk := ?_)
  refine r_if_eq (tgt := 21) (pc' := 8) C dX9_tiesTwo_5 rfl rfl (fun c3 => ?_) (fun c3 => ?_)
  · rw [if_pos c3] at h
    refine r_iconst (pc' := 22) C dX9_tiesTwo_21 rfl kc_m1 ?_
    have h := Option.some.inj h
    subst h
    exact r_ret C rfl dX9_tiesTwo_22 hE
  · rw [if_neg c3] at h
    refine r_aload_n (pc' := 9) C dX9_tiesTwo_8 rfl 0 rfl ?_
    refine r_iload_n (pc' := 10) C dX9_tiesTwo_9 rfl 3 rfl ?_
    obtain ⟨r4, e5, h⟩ := bd h
    refine r_cV1 (pc' := 13) C (X9_isThing_ok  e5) mlX9_123 ceX9_isThing cvX9_isThing sh_149 rfl rfl rfl (Nat.le_of_ble_eq_true rfl) rfl (Nat.le_of_ble_eq_true rfl) dX9_tiesTwo_10 rfl (kk := ?_)
    refine r_if_eq (tgt := 21) (pc' := 16) C dX9_tiesTwo_13 rfl rfl (fun c6 => ?_) (fun c6 => ?_)
    · rw [if_pos c6] at h
      refine r_iconst (pc' := 22) C dX9_tiesTwo_21 rfl kc_m1 ?_
      have h := Option.some.inj h
      subst h
      exact r_ret C rfl dX9_tiesTwo_22 hE
    · rw [if_neg c6] at h
      refine r_iload_n (pc' := 17) C dX9_tiesTwo_16 rfl 2 rfl ?_
      refine r_iload_n (pc' := 18) C dX9_tiesTwo_17 rfl 3 rfl ?_
      refine r_icmp_ne (tgt := 23) (pc' := 21) C dX9_tiesTwo_18 rfl rfl (fun c7 => ?_) (fun c7 => ?_)
      · rw [if_neg c7] at h
        refine r_aload_n (pc' := 24) C dX9_tiesTwo_23 rfl 0 rfl ?_
        refine r_aload_n (pc' := 25) C dX9_tiesTwo_24 rfl 1 rfl ?_
        refine r_iload_n (pc' := 26) C dX9_tiesTwo_25 rfl 2 rfl ?_
        obtain ⟨r8, e9, h⟩ := bd h
        refine r_cV1 (pc' := 29) C (X9_isHere_ok hk1 e9) mlX9_202 ceX9_isHere cvX9_isHere sh_149 rfl rfl rfl (Nat.le_of_ble_eq_true rfl) rfl (Nat.le_of_ble_eq_true rfl) dX9_tiesTwo_26 rfl (kk := ?_)
        refine r_if_eq (tgt := 41) (pc' := 32) C dX9_tiesTwo_29 rfl rfl (fun c10 => ?_) (fun c10 => ?_)
        · rw [if_pos c10] at h
          refine r_bipush (pc' := 43) C dX9_tiesTwo_41 rfl kb_m2 ?_
          have h := Option.some.inj h
          subst h
          exact r_ret C rfl dX9_tiesTwo_43 hE
        · rw [if_neg c10] at h
          refine r_aload_n (pc' := 33) C dX9_tiesTwo_32 rfl 0 rfl ?_
          refine r_aload_n (pc' := 34) C dX9_tiesTwo_33 rfl 1 rfl ?_
          refine r_iload_n (pc' := 35) C dX9_tiesTwo_34 rfl 3 rfl ?_
          obtain ⟨r11, e12, h⟩ := bd h
          refine r_cV1 (pc' := 38) C (X9_isHere_ok hk1 e12) mlX9_202 ceX9_isHere cvX9_isHere sh_149 rfl rfl rfl (Nat.le_of_ble_eq_true rfl) rfl (Nat.le_of_ble_eq_true rfl) dX9_tiesTwo_35 rfl (kk := ?_)
          refine r_if_ne (tgt := 44) (pc' := 41) C dX9_tiesTwo_38 rfl rfl (fun c13 => ?_) (fun c13 => ?_)
          · rw [if_neg c13] at h
            refine r_aload_n (pc' := 45) C dX9_tiesTwo_44 rfl 1 rfl ?_
            refine r_iload_n (pc' := 46) C dX9_tiesTwo_45 rfl 2 rfl ?_
            refine r_iload_n (pc' := 47) C dX9_tiesTwo_46 rfl 3 rfl ?_
            obtain ⟨r14, e15, h⟩ := bd h
            refine r_cS0 (pc' := 50) C (X9_toggles_ok hk1 e15) mlX9_212 ceX9_toggles csX9_toggles rfl (Nat.le_of_ble_eq_true rfl) rfl (Nat.le_of_ble_eq_true rfl) dX9_tiesTwo_47 rfl (kk := ?_)
            refine r_aload_n (pc' := 51) C dX9_tiesTwo_50 rfl 0 rfl ?_
            refine r_aload_n (pc' := 52) C dX9_tiesTwo_51 rfl 1 rfl ?_
            obtain ⟨r16, e17, h⟩ := bd h
            refine r_cV1 (pc' := 55) C (X9_stringMany_ok hk1 e17) mlX9_319 ceX9_stringMany cvX9_stringMany sh_149 rfl rfl rfl (Nat.le_of_ble_eq_true rfl) rfl (Nat.le_of_ble_eq_true rfl) dX9_tiesTwo_52 rfl (kk := ?_)
            have h := Option.some.inj h
            subst h
            exact r_ret C rfl dX9_tiesTwo_55 hE
          · rw [if_pos c13] at h
            refine r_bipush (pc' := 43) C dX9_tiesTwo_41 rfl kb_m2 ?_
            have h := Option.some.inj h
            subst h
            exact r_ret C rfl dX9_tiesTwo_43 hE
      · rw [if_pos c7] at h
        refine r_iconst (pc' := 22) C dX9_tiesTwo_21 rfl kc_m1 ?_
        have h := Option.some.inj h
        subst h
        exact r_ret C rfl dX9_tiesTwo_22 hE

/-! BorrowedWeightModel.ties(II)I -/
def X9_ties (N : Nat)  (v1 : Int32) (v2 : Int32) (σ : Sg) : Option (Int32 × Sg) :=
  bnS (wi σ 149 0 0) fun σ1 => (X9_putsBy N σ1).bind fun r3 => ((X9_tiesTwo N 153 v1 v2 r3).bind fun r5 => ((X9_counted N r5.1 r5.2).bind fun r7 => (some (r7.1, r7.2))))
set_option maxRecDepth 100000 in
set_option maxHeartbeats 4000000 in
theorem X9_ties_ok {E : Ev}  {N : Nat} {v1 : Int32} {v2 : Int32} {σ : Sg} {r : Int32 × Sg} (h : X9_ties N  v1 v2 σ = some r) : Cm E 4 yX9_ties cX9_ties 3 (some .int) [.ref 149, .int v1, .int v2] SH0 SH0 σ r.2 (some (.int r.1)) 0 0 := by
  refine Cm.intro (by decide +kernel) (Nat.le_of_ble_eq_true rfl) (fun _ h => by obtain ⟨_, _, _, _, _, _, h⟩ := h; exact h) (fun Z C hE => ?_)
  show Wm E Z 0 0 SH0 σ 0 [(0, .ref 149), (1, .int v1), (2, .int v2)] []
  unfold X9_ties at h
  refine r_aload_n (pc' := 1) C dX9_ties_0 rfl 0 rfl ?_
  refine r_iconst (pc' := 2) C dX9_ties_1 rfl kc_0 ?_
  obtain ⟨σ1, e2, h⟩ := bs h
  refine r_putI (pc' := 5) (σ1 := σ1) C fpX9_3 sh_149 rfl rfl rfl dX9_ties_2 rfl e2 ?_
  refine r_aload_n (pc' := 6) C dX9_ties_5 rfl 0 rfl ?_
  obtain ⟨r3, e4, h⟩ := bd h
  refine r_cV0 (pc' := 9) C (X9_putsBy_ok  e4) mlX9_209 ceX9_putsBy cvX9_putsBy sh_149 rfl rfl rfl (Nat.le_of_ble_eq_true rfl) rfl (Nat.le_of_ble_eq_true rfl) dX9_ties_6 rfl (kk := ?_)
  refine r_aload_n (pc' := 10) C dX9_ties_9 rfl 0 rfl ?_
  refine r_aload_n (pc' := 11) C dX9_ties_10 rfl 0 rfl ?_
  refine r_aload_n (pc' := 12) C dX9_ties_11 rfl 0 rfl ?_
  refine r_getR (pc' := 15) C flX9_34 sh_149 rfl dX9_ties_12 rfl ?_
  refine r_iload_n (pc' := 16) C dX9_ties_15 rfl 1 rfl ?_
  refine r_iload_n (pc' := 17) C dX9_ties_16 rfl 2 rfl ?_
  obtain ⟨r5, e6, h⟩ := bd h
  refine r_cV1 (pc' := 20) C (X9_tiesTwo_ok mac_153 e6) mlX9_340 ceX9_tiesTwo cvX9_tiesTwo sh_149 rfl rfl rfl (Nat.le_of_ble_eq_true rfl) rfl (Nat.le_of_ble_eq_true rfl) dX9_ties_17 rfl (kk := ?_)
  obtain ⟨r7, e8, h⟩ := bd h
  refine r_cV1 (pc' := 23) C (X9_counted_ok  e8) mlX9_334 ceX9_counted cvX9_counted sh_149 rfl rfl rfl (Nat.le_of_ble_eq_true rfl) rfl (Nat.le_of_ble_eq_true rfl) dX9_ties_20 rfl (kk := ?_)
  have h := Option.some.inj h
  subst h
  exact r_ret C rfl dX9_ties_23 hE

/-! BorrowedWeightModel.paysAll(I)I -/
def X9_paysAll (N : Nat)  (v1 : Int32) (σ : Sg) : Option (Int32 × Sg) :=
  (X9_isThing N v1 σ).bind fun r1 => (if r1 = 0 then (some ((-1), σ)) else (if inb (16 + v1) 37 = true then if inb (16 + v1) 37 = true then bnS (wi σ 153 (16 + v1).toNatClampNeg 0) fun σ6 => if inb 34 37 = true then (J9_min_7cf53 N 9999 ((gi σ6 153 (34 : Int32).toNatClampNeg) + (gi σ 153 (16 + v1).toNatClampNeg)) σ6).bind fun r9 => (if inb 34 37 = true then bnS (wi σ6 153 (34 : Int32).toNatClampNeg r9) fun σ12 => if (gi σ 153 (16 + v1).toNatClampNeg) = 0 then (some ((-2), σ12)) else (some (gi σ 153 (16 + v1).toNatClampNeg, σ12)) else none) else none else none else none))
set_option maxRecDepth 100000 in
set_option maxHeartbeats 4000000 in
theorem X9_paysAll_ok {E : Ev}  {N : Nat} {v1 : Int32} {σ : Sg} {r : Int32 × Sg} (h : X9_paysAll N  v1 σ = some r) : Cm E 2 yX9_paysAll cX9_paysAll 3 (some .int) [.ref 149, .int v1] SH0 SH0 σ r.2 (some (.int r.1)) 0 0 := by
  refine Cm.intro (by decide +kernel) (Nat.le_of_ble_eq_true rfl) (fun _ h => by obtain ⟨_, _, _, _, _, _, h⟩ := h; exact h) (fun Z C hE => ?_)
  show Wm E Z 0 0 SH0 σ 0 [(0, .ref 149), (1, .int v1)] []
  unfold X9_paysAll at h
  refine r_aload_n (pc' := 1) C dX9_paysAll_0 rfl 0 rfl ?_
  refine r_iload_n (pc' := 2) C dX9_paysAll_1 rfl 1 rfl ?_
  obtain ⟨r1, e2, h⟩ := bd h
  refine r_cV1 (pc' := 5) C (X9_isThing_ok  e2) mlX9_123 ceX9_isThing cvX9_isThing sh_149 rfl rfl rfl (Nat.le_of_ble_eq_true rfl) rfl (Nat.le_of_ble_eq_true rfl) dX9_paysAll_2 rfl (kk := ?_)
  refine r_if_ne (tgt := 10) (pc' := 8) C dX9_paysAll_5 rfl rfl (fun c3 => ?_) (fun c3 => ?_)
  · rw [if_neg c3] at h
    refine r_aload_n (pc' := 11) C dX9_paysAll_10 rfl 0 rfl ?_
    refine r_getR (pc' := 14) C flX9_34 sh_149 rfl dX9_paysAll_11 rfl ?_
    refine r_bipush (pc' := 16) C dX9_paysAll_14 rfl kb_16 ?_
    refine r_iload_n (pc' := 17) C dX9_paysAll_16 rfl 1 rfl ?_
    refine r_iadd (pc' := 18) C dX9_paysAll_17 rfl ?_
    obtain ⟨q4, h⟩ := ck h
    refine r_iald (pc' := 19) C sh_153 (vin q4) dX9_paysAll_18 rfl ?_
    refine r_istore_n (pc' := 20) (lv2 := [(2, .int (gi σ 153 (16 + v1).toNatClampNeg)), (0, .ref 149), (1, .int v1)]) C dX9_paysAll_19 rfl rfl (Nat.le_of_ble_eq_true rfl) rfl ?_
    refine r_aload_n (pc' := 21) C dX9_paysAll_20 rfl 1 rfl ?_
    refine r_getR (pc' := 24) C flX9_34 sh_149 rfl dX9_paysAll_21 rfl ?_
    refine r_bipush (pc' := 26) C dX9_paysAll_24 rfl kb_16 ?_
    refine r_iload_n (pc' := 27) C dX9_paysAll_26 rfl 2 rfl ?_
    refine r_iadd (pc' := 28) C dX9_paysAll_27 rfl ?_
    refine r_iconst (pc' := 29) C dX9_paysAll_28 rfl kc_0 ?_
    obtain ⟨q5, h⟩ := ck h
    obtain ⟨σ6, e7, h⟩ := bs h
    refine r_iast (pc' := 30) (σ1 := σ6) C sh_153 (vin q5) dX9_paysAll_29 rfl e7 ?_
    refine r_aload_n (pc' := 31) C dX9_paysAll_30 rfl 1 rfl ?_
    refine r_getR (pc' := 34) C flX9_34 sh_149 rfl dX9_paysAll_31 rfl ?_
    refine r_bipush (pc' := 36) C dX9_paysAll_34 rfl kb_34 ?_
    refine r_sipush (pc' := 39) C dX9_paysAll_36 rfl ks_9999 ?_
    refine r_aload_n (pc' := 40) C dX9_paysAll_39 rfl 1 rfl ?_
    refine r_getR (pc' := 43) C flX9_34 sh_149 rfl dX9_paysAll_40 rfl ?_
    refine r_bipush (pc' := 45) C dX9_paysAll_43 rfl kb_34 ?_
    obtain ⟨q8, h⟩ := ck h
    refine r_iald (pc' := 46) C sh_153 (vin q8) dX9_paysAll_45 rfl ?_
    refine r_iload_n (pc' := 47) C dX9_paysAll_46 rfl 0 rfl ?_
    refine r_iadd (pc' := 48) C dX9_paysAll_47 rfl ?_
    obtain ⟨r9, e10, h⟩ := bd h
    refine r_cS1 (pc' := 51) C (J9_min_7cf53_ok  e10) mlX9_150 ceJ9_min_7cf53 csJ9_min_7cf53 rfl (Nat.le_of_ble_eq_true rfl) rfl (Nat.le_of_ble_eq_true rfl) dX9_paysAll_48 rfl (kk := ?_)
    obtain ⟨q11, h⟩ := ck h
    obtain ⟨σ12, e13, h⟩ := bs h
    refine r_iast (pc' := 52) (σ1 := σ12) C sh_153 (vin q11) dX9_paysAll_51 rfl e13 ?_
    refine r_iload_n (pc' := 53) C dX9_paysAll_52 rfl 0 rfl ?_
    refine r_if_ne (tgt := 61) (pc' := 56) C dX9_paysAll_53 rfl rfl (fun c14 => ?_) (fun c14 => ?_)
    · rw [if_neg c14] at h
      refine r_iload_n (pc' := 62) C dX9_paysAll_61 rfl 0 rfl ?_
      have h := Option.some.inj h
      subst h
      exact r_ret C rfl dX9_paysAll_62 hE
    · rw [if_pos c14] at h
      refine r_bipush (pc' := 58) C dX9_paysAll_56 rfl kb_m2 ?_
      refine r_goto (tgt := 62) C dX9_paysAll_58 rfl ?_
      have h := Option.some.inj h
      subst h
      exact r_ret C rfl dX9_paysAll_62 hE
  · rw [if_pos c3] at h
    refine r_iconst (pc' := 9) C dX9_paysAll_8 rfl kc_m1 ?_
    have h := Option.some.inj h
    subst h
    exact r_ret C rfl dX9_paysAll_9 hE

/-! BorrowedWeightModel.pays(I)I -/
def X9_pays (N : Nat)  (v1 : Int32) (σ : Sg) : Option (Int32 × Sg) :=
  bnS (wi σ 149 0 0) fun σ1 => (X9_putsBy N σ1).bind fun r3 => ((X9_paysAll N v1 r3).bind fun r5 => ((X9_counted N r5.1 r5.2).bind fun r7 => (some (r7.1, r7.2))))
set_option maxRecDepth 100000 in
set_option maxHeartbeats 4000000 in
theorem X9_pays_ok {E : Ev}  {N : Nat} {v1 : Int32} {σ : Sg} {r : Int32 × Sg} (h : X9_pays N  v1 σ = some r) : Cm E 3 yX9_pays cX9_pays 2 (some .int) [.ref 149, .int v1] SH0 SH0 σ r.2 (some (.int r.1)) 0 0 := by
  refine Cm.intro (by decide +kernel) (Nat.le_of_ble_eq_true rfl) (fun _ h => by obtain ⟨_, _, _, _, _, _, h⟩ := h; exact h) (fun Z C hE => ?_)
  show Wm E Z 0 0 SH0 σ 0 [(0, .ref 149), (1, .int v1)] []
  unfold X9_pays at h
  refine r_aload_n (pc' := 1) C dX9_pays_0 rfl 0 rfl ?_
  refine r_iconst (pc' := 2) C dX9_pays_1 rfl kc_0 ?_
  obtain ⟨σ1, e2, h⟩ := bs h
  refine r_putI (pc' := 5) (σ1 := σ1) C fpX9_3 sh_149 rfl rfl rfl dX9_pays_2 rfl e2 ?_
  refine r_aload_n (pc' := 6) C dX9_pays_5 rfl 0 rfl ?_
  obtain ⟨r3, e4, h⟩ := bd h
  refine r_cV0 (pc' := 9) C (X9_putsBy_ok  e4) mlX9_209 ceX9_putsBy cvX9_putsBy sh_149 rfl rfl rfl (Nat.le_of_ble_eq_true rfl) rfl (Nat.le_of_ble_eq_true rfl) dX9_pays_6 rfl (kk := ?_)
  refine r_aload_n (pc' := 10) C dX9_pays_9 rfl 0 rfl ?_
  refine r_aload_n (pc' := 11) C dX9_pays_10 rfl 0 rfl ?_
  refine r_iload_n (pc' := 12) C dX9_pays_11 rfl 1 rfl ?_
  obtain ⟨r5, e6, h⟩ := bd h
  refine r_cV1 (pc' := 15) C (X9_paysAll_ok  e6) mlX9_343 ceX9_paysAll cvX9_paysAll sh_149 rfl rfl rfl (Nat.le_of_ble_eq_true rfl) rfl (Nat.le_of_ble_eq_true rfl) dX9_pays_12 rfl (kk := ?_)
  obtain ⟨r7, e8, h⟩ := bd h
  refine r_cV1 (pc' := 18) C (X9_counted_ok  e8) mlX9_334 ceX9_counted cvX9_counted sh_149 rfl rfl rfl (Nat.le_of_ble_eq_true rfl) rfl (Nat.le_of_ble_eq_true rfl) dX9_pays_15 rfl (kk := ?_)
  have h := Option.some.inj h
  subst h
  exact r_ret C rfl dX9_pays_18 hE

/-! BorrowedWeightModel.digs(I)I -/
def X9_digs (N : Nat)  (v1 : Int32) (σ : Sg) : Option (Int32 × Sg) :=
  bnS (wi σ 149 0 0) fun σ1 => (X9_in N v1.toInt64 1 99 σ1).bind fun r3 => (if r3 = 0 then (some ((-1), σ1)) else (if inb 33 37 = true then if ((gi σ1 153 (33 : Int32).toNatClampNeg) + v1) ≤ 99 then ((X9_putsBy N σ1).bind fun r8 => (if inb 33 37 = true then if inb 33 37 = true then bnS (wi r8 153 (33 : Int32).toNatClampNeg ((gi r8 153 (33 : Int32).toNatClampNeg) + v1)) fun σ12 => if inb 33 37 = true then (X9_adds N (gi σ12 153 (33 : Int32).toNatClampNeg) σ12).bind fun r15 => (some (r15.1, r15.2)) else none else none else none)) else (some ((-3), σ1)) else none))
set_option maxRecDepth 100000 in
set_option maxHeartbeats 4000000 in
theorem X9_digs_ok {E : Ev}  {N : Nat} {v1 : Int32} {σ : Sg} {r : Int32 × Sg} (h : X9_digs N  v1 σ = some r) : Cm E 1 yX9_digs cX9_digs 2 (some .int) [.ref 149, .int v1] SH0 SH0 σ r.2 (some (.int r.1)) 0 0 := by
  refine Cm.intro (by decide +kernel) (Nat.le_of_ble_eq_true rfl) (fun _ h => by obtain ⟨_, _, _, _, _, _, h⟩ := h; exact h) (fun Z C hE => ?_)
  show Wm E Z 0 0 SH0 σ 0 [(0, .ref 149), (1, .int v1)] []
  unfold X9_digs at h
  refine r_aload_n (pc' := 1) C dX9_digs_0 rfl 0 rfl ?_
  refine r_iconst (pc' := 2) C dX9_digs_1 rfl kc_0 ?_
  obtain ⟨σ1, e2, h⟩ := bs h
  refine r_putI (pc' := 5) (σ1 := σ1) C fpX9_3 sh_149 rfl rfl rfl dX9_digs_2 rfl e2 ?_
  refine r_iload_n (pc' := 6) C dX9_digs_5 rfl 1 rfl ?_
  refine r_i2l (pc' := 7) C dX9_digs_6 rfl rfl ?_
  refine r_lconst (pc' := 8) C dX9_digs_7 rfl kl_1 ?_
  refine r_ldc2 (pc' := 11) C cnX9_346 dX9_digs_8 rfl ?_
  obtain ⟨r3, e4, h⟩ := bd h
  refine r_cS1 (pc' := 14) C (X9_in_ok  e4) mlX9_119 ceX9_in csX9_in rfl (Nat.le_of_ble_eq_true rfl) rfl (Nat.le_of_ble_eq_true rfl) dX9_digs_11 rfl (kk := ?_)
  refine r_if_ne (tgt := 19) (pc' := 17) C dX9_digs_14 rfl rfl (fun c5 => ?_) (fun c5 => ?_)
  · rw [if_neg c5] at h
    refine r_aload_n (pc' := 20) C dX9_digs_19 rfl 0 rfl ?_
    refine r_getR (pc' := 23) C flX9_34 sh_149 rfl dX9_digs_20 rfl ?_
    refine r_bipush (pc' := 25) C dX9_digs_23 rfl kb_33 ?_
    obtain ⟨q6, h⟩ := ck h
    refine r_iald (pc' := 26) C sh_153 (vin q6) dX9_digs_25 rfl ?_
    refine r_iload_n (pc' := 27) C dX9_digs_26 rfl 1 rfl ?_
    refine r_iadd (pc' := 28) C dX9_digs_27 rfl ?_
    refine r_bipush (pc' := 30) C dX9_digs_28 rfl kb_99 ?_
    refine r_icmp_le (tgt := 36) (pc' := 33) C dX9_digs_30 rfl rfl (fun c7 => ?_) (fun c7 => ?_)
    · rw [if_pos c7] at h
      refine r_aload_n (pc' := 37) C dX9_digs_36 rfl 0 rfl ?_
      obtain ⟨r8, e9, h⟩ := bd h
      refine r_cV0 (pc' := 40) C (X9_putsBy_ok  e9) mlX9_209 ceX9_putsBy cvX9_putsBy sh_149 rfl rfl rfl (Nat.le_of_ble_eq_true rfl) rfl (Nat.le_of_ble_eq_true rfl) dX9_digs_37 rfl (kk := ?_)
      refine r_aload_n (pc' := 41) C dX9_digs_40 rfl 0 rfl ?_
      refine r_getR (pc' := 44) C flX9_34 sh_149 rfl dX9_digs_41 rfl ?_
      refine r_bipush (pc' := 46) C dX9_digs_44 rfl kb_33 ?_
      refine r_dup2 (pc' := 47) C dX9_digs_46 rfl rfl rfl ?_
      obtain ⟨q10, h⟩ := ck h
      refine r_iald (pc' := 48) C sh_153 (vin q10) dX9_digs_47 rfl ?_
      refine r_iload_n (pc' := 49) C dX9_digs_48 rfl 1 rfl ?_
      refine r_iadd (pc' := 50) C dX9_digs_49 rfl ?_
      obtain ⟨q11, h⟩ := ck h
      obtain ⟨σ12, e13, h⟩ := bs h
      refine r_iast (pc' := 51) (σ1 := σ12) C sh_153 (vin q11) dX9_digs_50 rfl e13 ?_
      refine r_aload_n (pc' := 52) C dX9_digs_51 rfl 0 rfl ?_
      refine r_aload_n (pc' := 53) C dX9_digs_52 rfl 0 rfl ?_
      refine r_getR (pc' := 56) C flX9_34 sh_149 rfl dX9_digs_53 rfl ?_
      refine r_bipush (pc' := 58) C dX9_digs_56 rfl kb_33 ?_
      obtain ⟨q14, h⟩ := ck h
      refine r_iald (pc' := 59) C sh_153 (vin q14) dX9_digs_58 rfl ?_
      obtain ⟨r15, e16, h⟩ := bd h
      refine r_cV1 (pc' := 62) C (X9_adds_ok  e16) mlX9_216 ceX9_adds cvX9_adds sh_149 rfl rfl rfl (Nat.le_of_ble_eq_true rfl) rfl (Nat.le_of_ble_eq_true rfl) dX9_digs_59 rfl (kk := ?_)
      have h := Option.some.inj h
      subst h
      exact r_ret C rfl dX9_digs_62 hE
    · rw [if_neg c7] at h
      refine r_bipush (pc' := 35) C dX9_digs_33 rfl kb_m3 ?_
      have h := Option.some.inj h
      subst h
      exact r_ret C rfl dX9_digs_35 hE
  · rw [if_pos c5] at h
    refine r_iconst (pc' := 18) C dX9_digs_17 rfl kc_m1 ?_
    have h := Option.some.inj h
    subst h
    exact r_ret C rfl dX9_digs_18 hE

/-! BorrowedWeightModel.does(I)Z -/
def X9_does_l46 (N : Nat)    : Nat → Int32 → Int32 → Sg → Option (Int32 × Sg)
  | 0, _, _, _ => none
  | n + 1, v2, v3, σ =>
    if v2 ≤ v3 then (some (1, σ)) else ((X9_hourGoes N 153 σ).bind fun r5 => (X9_does_l46 N n v2 (v3 + 1) r5))
set_option maxRecDepth 100000 in
set_option maxHeartbeats 4000000 in
theorem X9_does_l46_ok {E : Ev}  {N : Nat}    : ∀ (n : Nat) (v2 : Int32) (v3 : Int32) (σ : Sg) (r : Int32 × Sg), X9_does_l46 N n v2 v3 σ = some r → Gp E RX9 cX9_does (some .boolean) 4 8 SH0 r.2 (some (.int r.1)) σ 46 [(0, .ref 149), (2, .int v2), (3, .int v3)] [] := by
  intro n
  induction n with
  | zero => intro v2 v3 σ r h; cases h
  | succ n ih =>
    intro v2 v3 σ r h Z C hE
    unfold X9_does_l46 at h
    refine r_iload_n (pc' := 47) C dX9_does_46 rfl 2 rfl ?_
    refine r_iload_n (pc' := 48) C dX9_does_47 rfl 1 rfl ?_
    refine r_icmp_ge (tgt := 65) (pc' := 51) C dX9_does_48 rfl rfl (fun c4 => ?_) (fun c4 => ?_)
    · rw [if_pos c4] at h
      refine r_iconst (pc' := 66) C dX9_does_65 rfl kc_1 ?_
      have h := Option.some.inj h
      subst h
      exact r_ret C rfl dX9_does_66 hE
    · rw [if_neg c4] at h
      refine r_aload_n (pc' := 52) C dX9_does_51 rfl 0 rfl ?_
      refine r_aload_n (pc' := 53) C dX9_does_52 rfl 0 rfl ?_
      refine r_getR (pc' := 56) C flX9_34 sh_149 rfl dX9_does_53 rfl ?_
      obtain ⟨r5, e6, h⟩ := bd h
      refine r_cV0 (pc' := 59) C (X9_hourGoes_ok mac_153 e6) mlX9_313 ceX9_hourGoes cvX9_hourGoes sh_149 rfl rfl rfl (Nat.le_of_ble_eq_true rfl) rfl (Nat.le_of_ble_eq_true rfl) dX9_does_56 rfl (kk := ?_)
      refine r_iinc (pc' := 62) (v := v3 + 1) (lv2 := [(3, .int (v3 + 1)), (0, .ref 149), (2, .int v2)]) C dX9_does_59 rfl 2 rfl rfl (Nat.le_of_ble_eq_true rfl) rfl ?_
      refine r_goto (tgt := 46) C dX9_does_62 rfl ?_
      refine r_sub [1, 2, 0] rfl ?_
      exact ih _ _ _ _ h Z C hE
def X9_does (N : Nat)  (v1 : Int32) (σ : Sg) : Option (Int32 × Sg) :=
  if inb v1 60 = true then if inb v1 60 = true then if (gi σ 162 v1.toNatClampNeg) = 0 then (X9_does_l46 N N (gi σ 163 v1.toNatClampNeg) 0 σ) else if (gi σ 162 v1.toNatClampNeg) = 1 then ((X9_paysAll N (gi σ 163 v1.toNatClampNeg) σ).bind fun r8 => (if r8.1 < 0 then (some (0, r8.2)) else (some (1, r8.2)))) else if (gi σ 162 v1.toNatClampNeg) = 2 then (if inb v1 60 = true then (X9_tiesTwo N 153 (gi σ 163 v1.toNatClampNeg) (gi σ 164 v1.toNatClampNeg) σ).bind fun r13 => (if r13.1 < 0 then (some (0, r13.2)) else (some (1, r13.2))) else none) else if (gi σ 162 v1.toNatClampNeg) = 3 then (if inb v1 60 = true then (X9_lendsTo N 153 (gi σ 163 v1.toNatClampNeg) (gi σ 164 v1.toNatClampNeg) σ).bind fun r18 => (if r18.1 < 0 then (some (0, r18.2)) else (some (1, r18.2))) else none) else (if inb v1 60 = true then (X9_givesBack N (gi σ 163 v1.toNatClampNeg) (gi σ 164 v1.toNatClampNeg) σ).bind fun r22 => (if r22.1 < 0 then (some (0, r22.2)) else (some (1, r22.2))) else none) else none else none
set_option maxRecDepth 100000 in
set_option maxHeartbeats 4000000 in
theorem X9_does_ok {E : Ev}  {N : Nat} {v1 : Int32} {σ : Sg} {r : Int32 × Sg} (h : X9_does N  v1 σ = some r) : Cm E 8 yX9_does cX9_does 4 (some .boolean) [.ref 149, .int v1] SH0 SH0 σ r.2 (some (.int r.1)) 0 0 := by
  refine Cm.intro (by decide +kernel) (Nat.le_of_ble_eq_true rfl) (fun _ h => by obtain ⟨_, _, _, _, _, _, h⟩ := h; exact h) (fun Z C hE => ?_)
  show Wm E Z 0 0 SH0 σ 0 [(0, .ref 149), (1, .int v1)] []
  unfold X9_does at h
  refine r_aload_n (pc' := 1) C dX9_does_0 rfl 0 rfl ?_
  refine r_getR (pc' := 4) C flX9_64 sh_149 rfl dX9_does_1 rfl ?_
  refine r_iload_n (pc' := 5) C dX9_does_4 rfl 1 rfl ?_
  obtain ⟨q1, h⟩ := ck h
  refine r_iald (pc' := 6) C sh_163 (vin q1) dX9_does_5 rfl ?_
  refine r_istore_n (pc' := 7) (lv2 := [(2, .int (gi σ 163 v1.toNatClampNeg)), (0, .ref 149), (1, .int v1)]) C dX9_does_6 rfl rfl (Nat.le_of_ble_eq_true rfl) rfl ?_
  refine r_aload_n (pc' := 8) C dX9_does_7 rfl 1 rfl ?_
  refine r_getR (pc' := 11) C flX9_61 sh_149 rfl dX9_does_8 rfl ?_
  refine r_iload_n (pc' := 12) C dX9_does_11 rfl 2 rfl ?_
  obtain ⟨q2, h⟩ := ck h
  refine r_iald (pc' := 13) C sh_162 (vin q2) dX9_does_12 rfl ?_
  by_cases c3 : (gi σ 162 v1.toNatClampNeg) = 0
  · rw [if_pos c3] at h
    refine r_tabIn (tgt := 44) C dX9_does_13 (by rw [c3]; decide) (by rw [c3]; decide) (by rw [c3]; rfl) rfl ?_
    refine r_iconst (pc' := 45) C dX9_does_44 rfl kc_0 ?_
    refine r_istore_n (pc' := 46) (lv2 := [(3, .int 0), (2, .int (gi σ 163 v1.toNatClampNeg)), (0, .ref 149), (1, .int v1)]) C dX9_does_45 rfl rfl (Nat.le_of_ble_eq_true rfl) rfl ?_
    refine r_sub [2, 1, 0] rfl ?_
    exact X9_does_l46_ok  N _ _ _ _ h Z C hE
  rw [if_neg c3] at h
  by_cases c7 : (gi σ 162 v1.toNatClampNeg) = 1
  · rw [if_pos c7] at h
    refine r_tabIn (tgt := 67) C dX9_does_13 (by rw [c7]; decide) (by rw [c7]; decide) (by rw [c7]; rfl) rfl ?_
    refine r_aload_n (pc' := 68) C dX9_does_67 rfl 1 rfl ?_
    refine r_iload_n (pc' := 69) C dX9_does_68 rfl 0 rfl ?_
    obtain ⟨r8, e9, h⟩ := bd h
    refine r_cV1 (pc' := 72) C (X9_paysAll_ok  e9) mlX9_343 ceX9_paysAll cvX9_paysAll sh_149 rfl rfl rfl (Nat.le_of_ble_eq_true rfl) rfl (Nat.le_of_ble_eq_true rfl) dX9_does_69 rfl (kk := ?_)
    refine r_if_lt (tgt := 79) (pc' := 75) C dX9_does_72 rfl rfl (fun c10 => ?_) (fun c10 => ?_)
    · rw [if_pos c10] at h
      refine r_iconst (pc' := 80) C dX9_does_79 rfl kc_0 ?_
      have h := Option.some.inj h
      subst h
      exact r_ret C rfl dX9_does_80 hE
    · rw [if_neg c10] at h
      refine r_iconst (pc' := 76) C dX9_does_75 rfl kc_1 ?_
      refine r_goto (tgt := 80) C dX9_does_76 rfl ?_
      have h := Option.some.inj h
      subst h
      exact r_ret C rfl dX9_does_80 hE
  rw [if_neg c7] at h
  by_cases c11 : (gi σ 162 v1.toNatClampNeg) = 2
  · rw [if_pos c11] at h
    refine r_tabIn (tgt := 81) C dX9_does_13 (by rw [c11]; decide) (by rw [c11]; decide) (by rw [c11]; rfl) rfl ?_
    refine r_aload_n (pc' := 82) C dX9_does_81 rfl 1 rfl ?_
    refine r_aload_n (pc' := 83) C dX9_does_82 rfl 1 rfl ?_
    refine r_getR (pc' := 86) C flX9_34 sh_149 rfl dX9_does_83 rfl ?_
    refine r_iload_n (pc' := 87) C dX9_does_86 rfl 0 rfl ?_
    refine r_aload_n (pc' := 88) C dX9_does_87 rfl 1 rfl ?_
    refine r_getR (pc' := 91) C flX9_67 sh_149 rfl dX9_does_88 rfl ?_
    refine r_iload_n (pc' := 92) C dX9_does_91 rfl 2 rfl ?_
    obtain ⟨q12, h⟩ := ck h
    refine r_iald (pc' := 93) C sh_164 (vin q12) dX9_does_92 rfl ?_
    obtain ⟨r13, e14, h⟩ := bd h
    refine r_cV1 (pc' := 96) C (X9_tiesTwo_ok mac_153 e14) mlX9_340 ceX9_tiesTwo cvX9_tiesTwo sh_149 rfl rfl rfl (Nat.le_of_ble_eq_true rfl) rfl (Nat.le_of_ble_eq_true rfl) dX9_does_93 rfl (kk := ?_)
    refine r_if_lt (tgt := 103) (pc' := 99) C dX9_does_96 rfl rfl (fun c15 => ?_) (fun c15 => ?_)
    · rw [if_pos c15] at h
      refine r_iconst (pc' := 104) C dX9_does_103 rfl kc_0 ?_
      have h := Option.some.inj h
      subst h
      exact r_ret C rfl dX9_does_104 hE
    · rw [if_neg c15] at h
      refine r_iconst (pc' := 100) C dX9_does_99 rfl kc_1 ?_
      refine r_goto (tgt := 104) C dX9_does_100 rfl ?_
      have h := Option.some.inj h
      subst h
      exact r_ret C rfl dX9_does_104 hE
  rw [if_neg c11] at h
  by_cases c16 : (gi σ 162 v1.toNatClampNeg) = 3
  · rw [if_pos c16] at h
    refine r_tabIn (tgt := 105) C dX9_does_13 (by rw [c16]; decide) (by rw [c16]; decide) (by rw [c16]; rfl) rfl ?_
    refine r_aload_n (pc' := 106) C dX9_does_105 rfl 1 rfl ?_
    refine r_aload_n (pc' := 107) C dX9_does_106 rfl 1 rfl ?_
    refine r_getR (pc' := 110) C flX9_34 sh_149 rfl dX9_does_107 rfl ?_
    refine r_iload_n (pc' := 111) C dX9_does_110 rfl 0 rfl ?_
    refine r_aload_n (pc' := 112) C dX9_does_111 rfl 1 rfl ?_
    refine r_getR (pc' := 115) C flX9_67 sh_149 rfl dX9_does_112 rfl ?_
    refine r_iload_n (pc' := 116) C dX9_does_115 rfl 2 rfl ?_
    obtain ⟨q17, h⟩ := ck h
    refine r_iald (pc' := 117) C sh_164 (vin q17) dX9_does_116 rfl ?_
    obtain ⟨r18, e19, h⟩ := bd h
    refine r_cV1 (pc' := 120) C (X9_lendsTo_ok mac_153 e19) mlX9_331 ceX9_lendsTo cvX9_lendsTo sh_149 rfl rfl rfl (Nat.le_of_ble_eq_true rfl) rfl (Nat.le_of_ble_eq_true rfl) dX9_does_117 rfl (kk := ?_)
    refine r_if_lt (tgt := 127) (pc' := 123) C dX9_does_120 rfl rfl (fun c20 => ?_) (fun c20 => ?_)
    · rw [if_pos c20] at h
      refine r_iconst (pc' := 128) C dX9_does_127 rfl kc_0 ?_
      have h := Option.some.inj h
      subst h
      exact r_ret C rfl dX9_does_128 hE
    · rw [if_neg c20] at h
      refine r_iconst (pc' := 124) C dX9_does_123 rfl kc_1 ?_
      refine r_goto (tgt := 128) C dX9_does_124 rfl ?_
      have h := Option.some.inj h
      subst h
      exact r_ret C rfl dX9_does_128 hE
  rw [if_neg c16] at h
  have o25 : (gi σ 162 v1.toNatClampNeg).toInt < 0 ∨ 3 < (gi σ 162 v1.toNatClampNeg).toInt := by
    refine tab_out (fun k h1 h2 => ?_) (by decide) (by decide)
    have hk : k = 0 ∨ k = 1 ∨ k = 2 ∨ k = 3 := by omega
    rcases hk with rfl | rfl | rfl | rfl
    · exact c3
    · exact c7
    · exact c11
    · exact c16
  refine r_tabOut (tgt := 129) C dX9_does_13 o25 rfl ?_
  refine r_aload_n (pc' := 130) C dX9_does_129 rfl 1 rfl ?_
  refine r_iload_n (pc' := 131) C dX9_does_130 rfl 0 rfl ?_
  refine r_aload_n (pc' := 132) C dX9_does_131 rfl 1 rfl ?_
  refine r_getR (pc' := 135) C flX9_67 sh_149 rfl dX9_does_132 rfl ?_
  refine r_iload_n (pc' := 136) C dX9_does_135 rfl 2 rfl ?_
  obtain ⟨q21, h⟩ := ck h
  refine r_iald (pc' := 137) C sh_164 (vin q21) dX9_does_136 rfl ?_
  obtain ⟨r22, e23, h⟩ := bd h
  refine r_cV1 (pc' := 140) C (X9_givesBack_ok  e23) mlX9_337 ceX9_givesBack cvX9_givesBack sh_149 rfl rfl rfl (Nat.le_of_ble_eq_true rfl) rfl (Nat.le_of_ble_eq_true rfl) dX9_does_137 rfl (kk := ?_)
  refine r_if_lt (tgt := 147) (pc' := 143) C dX9_does_140 rfl rfl (fun c24 => ?_) (fun c24 => ?_)
  · rw [if_pos c24] at h
    refine r_iconst (pc' := 148) C dX9_does_147 rfl kc_0 ?_
    have h := Option.some.inj h
    subst h
    exact r_ret C rfl dX9_does_148 hE
  · rw [if_neg c24] at h
    refine r_iconst (pc' := 144) C dX9_does_143 rfl kc_1 ?_
    refine r_goto (tgt := 148) C dX9_does_144 rfl ?_
    have h := Option.some.inj h
    subst h
    exact r_ret C rfl dX9_does_148 hE

/-! java/lang/Integer.numberOfTrailingZeros(I)I -/
def J6_numberOfTrailingZeros_0f7a4_j74 (N : Nat)   (v0 : Int32) (v1 : Int32) (σ : Sg) : Option (Int32) :=
  some (v1 + (ushr v0 1))
set_option maxRecDepth 100000 in
set_option maxHeartbeats 4000000 in
theorem J6_numberOfTrailingZeros_0f7a4_j74_ok {E : Ev} {S : List Sh}  {N : Nat}  {σ : Sg}   {v0 : Int32} {v1 : Int32} {r : Int32} (h : J6_numberOfTrailingZeros_0f7a4_j74 N   v0 v1 σ = some r) : Gp E RJ6 cJ6_numberOfTrailingZeros_0f7a4 (some .int) 2 0 S σ (some (.int r)) σ 74 [(0, .int v0), (1, .int v1)] [] := by
  intro Z C hE
  unfold J6_numberOfTrailingZeros_0f7a4_j74 at h
  refine r_iload_n (pc' := 75) C dJ6_numberOfTrailingZeros_0f7a4_74 rfl 1 rfl ?_
  refine r_iload_n (pc' := 76) C dJ6_numberOfTrailingZeros_0f7a4_75 rfl 0 rfl ?_
  refine r_iconst (pc' := 77) C dJ6_numberOfTrailingZeros_0f7a4_76 rfl kc_1 ?_
  refine r_iushr (pc' := 78) (v := ushr v0 1) C dJ6_numberOfTrailingZeros_0f7a4_77 rfl rfl ?_
  refine r_iadd (pc' := 79) C dJ6_numberOfTrailingZeros_0f7a4_78 rfl ?_
  have h := Option.some.inj h
  subst h
  exact r_ret C rfl dJ6_numberOfTrailingZeros_0f7a4_79 hE
def J6_numberOfTrailingZeros_0f7a4_j62 (N : Nat)   (v0 : Int32) (v1 : Int32) (σ : Sg) : Option (Int32) :=
  if v0 ≤ 4 then (J6_numberOfTrailingZeros_0f7a4_j74 N v0 v1 σ) else (J6_numberOfTrailingZeros_0f7a4_j74 N (ushr v0 2) (v1 + 2) σ)
set_option maxRecDepth 100000 in
set_option maxHeartbeats 4000000 in
theorem J6_numberOfTrailingZeros_0f7a4_j62_ok {E : Ev} {S : List Sh}  {N : Nat}  {σ : Sg}   {v0 : Int32} {v1 : Int32} {r : Int32} (h : J6_numberOfTrailingZeros_0f7a4_j62 N   v0 v1 σ = some r) : Gp E RJ6 cJ6_numberOfTrailingZeros_0f7a4 (some .int) 2 0 S σ (some (.int r)) σ 62 [(0, .int v0), (1, .int v1)] [] := by
  intro Z C hE
  unfold J6_numberOfTrailingZeros_0f7a4_j62 at h
  refine r_iload_n (pc' := 63) C dJ6_numberOfTrailingZeros_0f7a4_62 rfl 0 rfl ?_
  refine r_iconst (pc' := 64) C dJ6_numberOfTrailingZeros_0f7a4_63 rfl kc_4 ?_
  refine r_icmp_le (tgt := 74) (pc' := 67) C dJ6_numberOfTrailingZeros_0f7a4_64 rfl rfl (fun c5 => ?_) (fun c5 => ?_)
  · rw [if_pos c5] at h
    exact J6_numberOfTrailingZeros_0f7a4_j74_ok  h Z C hE
  · rw [if_neg c5] at h
    refine r_iinc (pc' := 70) (v := v1 + 2) (lv2 := [(1, .int (v1 + 2)), (0, .int v0)]) C dJ6_numberOfTrailingZeros_0f7a4_67 rfl 1 rfl rfl (Nat.le_of_ble_eq_true rfl) rfl ?_
    refine r_iload_n (pc' := 71) C dJ6_numberOfTrailingZeros_0f7a4_70 rfl 1 rfl ?_
    refine r_iconst (pc' := 72) C dJ6_numberOfTrailingZeros_0f7a4_71 rfl kc_2 ?_
    refine r_iushr (pc' := 73) (v := ushr v0 2) C dJ6_numberOfTrailingZeros_0f7a4_72 rfl rfl ?_
    refine r_istore_n (pc' := 74) (lv2 := [(0, .int (ushr v0 2)), (1, .int (v1 + 2))]) C dJ6_numberOfTrailingZeros_0f7a4_73 rfl rfl (Nat.le_of_ble_eq_true rfl) rfl ?_
    exact J6_numberOfTrailingZeros_0f7a4_j74_ok  h Z C hE
def J6_numberOfTrailingZeros_0f7a4_j49 (N : Nat)   (v0 : Int32) (v1 : Int32) (σ : Sg) : Option (Int32) :=
  if v0 ≤ 16 then (J6_numberOfTrailingZeros_0f7a4_j62 N v0 v1 σ) else (J6_numberOfTrailingZeros_0f7a4_j62 N (ushr v0 4) (v1 + 4) σ)
set_option maxRecDepth 100000 in
set_option maxHeartbeats 4000000 in
theorem J6_numberOfTrailingZeros_0f7a4_j49_ok {E : Ev} {S : List Sh}  {N : Nat}  {σ : Sg}   {v0 : Int32} {v1 : Int32} {r : Int32} (h : J6_numberOfTrailingZeros_0f7a4_j49 N   v0 v1 σ = some r) : Gp E RJ6 cJ6_numberOfTrailingZeros_0f7a4 (some .int) 2 0 S σ (some (.int r)) σ 49 [(0, .int v0), (1, .int v1)] [] := by
  intro Z C hE
  unfold J6_numberOfTrailingZeros_0f7a4_j49 at h
  refine r_iload_n (pc' := 50) C dJ6_numberOfTrailingZeros_0f7a4_49 rfl 0 rfl ?_
  refine r_bipush (pc' := 52) C dJ6_numberOfTrailingZeros_0f7a4_50 rfl kb_16 ?_
  refine r_icmp_le (tgt := 62) (pc' := 55) C dJ6_numberOfTrailingZeros_0f7a4_52 rfl rfl (fun c4 => ?_) (fun c4 => ?_)
  · rw [if_pos c4] at h
    exact J6_numberOfTrailingZeros_0f7a4_j62_ok  h Z C hE
  · rw [if_neg c4] at h
    refine r_iinc (pc' := 58) (v := v1 + 4) (lv2 := [(1, .int (v1 + 4)), (0, .int v0)]) C dJ6_numberOfTrailingZeros_0f7a4_55 rfl 1 rfl rfl (Nat.le_of_ble_eq_true rfl) rfl ?_
    refine r_iload_n (pc' := 59) C dJ6_numberOfTrailingZeros_0f7a4_58 rfl 1 rfl ?_
    refine r_iconst (pc' := 60) C dJ6_numberOfTrailingZeros_0f7a4_59 rfl kc_4 ?_
    refine r_iushr (pc' := 61) (v := ushr v0 4) C dJ6_numberOfTrailingZeros_0f7a4_60 rfl rfl ?_
    refine r_istore_n (pc' := 62) (lv2 := [(0, .int (ushr v0 4)), (1, .int (v1 + 4))]) C dJ6_numberOfTrailingZeros_0f7a4_61 rfl rfl (Nat.le_of_ble_eq_true rfl) rfl ?_
    exact J6_numberOfTrailingZeros_0f7a4_j62_ok  h Z C hE
def J6_numberOfTrailingZeros_0f7a4_j34 (N : Nat)   (v0 : Int32) (v1 : Int32) (σ : Sg) : Option (Int32) :=
  if v0 ≤ 256 then (J6_numberOfTrailingZeros_0f7a4_j49 N v0 v1 σ) else (J6_numberOfTrailingZeros_0f7a4_j49 N (ushr v0 8) (v1 + 8) σ)
set_option maxRecDepth 100000 in
set_option maxHeartbeats 4000000 in
theorem J6_numberOfTrailingZeros_0f7a4_j34_ok {E : Ev} {S : List Sh}  {N : Nat}  {σ : Sg}   {v0 : Int32} {v1 : Int32} {r : Int32} (h : J6_numberOfTrailingZeros_0f7a4_j34 N   v0 v1 σ = some r) : Gp E RJ6 cJ6_numberOfTrailingZeros_0f7a4 (some .int) 2 0 S σ (some (.int r)) σ 34 [(0, .int v0), (1, .int v1)] [] := by
  intro Z C hE
  unfold J6_numberOfTrailingZeros_0f7a4_j34 at h
  refine r_iload_n (pc' := 35) C dJ6_numberOfTrailingZeros_0f7a4_34 rfl 0 rfl ?_
  refine r_sipush (pc' := 38) C dJ6_numberOfTrailingZeros_0f7a4_35 rfl ks_256 ?_
  refine r_icmp_le (tgt := 49) (pc' := 41) C dJ6_numberOfTrailingZeros_0f7a4_38 rfl rfl (fun c3 => ?_) (fun c3 => ?_)
  · rw [if_pos c3] at h
    exact J6_numberOfTrailingZeros_0f7a4_j49_ok  h Z C hE
  · rw [if_neg c3] at h
    refine r_iinc (pc' := 44) (v := v1 + 8) (lv2 := [(1, .int (v1 + 8)), (0, .int v0)]) C dJ6_numberOfTrailingZeros_0f7a4_41 rfl 1 rfl rfl (Nat.le_of_ble_eq_true rfl) rfl ?_
    refine r_iload_n (pc' := 45) C dJ6_numberOfTrailingZeros_0f7a4_44 rfl 1 rfl ?_
    refine r_bipush (pc' := 47) C dJ6_numberOfTrailingZeros_0f7a4_45 rfl kb_8 ?_
    refine r_iushr (pc' := 48) (v := ushr v0 8) C dJ6_numberOfTrailingZeros_0f7a4_47 rfl rfl ?_
    refine r_istore_n (pc' := 49) (lv2 := [(0, .int (ushr v0 8)), (1, .int (v1 + 8))]) C dJ6_numberOfTrailingZeros_0f7a4_48 rfl rfl (Nat.le_of_ble_eq_true rfl) rfl ?_
    exact J6_numberOfTrailingZeros_0f7a4_j49_ok  h Z C hE
def J6_numberOfTrailingZeros_0f7a4 (N : Nat)  (v0 : Int32) (σ : Sg) : Option (Int32) :=
  if 0 < ((v0 ^^^ (-1)) &&& (v0 - 1)) then (if ((v0 ^^^ (-1)) &&& (v0 - 1)) ≤ 65536 then (J6_numberOfTrailingZeros_0f7a4_j34 N ((v0 ^^^ (-1)) &&& (v0 - 1)) 1 σ) else (J6_numberOfTrailingZeros_0f7a4_j34 N (ushr ((v0 ^^^ (-1)) &&& (v0 - 1)) 16) (1 + 16) σ)) else (some (((v0 ^^^ (-1)) &&& (v0 - 1)) &&& 32))
set_option maxRecDepth 100000 in
set_option maxHeartbeats 4000000 in
theorem J6_numberOfTrailingZeros_0f7a4_ok {E : Ev} {S : List Sh}  {N : Nat} {v0 : Int32} {σ : Sg} {r : Int32} (h : J6_numberOfTrailingZeros_0f7a4 N  v0 σ = some r) : Cm E 0 yJ6_numberOfTrailingZeros_0f7a4 cJ6_numberOfTrailingZeros_0f7a4 2 (some .int) [.int v0] S S σ σ (some (.int r)) 0 0 := by
  refine Cm.intro (by decide +kernel) (Nat.le_of_ble_eq_true rfl) (fun _ h => by obtain ⟨_, _, _, _, _, _, h⟩ := h; exact h) (fun Z C hE => ?_)
  show Wm E Z 0 0 S σ 0 [(0, .int v0)] []
  unfold J6_numberOfTrailingZeros_0f7a4 at h
  refine r_iload_n (pc' := 1) C dJ6_numberOfTrailingZeros_0f7a4_0 rfl 0 rfl ?_
  refine r_iconst (pc' := 2) C dJ6_numberOfTrailingZeros_0f7a4_1 rfl kc_m1 ?_
  refine r_ixor (pc' := 3) C dJ6_numberOfTrailingZeros_0f7a4_2 rfl ?_
  refine r_iload_n (pc' := 4) C dJ6_numberOfTrailingZeros_0f7a4_3 rfl 0 rfl ?_
  refine r_iconst (pc' := 5) C dJ6_numberOfTrailingZeros_0f7a4_4 rfl kc_1 ?_
  refine r_isub (pc' := 6) C dJ6_numberOfTrailingZeros_0f7a4_5 rfl ?_
  refine r_iand (pc' := 7) C dJ6_numberOfTrailingZeros_0f7a4_6 rfl ?_
  refine r_istore_n (pc' := 8) (lv2 := [(0, .int ((v0 ^^^ (-1)) &&& (v0 - 1)))]) C dJ6_numberOfTrailingZeros_0f7a4_7 rfl rfl (Nat.le_of_ble_eq_true rfl) rfl ?_
  refine r_iload_n (pc' := 9) C dJ6_numberOfTrailingZeros_0f7a4_8 rfl 0 rfl ?_
  refine r_if_gt (tgt := 17) (pc' := 12) C dJ6_numberOfTrailingZeros_0f7a4_9 rfl rfl (fun c1 => ?_) (fun c1 => ?_)
  · rw [if_pos c1] at h
    refine r_iconst (pc' := 18) C dJ6_numberOfTrailingZeros_0f7a4_17 rfl kc_1 ?_
    refine r_istore_n (pc' := 19) (lv2 := [(1, .int 1), (0, .int ((v0 ^^^ (-1)) &&& (v0 - 1)))]) C dJ6_numberOfTrailingZeros_0f7a4_18 rfl rfl (Nat.le_of_ble_eq_true rfl) rfl ?_
    refine r_iload_n (pc' := 20) C dJ6_numberOfTrailingZeros_0f7a4_19 rfl 1 rfl ?_
    refine r_ldcw (pc' := 23) C cnJ6_264 dJ6_numberOfTrailingZeros_0f7a4_20 rfl ?_
    refine r_icmp_le (tgt := 34) (pc' := 26) C dJ6_numberOfTrailingZeros_0f7a4_23 rfl rfl (fun c2 => ?_) (fun c2 => ?_)
    · rw [if_pos c2] at h
      refine r_sub [1, 0] rfl ?_
      exact J6_numberOfTrailingZeros_0f7a4_j34_ok  h Z C hE
    · rw [if_neg c2] at h
      refine r_iinc (pc' := 29) (v := 1 + 16) (lv2 := [(1, .int (1 + 16)), (0, .int ((v0 ^^^ (-1)) &&& (v0 - 1)))]) C dJ6_numberOfTrailingZeros_0f7a4_26 rfl 0 rfl rfl (Nat.le_of_ble_eq_true rfl) rfl ?_
      refine r_iload_n (pc' := 30) C dJ6_numberOfTrailingZeros_0f7a4_29 rfl 1 rfl ?_
      refine r_bipush (pc' := 32) C dJ6_numberOfTrailingZeros_0f7a4_30 rfl kb_16 ?_
      refine r_iushr (pc' := 33) (v := ushr ((v0 ^^^ (-1)) &&& (v0 - 1)) 16) C dJ6_numberOfTrailingZeros_0f7a4_32 rfl rfl ?_
      refine r_istore_n (pc' := 34) (lv2 := [(0, .int (ushr ((v0 ^^^ (-1)) &&& (v0 - 1)) 16)), (1, .int (1 + 16))]) C dJ6_numberOfTrailingZeros_0f7a4_33 rfl rfl (Nat.le_of_ble_eq_true rfl) rfl ?_
      exact J6_numberOfTrailingZeros_0f7a4_j34_ok  h Z C hE
  · rw [if_neg c1] at h
    refine r_iload_n (pc' := 13) C dJ6_numberOfTrailingZeros_0f7a4_12 rfl 0 rfl ?_
    refine r_bipush (pc' := 15) C dJ6_numberOfTrailingZeros_0f7a4_13 rfl kb_32 ?_
    refine r_iand (pc' := 16) C dJ6_numberOfTrailingZeros_0f7a4_15 rfl ?_
    have h := Option.some.inj h
    subst h
    exact r_ret C rfl dJ6_numberOfTrailingZeros_0f7a4_16 hE

/-! BorrowedWeightModel.firstOnes([I)I -/
def X9_firstOnes_l4 (N : Nat) (k1 : Nat)  (σ : Sg) : Nat → Int32 → Int32 → Option (Int32)
  | 0, _, _ => none
  | n + 1, v2, v3 =>
    if (gi σ 149 3) ≤ v3 then (some v2) else ((X9_bundle N k1 v3 σ).bind fun r2 => (if r2 = 0 then (X9_firstOnes_l4 N k1 σ n (v2 ||| 0) (v3 + 1)) else ((J6_numberOfTrailingZeros_0f7a4 N r2 σ).bind fun r5 => (if r5 = v3 then (X9_firstOnes_l4 N k1 σ n (v2 ||| (1 <<< (v3 &&& 31))) (v3 + 1)) else (X9_firstOnes_l4 N k1 σ n (v2 ||| 0) (v3 + 1))))))
set_option maxRecDepth 100000 in
set_option maxHeartbeats 4000000 in
theorem X9_firstOnes_l4_ok {E : Ev} {k1 : Nat} (hk1 : MaAt SH0 k1) {N : Nat}  {σ : Sg}  : ∀ (n : Nat) (v2 : Int32) (v3 : Int32) (r : Int32), X9_firstOnes_l4 N k1 σ n v2 v3 = some r → Gp E RX9 cX9_firstOnes (some .int) 5 2 SH0 σ (some (.int r)) σ 4 [(0, .ref 149), (1, .ref k1), (2, .int v2), (3, .int v3)] [] := by
  intro n
  induction n with
  | zero => intro v2 v3 r h; cases h
  | succ n ih =>
    intro v2 v3 r h Z C hE
    unfold X9_firstOnes_l4 at h
    refine r_iload_n (pc' := 5) C dX9_firstOnes_4 rfl 3 rfl ?_
    refine r_aload_n (pc' := 6) C dX9_firstOnes_5 rfl 0 rfl ?_
    refine r_getI (pc' := 9) C flX9_116 sh_149 rfl dX9_firstOnes_6 rfl ?_
    refine r_icmp_ge (tgt := 50) (pc' := 12) C dX9_firstOnes_9 rfl rfl (fun c1 => ?_) (fun c1 => ?_)
    · rw [if_pos c1] at h
      refine r_iload_n (pc' := 51) C dX9_firstOnes_50 rfl 2 rfl ?_
      have h := Option.some.inj h
      subst h
      exact r_ret C rfl dX9_firstOnes_51 hE
    · rw [if_neg c1] at h
      refine r_aload_n (pc' := 13) C dX9_firstOnes_12 rfl 0 rfl ?_
      refine r_aload_n (pc' := 14) C dX9_firstOnes_13 rfl 1 rfl ?_
      refine r_iload_n (pc' := 15) C dX9_firstOnes_14 rfl 3 rfl ?_
      obtain ⟨r2, e3, h⟩ := bd h
      refine r_cV1 (pc' := 18) C (X9_bundle_ok hk1 e3) mlX9_281 ceX9_bundle cvX9_bundle sh_149 rfl rfl rfl (Nat.le_of_ble_eq_true rfl) rfl (Nat.le_of_ble_eq_true rfl) dX9_firstOnes_15 rfl (kk := ?_)
      refine r_istore (pc' := 20) (lv2 := [(4, .int r2), (0, .ref 149), (1, .ref k1), (2, .int v2), (3, .int v3)]) C dX9_firstOnes_18 rfl (Nat.le_of_ble_eq_true rfl) rfl ?_
      refine r_iload_n (pc' := 21) C dX9_firstOnes_20 rfl 3 rfl ?_
      refine r_iload (pc' := 23) C dX9_firstOnes_21 rfl 0 rfl ?_
      refine r_if_eq (tgt := 41) (pc' := 26) C dX9_firstOnes_23 rfl rfl (fun c4 => ?_) (fun c4 => ?_)
      · rw [if_pos c4] at h
        refine r_iconst (pc' := 42) C dX9_firstOnes_41 rfl kc_0 ?_
        refine r_ior (pc' := 43) C dX9_firstOnes_42 rfl ?_
        refine r_istore_n (pc' := 44) (lv2 := [(2, .int (v2 ||| 0)), (4, .int r2), (0, .ref 149), (1, .ref k1), (3, .int v3)]) C dX9_firstOnes_43 rfl rfl (Nat.le_of_ble_eq_true rfl) rfl ?_
        refine r_iinc (pc' := 47) (v := v3 + 1) (lv2 := [(3, .int (v3 + 1)), (2, .int (v2 ||| 0)), (4, .int r2), (0, .ref 149), (1, .ref k1)]) C dX9_firstOnes_44 rfl 4 rfl rfl (Nat.le_of_ble_eq_true rfl) rfl ?_
        refine r_goto (tgt := 4) C dX9_firstOnes_47 rfl ?_
        refine r_sub [3, 4, 1, 0] rfl ?_
        exact ih _ _ _ h Z C hE
      · rw [if_neg c4] at h
        refine r_iload (pc' := 28) C dX9_firstOnes_26 rfl 0 rfl ?_
        obtain ⟨r5, e6, h⟩ := bd h
        refine r_cS1 (pc' := 31) C (J6_numberOfTrailingZeros_0f7a4_ok  e6) mlX9_284 ceJ6_numberOfTrailingZeros_0f7a4 csJ6_numberOfTrailingZeros_0f7a4 rfl (Nat.le_of_ble_eq_true rfl) rfl (Nat.le_of_ble_eq_true rfl) dX9_firstOnes_28 rfl (kk := ?_)
        refine r_iload_n (pc' := 32) C dX9_firstOnes_31 rfl 4 rfl ?_
        refine r_icmp_ne (tgt := 41) (pc' := 35) C dX9_firstOnes_32 rfl rfl (fun c7 => ?_) (fun c7 => ?_)
        · rw [if_neg c7] at h
          refine r_iconst (pc' := 42) C dX9_firstOnes_41 rfl kc_0 ?_
          refine r_ior (pc' := 43) C dX9_firstOnes_42 rfl ?_
          refine r_istore_n (pc' := 44) (lv2 := [(2, .int (v2 ||| 0)), (4, .int r2), (0, .ref 149), (1, .ref k1), (3, .int v3)]) C dX9_firstOnes_43 rfl rfl (Nat.le_of_ble_eq_true rfl) rfl ?_
          refine r_iinc (pc' := 47) (v := v3 + 1) (lv2 := [(3, .int (v3 + 1)), (2, .int (v2 ||| 0)), (4, .int r2), (0, .ref 149), (1, .ref k1)]) C dX9_firstOnes_44 rfl 4 rfl rfl (Nat.le_of_ble_eq_true rfl) rfl ?_
          refine r_goto (tgt := 4) C dX9_firstOnes_47 rfl ?_
          refine r_sub [3, 4, 1, 0] rfl ?_
          exact ih _ _ _ h Z C hE
        · rw [if_pos c7] at h
          refine r_iconst (pc' := 36) C dX9_firstOnes_35 rfl kc_1 ?_
          refine r_iload_n (pc' := 37) C dX9_firstOnes_36 rfl 4 rfl ?_
          refine r_ishl (pc' := 38) C dX9_firstOnes_37 rfl ?_
          refine r_goto (tgt := 42) C dX9_firstOnes_38 rfl ?_
          refine r_ior (pc' := 43) C dX9_firstOnes_42 rfl ?_
          refine r_istore_n (pc' := 44) (lv2 := [(2, .int (v2 ||| (1 <<< (v3 &&& 31)))), (4, .int r2), (0, .ref 149), (1, .ref k1), (3, .int v3)]) C dX9_firstOnes_43 rfl rfl (Nat.le_of_ble_eq_true rfl) rfl ?_
          refine r_iinc (pc' := 47) (v := v3 + 1) (lv2 := [(3, .int (v3 + 1)), (2, .int (v2 ||| (1 <<< (v3 &&& 31)))), (4, .int r2), (0, .ref 149), (1, .ref k1)]) C dX9_firstOnes_44 rfl 4 rfl rfl (Nat.le_of_ble_eq_true rfl) rfl ?_
          refine r_goto (tgt := 4) C dX9_firstOnes_47 rfl ?_
          refine r_sub [3, 4, 1, 0] rfl ?_
          exact ih _ _ _ h Z C hE
def X9_firstOnes (N : Nat) (k1 : Nat)  (σ : Sg) : Option (Int32) :=
  X9_firstOnes_l4 N k1 σ N 0 0
set_option maxRecDepth 100000 in
set_option maxHeartbeats 4000000 in
theorem X9_firstOnes_ok {E : Ev} {k1 : Nat} (hk1 : MaAt SH0 k1) {N : Nat}  {σ : Sg} {r : Int32} (h : X9_firstOnes N k1  σ = some r) : Cm E 2 yX9_firstOnes cX9_firstOnes 5 (some .int) [.ref 149, .ref k1] SH0 SH0 σ σ (some (.int r)) 0 0 := by
  refine Cm.intro (by decide +kernel) (Nat.le_of_ble_eq_true rfl) (fun _ h => by obtain ⟨_, _, _, _, _, _, h⟩ := h; exact h) (fun Z C hE => ?_)
  show Wm E Z 0 0 SH0 σ 0 [(0, .ref 149), (1, .ref k1)] []
  unfold X9_firstOnes at h
  refine r_iconst (pc' := 1) C dX9_firstOnes_0 rfl kc_0 ?_
  refine r_istore_n (pc' := 2) (lv2 := [(2, .int 0), (0, .ref 149), (1, .ref k1)]) C dX9_firstOnes_1 rfl rfl (Nat.le_of_ble_eq_true rfl) rfl ?_
  refine r_iconst (pc' := 3) C dX9_firstOnes_2 rfl kc_0 ?_
  refine r_istore_n (pc' := 4) (lv2 := [(3, .int 0), (2, .int 0), (0, .ref 149), (1, .ref k1)]) C dX9_firstOnes_3 rfl rfl (Nat.le_of_ble_eq_true rfl) rfl ?_
  refine r_sub [2, 3, 1, 0] rfl ?_
  exact X9_firstOnes_l4_ok hk1 N _ _ _ h Z C hE

/-! BorrowedWeightModel.floats()I -/
def X9_floats (N : Nat)   (σ : Sg) : Option (Int32 × Sg) :=
  bnS (wi σ 149 0 0) fun σ1 => (X9_floating N 153 σ1).bind fun r3 => (bnS (wi r3.2 149 1 0) fun σ5 => (X9_firstOnes N 153 σ5).bind fun r7 => ((J6_bitCount_0f7a4 N r7 σ5).bind fun r9 => ((X9_enters N r9.toInt64 σ5).bind fun r11 => ((X9_firstOnes N 153 r11).bind fun r13 => ((J6_bitCount_0f7a4 N (r13 &&& r3.1) r11).bind fun r15 => ((X9_enters N r15.toInt64 r11).bind fun r17 => (some (r3.1, r17))))))))
set_option maxRecDepth 100000 in
set_option maxHeartbeats 4000000 in
theorem X9_floats_ok {E : Ev}  {N : Nat}  {σ : Sg} {r : Int32 × Sg} (h : X9_floats N   σ = some r) : Cm E 7 yX9_floats cX9_floats 2 (some .int) [.ref 149] SH0 SH0 σ r.2 (some (.int r.1)) 0 0 := by
  refine Cm.intro (by decide +kernel) (Nat.le_of_ble_eq_true rfl) (fun _ h => by obtain ⟨_, _, _, _, _, _, h⟩ := h; exact h) (fun Z C hE => ?_)
  show Wm E Z 0 0 SH0 σ 0 [(0, .ref 149)] []
  unfold X9_floats at h
  refine r_aload_n (pc' := 1) C dX9_floats_0 rfl 0 rfl ?_
  refine r_iconst (pc' := 2) C dX9_floats_1 rfl kc_0 ?_
  obtain ⟨σ1, e2, h⟩ := bs h
  refine r_putI (pc' := 5) (σ1 := σ1) C fpX9_3 sh_149 rfl rfl rfl dX9_floats_2 rfl e2 ?_
  refine r_aload_n (pc' := 6) C dX9_floats_5 rfl 0 rfl ?_
  refine r_aload_n (pc' := 7) C dX9_floats_6 rfl 0 rfl ?_
  refine r_getR (pc' := 10) C flX9_34 sh_149 rfl dX9_floats_7 rfl ?_
  obtain ⟨r3, e4, h⟩ := bd h
  refine r_cV1 (pc' := 13) C (X9_floating_ok mac_153 e4) mlX9_303 ceX9_floating cvX9_floating sh_149 rfl rfl rfl (Nat.le_of_ble_eq_true rfl) rfl (Nat.le_of_ble_eq_true rfl) dX9_floats_10 rfl (kk := ?_)
  refine r_istore_n (pc' := 14) (lv2 := [(1, .int r3.1), (0, .ref 149)]) C dX9_floats_13 rfl rfl (Nat.le_of_ble_eq_true rfl) rfl ?_
  refine r_aload_n (pc' := 15) C dX9_floats_14 rfl 1 rfl ?_
  refine r_iconst (pc' := 16) C dX9_floats_15 rfl kc_0 ?_
  obtain ⟨σ5, e6, h⟩ := bs h
  refine r_putI (pc' := 19) (σ1 := σ5) C fpX9_15 sh_149 rfl rfl rfl dX9_floats_16 rfl e6 ?_
  refine r_aload_n (pc' := 20) C dX9_floats_19 rfl 1 rfl ?_
  refine r_aload_n (pc' := 21) C dX9_floats_20 rfl 1 rfl ?_
  refine r_aload_n (pc' := 22) C dX9_floats_21 rfl 1 rfl ?_
  refine r_getR (pc' := 25) C flX9_34 sh_149 rfl dX9_floats_22 rfl ?_
  obtain ⟨r7, e8, h⟩ := bd h
  refine r_cV1 (pc' := 28) C (X9_firstOnes_ok mac_153 e8) mlX9_359 ceX9_firstOnes cvX9_firstOnes sh_149 rfl rfl rfl (Nat.le_of_ble_eq_true rfl) rfl (Nat.le_of_ble_eq_true rfl) dX9_floats_25 rfl (kk := ?_)
  obtain ⟨r9, e10, h⟩ := bd h
  refine r_cS1 (pc' := 31) C (J6_bitCount_0f7a4_ok  e10) mlX9_135 ceJ6_bitCount_0f7a4 csJ6_bitCount_0f7a4 rfl (Nat.le_of_ble_eq_true rfl) rfl (Nat.le_of_ble_eq_true rfl) dX9_floats_28 rfl (kk := ?_)
  refine r_i2l (pc' := 32) C dX9_floats_31 rfl rfl ?_
  obtain ⟨r11, e12, h⟩ := bd h
  refine r_cV0 (pc' := 35) C (X9_enters_ok  e12) mlX9_327 ceX9_enters cvX9_enters sh_149 rfl rfl rfl (Nat.le_of_ble_eq_true rfl) rfl (Nat.le_of_ble_eq_true rfl) dX9_floats_32 rfl (kk := ?_)
  refine r_aload_n (pc' := 36) C dX9_floats_35 rfl 1 rfl ?_
  refine r_aload_n (pc' := 37) C dX9_floats_36 rfl 1 rfl ?_
  refine r_aload_n (pc' := 38) C dX9_floats_37 rfl 1 rfl ?_
  refine r_getR (pc' := 41) C flX9_34 sh_149 rfl dX9_floats_38 rfl ?_
  obtain ⟨r13, e14, h⟩ := bd h
  refine r_cV1 (pc' := 44) C (X9_firstOnes_ok mac_153 e14) mlX9_359 ceX9_firstOnes cvX9_firstOnes sh_149 rfl rfl rfl (Nat.le_of_ble_eq_true rfl) rfl (Nat.le_of_ble_eq_true rfl) dX9_floats_41 rfl (kk := ?_)
  refine r_iload_n (pc' := 45) C dX9_floats_44 rfl 0 rfl ?_
  refine r_iand (pc' := 46) C dX9_floats_45 rfl ?_
  obtain ⟨r15, e16, h⟩ := bd h
  refine r_cS1 (pc' := 49) C (J6_bitCount_0f7a4_ok  e16) mlX9_135 ceJ6_bitCount_0f7a4 csJ6_bitCount_0f7a4 rfl (Nat.le_of_ble_eq_true rfl) rfl (Nat.le_of_ble_eq_true rfl) dX9_floats_46 rfl (kk := ?_)
  refine r_i2l (pc' := 50) C dX9_floats_49 rfl rfl ?_
  obtain ⟨r17, e18, h⟩ := bd h
  refine r_cV0 (pc' := 53) C (X9_enters_ok  e18) mlX9_327 ceX9_enters cvX9_enters sh_149 rfl rfl rfl (Nat.le_of_ble_eq_true rfl) rfl (Nat.le_of_ble_eq_true rfl) dX9_floats_50 rfl (kk := ?_)
  refine r_iload_n (pc' := 54) C dX9_floats_53 rfl 0 rfl ?_
  have h := Option.some.inj h
  subst h
  exact r_ret C rfl dX9_floats_54 hE

/-! BorrowedWeightModel.spare(I)I -/
def X9_spare (N : Nat)  (v1 : Int32) (σ : Sg) : Option (Int32 × Sg) :=
  bnS (wi σ 149 0 0) fun σ1 => (X9_isThing N v1 σ1).bind fun r3 => (if r3 = 0 then (some ((-1), σ1)) else ((X9_bundle N 153 v1 σ1).bind fun r6 => (if r6 = 0 then (some ((-2), σ1)) else (bnS (wi σ1 149 1 0) fun σ9 => (X9_sumOf N 153 0 r6 σ9).bind fun r11 => ((X9_enters N r11.toInt64 σ9).bind fun r13 => ((X9_needOf N 153 r6 r13).bind fun r15 => ((X9_enters N r15.1.toInt64 r15.2).bind fun r17 => ((X9_above N 153 r6 r17).bind fun r19 => (some (1000 + r19.1, r19.2))))))))))
set_option maxRecDepth 100000 in
set_option maxHeartbeats 4000000 in
theorem X9_spare_ok {E : Ev}  {N : Nat} {v1 : Int32} {σ : Sg} {r : Int32 × Sg} (h : X9_spare N  v1 σ = some r) : Cm E 6 yX9_spare cX9_spare 3 (some .int) [.ref 149, .int v1] SH0 SH0 σ r.2 (some (.int r.1)) 0 0 := by
  refine Cm.intro (by decide +kernel) (Nat.le_of_ble_eq_true rfl) (fun _ h => by obtain ⟨_, _, _, _, _, _, h⟩ := h; exact h) (fun Z C hE => ?_)
  show Wm E Z 0 0 SH0 σ 0 [(0, .ref 149), (1, .int v1)] []
  unfold X9_spare at h
  refine r_aload_n (pc' := 1) C dX9_spare_0 rfl 0 rfl ?_
  refine r_iconst (pc' := 2) C dX9_spare_1 rfl kc_0 ?_
  obtain ⟨σ1, e2, h⟩ := bs h
  refine r_putI (pc' := 5) (σ1 := σ1) C fpX9_3 sh_149 rfl rfl rfl dX9_spare_2 rfl e2 ?_
  refine r_aload_n (pc' := 6) C dX9_spare_5 rfl 0 rfl ?_
  refine r_iload_n (pc' := 7) C dX9_spare_6 rfl 1 rfl ?_
  obtain ⟨r3, e4, h⟩ := bd h
  refine r_cV1 (pc' := 10) C (X9_isThing_ok  e4) mlX9_123 ceX9_isThing cvX9_isThing sh_149 rfl rfl rfl (Nat.le_of_ble_eq_true rfl) rfl (Nat.le_of_ble_eq_true rfl) dX9_spare_7 rfl (kk := ?_)
  refine r_if_ne (tgt := 15) (pc' := 13) C dX9_spare_10 rfl rfl (fun c5 => ?_) (fun c5 => ?_)
  · rw [if_neg c5] at h
    refine r_aload_n (pc' := 16) C dX9_spare_15 rfl 0 rfl ?_
    refine r_aload_n (pc' := 17) C dX9_spare_16 rfl 0 rfl ?_
    refine r_getR (pc' := 20) C flX9_34 sh_149 rfl dX9_spare_17 rfl ?_
    refine r_iload_n (pc' := 21) C dX9_spare_20 rfl 1 rfl ?_
    obtain ⟨r6, e7, h⟩ := bd h
    refine r_cV1 (pc' := 24) C (X9_bundle_ok mac_153 e7) mlX9_281 ceX9_bundle cvX9_bundle sh_149 rfl rfl rfl (Nat.le_of_ble_eq_true rfl) rfl (Nat.le_of_ble_eq_true rfl) dX9_spare_21 rfl (kk := ?_)
    refine r_istore_n (pc' := 25) (lv2 := [(2, .int r6), (0, .ref 149), (1, .int v1)]) C dX9_spare_24 rfl rfl (Nat.le_of_ble_eq_true rfl) rfl ?_
    refine r_iload_n (pc' := 26) C dX9_spare_25 rfl 0 rfl ?_
    refine r_if_ne (tgt := 32) (pc' := 29) C dX9_spare_26 rfl rfl (fun c8 => ?_) (fun c8 => ?_)
    · rw [if_neg c8] at h
      refine r_aload_n (pc' := 33) C dX9_spare_32 rfl 1 rfl ?_
      refine r_iconst (pc' := 34) C dX9_spare_33 rfl kc_0 ?_
      obtain ⟨σ9, e10, h⟩ := bs h
      refine r_putI (pc' := 37) (σ1 := σ9) C fpX9_15 sh_149 rfl rfl rfl dX9_spare_34 rfl e10 ?_
      refine r_aload_n (pc' := 38) C dX9_spare_37 rfl 1 rfl ?_
      refine r_aload_n (pc' := 39) C dX9_spare_38 rfl 1 rfl ?_
      refine r_aload_n (pc' := 40) C dX9_spare_39 rfl 1 rfl ?_
      refine r_getR (pc' := 43) C flX9_34 sh_149 rfl dX9_spare_40 rfl ?_
      refine r_iconst (pc' := 44) C dX9_spare_43 rfl kc_0 ?_
      refine r_iload_n (pc' := 45) C dX9_spare_44 rfl 0 rfl ?_
      obtain ⟨r11, e12, h⟩ := bd h
      refine r_cV1 (pc' := 48) C (X9_sumOf_ok mac_153 e12) mlX9_274 ceX9_sumOf cvX9_sumOf sh_149 rfl rfl rfl (Nat.le_of_ble_eq_true rfl) rfl (Nat.le_of_ble_eq_true rfl) dX9_spare_45 rfl (kk := ?_)
      refine r_i2l (pc' := 49) C dX9_spare_48 rfl rfl ?_
      obtain ⟨r13, e14, h⟩ := bd h
      refine r_cV0 (pc' := 52) C (X9_enters_ok  e14) mlX9_327 ceX9_enters cvX9_enters sh_149 rfl rfl rfl (Nat.le_of_ble_eq_true rfl) rfl (Nat.le_of_ble_eq_true rfl) dX9_spare_49 rfl (kk := ?_)
      refine r_aload_n (pc' := 53) C dX9_spare_52 rfl 1 rfl ?_
      refine r_aload_n (pc' := 54) C dX9_spare_53 rfl 1 rfl ?_
      refine r_aload_n (pc' := 55) C dX9_spare_54 rfl 1 rfl ?_
      refine r_getR (pc' := 58) C flX9_34 sh_149 rfl dX9_spare_55 rfl ?_
      refine r_iload_n (pc' := 59) C dX9_spare_58 rfl 0 rfl ?_
      obtain ⟨r15, e16, h⟩ := bd h
      refine r_cV1 (pc' := 62) C (X9_needOf_ok mac_153 e16) mlX9_278 ceX9_needOf cvX9_needOf sh_149 rfl rfl rfl (Nat.le_of_ble_eq_true rfl) rfl (Nat.le_of_ble_eq_true rfl) dX9_spare_59 rfl (kk := ?_)
      refine r_i2l (pc' := 63) C dX9_spare_62 rfl rfl ?_
      obtain ⟨r17, e18, h⟩ := bd h
      refine r_cV0 (pc' := 66) C (X9_enters_ok  e18) mlX9_327 ceX9_enters cvX9_enters sh_149 rfl rfl rfl (Nat.le_of_ble_eq_true rfl) rfl (Nat.le_of_ble_eq_true rfl) dX9_spare_63 rfl (kk := ?_)
      refine r_sipush (pc' := 69) C dX9_spare_66 rfl ks_1000 ?_
      refine r_aload_n (pc' := 70) C dX9_spare_69 rfl 1 rfl ?_
      refine r_aload_n (pc' := 71) C dX9_spare_70 rfl 1 rfl ?_
      refine r_getR (pc' := 74) C flX9_34 sh_149 rfl dX9_spare_71 rfl ?_
      refine r_iload_n (pc' := 75) C dX9_spare_74 rfl 0 rfl ?_
      obtain ⟨r19, e20, h⟩ := bd h
      refine r_cV1 (pc' := 78) C (X9_above_ok mac_153 e20) mlX9_287 ceX9_above cvX9_above sh_149 rfl rfl rfl (Nat.le_of_ble_eq_true rfl) rfl (Nat.le_of_ble_eq_true rfl) dX9_spare_75 rfl (kk := ?_)
      refine r_iadd (pc' := 79) C dX9_spare_78 rfl ?_
      have h := Option.some.inj h
      subst h
      exact r_ret C rfl dX9_spare_79 hE
    · rw [if_pos c8] at h
      refine r_bipush (pc' := 31) C dX9_spare_29 rfl kb_m2 ?_
      have h := Option.some.inj h
      subst h
      exact r_ret C rfl dX9_spare_31 hE
  · rw [if_pos c5] at h
    refine r_iconst (pc' := 14) C dX9_spare_13 rfl kc_m1 ?_
    have h := Option.some.inj h
    subst h
    exact r_ret C rfl dX9_spare_14 hE

/-! BorrowedWeightModel.copies()V -/
def X9_copies_l2 (N : Nat)    : Nat → Int32 → Sg → Option (Sg)
  | 0, _, _ => none
  | n + 1, v1, σ =>
    if 37 ≤ v1 then (some σ) else (if inb v1 37 = true then if inb v1 37 = true then bnS (wi σ 154 v1.toNatClampNeg (gi σ 153 v1.toNatClampNeg)) fun σ4 => X9_copies_l2 N n (v1 + 1) σ4 else none else none)
set_option maxRecDepth 100000 in
set_option maxHeartbeats 4000000 in
theorem X9_copies_l2_ok {E : Ev}  {N : Nat}    : ∀ (n : Nat) (v1 : Int32) (σ : Sg) (r : Sg), X9_copies_l2 N n v1 σ = some r → Gp E RX9 cX9_copies none 2 0 SH0 r (none) σ 2 [(0, .ref 149), (1, .int v1)] [] := by
  intro n
  induction n with
  | zero => intro v1 σ r h; cases h
  | succ n ih =>
    intro v1 σ r h Z C hE
    unfold X9_copies_l2 at h
    refine r_iload_n (pc' := 3) C dX9_copies_2 rfl 1 rfl ?_
    refine r_bipush (pc' := 5) C dX9_copies_3 rfl kb_37 ?_
    refine r_icmp_ge (tgt := 26) (pc' := 8) C dX9_copies_5 rfl rfl (fun c1 => ?_) (fun c1 => ?_)
    · rw [if_pos c1] at h
      have h := Option.some.inj h
      subst h
      exact r_vret C dX9_copies_26 hE
    · rw [if_neg c1] at h
      refine r_aload_n (pc' := 9) C dX9_copies_8 rfl 0 rfl ?_
      refine r_getR (pc' := 12) C flX9_37 sh_149 rfl dX9_copies_9 rfl ?_
      refine r_iload_n (pc' := 13) C dX9_copies_12 rfl 1 rfl ?_
      refine r_aload_n (pc' := 14) C dX9_copies_13 rfl 0 rfl ?_
      refine r_getR (pc' := 17) C flX9_34 sh_149 rfl dX9_copies_14 rfl ?_
      refine r_iload_n (pc' := 18) C dX9_copies_17 rfl 1 rfl ?_
      obtain ⟨q2, h⟩ := ck h
      refine r_iald (pc' := 19) C sh_153 (vin q2) dX9_copies_18 rfl ?_
      obtain ⟨q3, h⟩ := ck h
      obtain ⟨σ4, e5, h⟩ := bs h
      refine r_iast (pc' := 20) (σ1 := σ4) C sh_154 (vin q3) dX9_copies_19 rfl e5 ?_
      refine r_iinc (pc' := 23) (v := v1 + 1) (lv2 := [(1, .int (v1 + 1)), (0, .ref 149)]) C dX9_copies_20 rfl 1 rfl rfl (Nat.le_of_ble_eq_true rfl) rfl ?_
      refine r_goto (tgt := 2) C dX9_copies_23 rfl ?_
      refine r_sub [1, 0] rfl ?_
      exact ih _ _ _ h Z C hE
def X9_copies (N : Nat)   (σ : Sg) : Option (Sg) :=
  X9_copies_l2 N N 0 σ
set_option maxRecDepth 100000 in
set_option maxHeartbeats 4000000 in
theorem X9_copies_ok {E : Ev}  {N : Nat}  {σ : Sg} {r : Sg} (h : X9_copies N   σ = some r) : Cm E 0 yX9_copies cX9_copies 2 none [.ref 149] SH0 SH0 σ r (none) 0 0 := by
  refine Cm.intro (by decide +kernel) (Nat.le_of_ble_eq_true rfl) (fun _ h => by obtain ⟨_, _, _, _, _, _, h⟩ := h; exact h) (fun Z C hE => ?_)
  show Wm E Z 0 0 SH0 σ 0 [(0, .ref 149)] []
  unfold X9_copies at h
  refine r_iconst (pc' := 1) C dX9_copies_0 rfl kc_0 ?_
  refine r_istore_n (pc' := 2) (lv2 := [(1, .int 0), (0, .ref 149)]) C dX9_copies_1 rfl rfl (Nat.le_of_ble_eq_true rfl) rfl ?_
  refine r_sub [1, 0] rfl ?_
  exact X9_copies_l2_ok  N _ _ _ h Z C hE
