/-! BorrowedWeight$Past.bringBack(LBorrowedWeight$State;)I -/
def X1_bringBack (N : Nat) (k1 : Nat)  (σ : Sg) : Option (Int32 × Sg) :=
  if (gi σ 29 2) = 0 then (some ((-1), σ)) else (bnS (wi σ 29 1 (((gi σ 29 1) - 1) &&& 15)) fun σ2 => bnS (wi σ2 29 2 ((gi σ2 29 2) - 1)) fun σ4 => if inb (gi σ4 29 1) 16 = true then (L30.getD (gi σ4 29 1).toNatClampNeg none).bind fun p7 => (if isState p7 = true then (X5_become N k1 p7 σ4).bind fun r10 => (some (gi r10 29 2, r10)) else none) else none)
set_option maxRecDepth 100000 in
set_option maxHeartbeats 4000000 in
theorem X1_bringBack_ok {E : Ev} {k1 : Nat} (hk1 : StAt SH0 k1) {N : Nat}  {σ : Sg} {r : Int32 × Sg} (h : X1_bringBack N k1  σ = some r) : Cm E (1) yX1_bringBack cX1_bringBack 2 (some .int) [.ref 29, .ref k1] SH0 SH0 σ r.2 (some (.int r.1)) 0 0 := by
  refine Cm.intro (by decide +kernel) (Nat.le_of_ble_eq_true rfl) (fun _ h => by obtain ⟨_, _, _, _, _, _, h⟩ := h; exact h) (fun Z C hE => ?_)
  show Wm E Z 0 0 SH0 σ 0 [(0, .ref 29), (1, .ref k1)] []
  unfold X1_bringBack at h
  refine r_aload_n (pc' := 1) C dX1_bringBack_0 rfl 0 rfl ?_
  refine r_getI (pc' := 4) C flX1_18 sh_29 rfl dX1_bringBack_1 rfl ?_
  refine r_if_ne (tgt := 9) (pc' := 7) C dX1_bringBack_4 rfl rfl (fun c1 => ?_) (fun c1 => ?_)
  · rw [if_neg c1] at h
    refine r_aload_n (pc' := 10) C dX1_bringBack_9 rfl 0 rfl ?_
    refine r_aload_n (pc' := 11) C dX1_bringBack_10 rfl 0 rfl ?_
    refine r_getI (pc' := 14) C flX1_22 sh_29 rfl dX1_bringBack_11 rfl ?_
    refine r_iconst (pc' := 15) C dX1_bringBack_14 rfl kc_1 ?_
    refine r_isub (pc' := 16) C dX1_bringBack_15 rfl ?_
    refine r_bipush (pc' := 18) C dX1_bringBack_16 rfl kb_15 ?_
    refine r_iand (pc' := 19) C dX1_bringBack_18 rfl ?_
    obtain ⟨σ2, e3, h⟩ := bs h
    refine r_putI (pc' := 22) (σ1 := σ2) C fpX1_22 sh_29 rfl rfl rfl dX1_bringBack_19 rfl e3 ?_
    refine r_aload_n (pc' := 23) C dX1_bringBack_22 rfl 0 rfl ?_
    refine r_dup (pc' := 24) C dX1_bringBack_23 rfl rfl ?_
    refine r_getI (pc' := 27) C flX1_18 sh_29 rfl dX1_bringBack_24 rfl ?_
    refine r_iconst (pc' := 28) C dX1_bringBack_27 rfl kc_1 ?_
    refine r_isub (pc' := 29) C dX1_bringBack_28 rfl ?_
    obtain ⟨σ4, e5, h⟩ := bs h
    refine r_putI (pc' := 32) (σ1 := σ4) C fpX1_18 sh_29 rfl rfl rfl dX1_bringBack_29 rfl e5 ?_
    refine r_aload_n (pc' := 33) C dX1_bringBack_32 rfl 1 rfl ?_
    refine r_aload_n (pc' := 34) C dX1_bringBack_33 rfl 0 rfl ?_
    refine r_getR (pc' := 37) C flX1_13 sh_29 rfl dX1_bringBack_34 rfl ?_
    refine r_aload_n (pc' := 38) C dX1_bringBack_37 rfl 0 rfl ?_
    refine r_getI (pc' := 41) C flX1_22 sh_29 rfl dX1_bringBack_38 rfl ?_
    obtain ⟨q6, h⟩ := ck h
    obtain ⟨p7, e8, h⟩ := bd h
    refine r_aald (pc' := 42) (l := L30) C sh_30 (vin q6) e8 dX1_bringBack_41 rfl ?_
    obtain ⟨q9, h⟩ := ck h
    obtain ⟨r10, e11, h⟩ := bd h
    refine r_cV0 (pc' := 45) C (X5_become_ok hk1 (stof q9) e11) mlX1_25 ceX5_become cvX5_become (st0 hk1) rfl rfl rfl (Nat.le_of_ble_eq_true rfl) rfl (Nat.le_of_ble_eq_true rfl) dX1_bringBack_42 rfl (kk := ?_)
    refine r_aload_n (pc' := 46) C dX1_bringBack_45 rfl 0 rfl ?_
    refine r_getI (pc' := 49) C flX1_18 sh_29 rfl dX1_bringBack_46 rfl ?_
    have h := Option.some.inj h
    subst h
    exact r_ret C rfl dX1_bringBack_49 hE
  · rw [if_pos c1] at h
    refine r_iconst (pc' := 8) C dX1_bringBack_7 rfl kc_m1 ?_
    have h := Option.some.inj h
    subst h
    exact r_ret C rfl dX1_bringBack_8 hE

/-! BorrowedWeight.undo()I -/
def X8_undo (N : Nat)   (σ : Sg) : Option (Int32 × Sg) :=
  (X1_bringBack N 19 σ).bind fun r1 => (some (r1.1, r1.2))
set_option maxRecDepth 100000 in
set_option maxHeartbeats 4000000 in
theorem X8_undo_ok {E : Ev}  {N : Nat}  {σ : Sg} {r : Int32 × Sg} (h : X8_undo N   σ = some r) : Cm E (2) yX8_undo cX8_undo 1 (some .int) [.ref 0] SH0 SH0 σ r.2 (some (.int r.1)) 0 0 := by
  refine Cm.intro (by decide +kernel) (Nat.le_of_ble_eq_true rfl) (fun _ h => by obtain ⟨_, _, _, _, _, _, h⟩ := h; exact h) (fun Z C hE => ?_)
  show Wm E Z 0 0 SH0 σ 0 [(0, .ref 0)] []
  unfold X8_undo at h
  refine r_aload_n (pc' := 1) C dX8_undo_0 rfl 0 rfl ?_
  refine r_getR (pc' := 4) C flX8_43 sh_0 rfl dX8_undo_1 rfl ?_
  refine r_aload_n (pc' := 5) C dX8_undo_4 rfl 0 rfl ?_
  refine r_getR (pc' := 8) C flX8_33 sh_0 rfl dX8_undo_5 rfl ?_
  obtain ⟨r1, e2, h⟩ := bd h
  refine r_cV1 (pc' := 11) C (X1_bringBack_ok stc_19 e2) mlX8_239 ceX1_bringBack cvX1_bringBack sh_29 rfl rfl rfl (Nat.le_of_ble_eq_true rfl) rfl (Nat.le_of_ble_eq_true rfl) dX8_undo_8 rfl (kk := ?_)
  have h := Option.some.inj h
  subst h
  exact r_ret C rfl dX8_undo_11 hE

/-! BorrowedWeight.floats()I -/
def X8_floats_l23 (N : Nat)  (k57 : Int32 → Int32 → Sg → Option (Int32 × Sg))  : Nat → Int32 → Int32 → Int32 → Sg → Option (Int32 × Sg)
  | 0, _, _, _, _ => none
  | n + 1, v1, v2, v3, σ =>
    if (gi σ 5 6) ≤ v3 then (k57 v1 v2 σ) else (if inb v3 8 = true then if (v1 &&& (gi σ 16 v3.toNatClampNeg)) = 0 then (X8_floats_l23 N k57 n v1 v2 (v3 + 1) σ) else (X8_floats_l23 N k57 n v1 (v2 + 1) (v3 + 1) σ) else none)
set_option maxRecDepth 100000 in
set_option maxHeartbeats 4000000 in
theorem X8_floats_l23_ok {E : Ev}  {N : Nat} {k57 : Int32 → Int32 → Sg → Option (Int32 × Sg)}  (hk57 : ∀ (v1 : Int32) (v2 : Int32) (σ : Sg) (r : Int32 × Sg), k57 v1 v2 σ = some r → Gp E RX8 cX8_floats (some .int) 4 (4) SH0 r.2 (some (.int r.1)) σ 57 [(0, .ref 0), (1, .int v1), (2, .int v2)] []) : ∀ (n : Nat) (v1 : Int32) (v2 : Int32) (v3 : Int32) (σ : Sg) (r : Int32 × Sg), X8_floats_l23 N k57 n v1 v2 v3 σ = some r → Gp E RX8 cX8_floats (some .int) 4 (4) SH0 r.2 (some (.int r.1)) σ 23 [(0, .ref 0), (1, .int v1), (2, .int v2), (3, .int v3)] [] := by
  intro n
  induction n with
  | zero => intro v1 v2 v3 σ r h; cases h
  | succ n ih =>
    intro v1 v2 v3 σ r h Z C hE
    unfold X8_floats_l23 at h
    refine r_iload_n (pc' := 24) C dX8_floats_23 rfl 3 rfl ?_
    refine r_aload_n (pc' := 25) C dX8_floats_24 rfl 0 rfl ?_
    refine r_getR (pc' := 28) C flX8_26 sh_0 rfl dX8_floats_25 rfl ?_
    refine r_getI (pc' := 31) C flX8_246 sh_5 rfl dX8_floats_28 rfl ?_
    refine r_icmp_ge (tgt := 57) (pc' := 34) C dX8_floats_31 rfl rfl (fun c4 => ?_) (fun c4 => ?_)
    · rw [if_pos c4] at h
      refine r_sub [0, 1, 2] rfl ?_
      exact hk57 _ _ _ _ h Z C hE
    · rw [if_neg c4] at h
      refine r_iload_n (pc' := 35) C dX8_floats_34 rfl 1 rfl ?_
      refine r_aload_n (pc' := 36) C dX8_floats_35 rfl 0 rfl ?_
      refine r_getR (pc' := 39) C flX8_26 sh_0 rfl dX8_floats_36 rfl ?_
      refine r_getR (pc' := 42) C flX8_249 sh_5 rfl dX8_floats_39 rfl ?_
      refine r_iload_n (pc' := 43) C dX8_floats_42 rfl 3 rfl ?_
      obtain ⟨q5, h⟩ := ck h
      refine r_iald (pc' := 44) C sh_16 (vin q5) dX8_floats_43 rfl ?_
      refine r_iand (pc' := 45) C dX8_floats_44 rfl ?_
      refine r_if_eq (tgt := 51) (pc' := 48) C dX8_floats_45 rfl rfl (fun c6 => ?_) (fun c6 => ?_)
      · rw [if_pos c6] at h
        refine r_iinc (pc' := 54) (v := v3 + 1) (lv2 := [(3, .int (v3 + 1)), (0, .ref 0), (1, .int v1), (2, .int v2)]) C dX8_floats_51 rfl 3 rfl rfl (Nat.le_of_ble_eq_true rfl) rfl ?_
        refine r_goto (tgt := 23) C dX8_floats_54 rfl ?_
        refine r_sub [1, 2, 3, 0] rfl ?_
        exact ih _ _ _ _ _ h Z C hE
      · rw [if_neg c6] at h
        refine r_iinc (pc' := 51) (v := v2 + 1) (lv2 := [(2, .int (v2 + 1)), (0, .ref 0), (1, .int v1), (3, .int v3)]) C dX8_floats_48 rfl 2 rfl rfl (Nat.le_of_ble_eq_true rfl) rfl ?_
        refine r_iinc (pc' := 54) (v := v3 + 1) (lv2 := [(3, .int (v3 + 1)), (2, .int (v2 + 1)), (0, .ref 0), (1, .int v1)]) C dX8_floats_51 rfl 3 rfl rfl (Nat.le_of_ble_eq_true rfl) rfl ?_
        refine r_goto (tgt := 23) C dX8_floats_54 rfl ?_
        refine r_sub [2, 3, 1, 0] rfl ?_
        exact ih _ _ _ _ _ h Z C hE
def X8_floats_j57 (N : Nat)   (v1 : Int32) (v2 : Int32) (σ : Sg) : Option (Int32 × Sg) :=
  (X2_tell_ N ((gi σ 5 6).toInt64) v2.toInt64 σ).bind fun r7 => (some (v1, r7))
set_option maxRecDepth 100000 in
set_option maxHeartbeats 4000000 in
theorem X8_floats_j57_ok {E : Ev}  {N : Nat}    {v1 : Int32} {v2 : Int32} {σ : Sg} {r : Int32 × Sg} (h : X8_floats_j57 N   v1 v2 σ = some r) : Gp E RX8 cX8_floats (some .int) 4 (4) SH0 r.2 (some (.int r.1)) σ 57 [(0, .ref 0), (1, .int v1), (2, .int v2)] [] := by
  intro Z C hE
  unfold X8_floats_j57 at h
  refine r_aload_n (pc' := 58) C dX8_floats_57 rfl 0 rfl ?_
  refine r_getR (pc' := 61) C flX8_19 sh_0 rfl dX8_floats_58 rfl ?_
  refine r_aload_n (pc' := 62) C dX8_floats_61 rfl 0 rfl ?_
  refine r_getR (pc' := 65) C flX8_26 sh_0 rfl dX8_floats_62 rfl ?_
  refine r_getI (pc' := 68) C flX8_246 sh_5 rfl dX8_floats_65 rfl ?_
  refine r_i2l (pc' := 69) C dX8_floats_68 rfl rfl ?_
  refine r_iload_n (pc' := 70) C dX8_floats_69 rfl 2 rfl ?_
  refine r_i2l (pc' := 71) C dX8_floats_70 rfl rfl ?_
  obtain ⟨r7, e8, h⟩ := bd h
  refine r_cV0 (pc' := 74) C (X2_tell__ok  e8) mlX8_198 ceX2_tell_ cvX2_tell_ sh_3 rfl rfl rfl (Nat.le_of_ble_eq_true rfl) rfl (Nat.le_of_ble_eq_true rfl) dX8_floats_71 rfl (kk := ?_)
  refine r_iload_n (pc' := 75) C dX8_floats_74 rfl 1 rfl ?_
  have h := Option.some.inj h
  subst h
  exact r_ret C rfl dX8_floats_75 hE
def X8_floats (N : Nat)   (σ : Sg) : Option (Int32 × Sg) :=
  if isRule ((gi σ 5 2).toNatClampNeg) = true then (X0_floating N 19 ((gi σ 5 2).toNatClampNeg) σ).bind fun r2 => (X8_floats_l23 N (fun v1 v2 σ => X8_floats_j57 N v1 v2 σ) N r2.1 0 0 r2.2) else none
set_option maxRecDepth 100000 in
set_option maxHeartbeats 4000000 in
theorem X8_floats_ok {E : Ev}  {N : Nat}  {σ : Sg} {r : Int32 × Sg} (h : X8_floats N   σ = some r) : Cm E (4) yX8_floats cX8_floats 4 (some .int) [.ref 0] SH0 SH0 σ r.2 (some (.int r.1)) 0 0 := by
  refine Cm.intro (by decide +kernel) (Nat.le_of_ble_eq_true rfl) (fun _ h => by obtain ⟨_, _, _, _, _, _, h⟩ := h; exact h) (fun Z C hE => ?_)
  show Wm E Z 0 0 SH0 σ 0 [(0, .ref 0)] []
  unfold X8_floats at h
  refine r_aload_n (pc' := 1) C dX8_floats_0 rfl 0 rfl ?_
  refine r_getR (pc' := 4) C flX8_26 sh_0 rfl dX8_floats_1 rfl ?_
  refine r_aload_n (pc' := 5) C dX8_floats_4 rfl 0 rfl ?_
  refine r_getR (pc' := 8) C flX8_33 sh_0 rfl dX8_floats_5 rfl ?_
  refine r_aload_n (pc' := 9) C dX8_floats_8 rfl 0 rfl ?_
  refine r_getR (pc' := 12) C flX8_26 sh_0 rfl dX8_floats_9 rfl ?_
  refine r_getD (pc' := 15) C flX8_163 sh_5 rfl dX8_floats_12 rfl ?_
  obtain ⟨q1, h⟩ := ck h
  obtain ⟨r2, e3, h⟩ := bd h
  refine r_cV1 (pc' := 18) C (X0_floating_ok stc_19 (ruof q1) e3) mlX8_242 ceX0_floating cvX0_floating sh_5 rfl rfl rfl (Nat.le_of_ble_eq_true rfl) rfl (Nat.le_of_ble_eq_true rfl) dX8_floats_15 rfl (kk := ?_)
  refine r_istore_n (pc' := 19) (lv2 := [(1, .int r2.1), (0, .ref 0)]) C dX8_floats_18 rfl rfl (Nat.le_of_ble_eq_true rfl) rfl ?_
  refine r_iconst (pc' := 20) C dX8_floats_19 rfl kc_0 ?_
  refine r_istore_n (pc' := 21) (lv2 := [(2, .int 0), (1, .int r2.1), (0, .ref 0)]) C dX8_floats_20 rfl rfl (Nat.le_of_ble_eq_true rfl) rfl ?_
  refine r_iconst (pc' := 22) C dX8_floats_21 rfl kc_0 ?_
  refine r_istore_n (pc' := 23) (lv2 := [(3, .int 0), (2, .int 0), (1, .int r2.1), (0, .ref 0)]) C dX8_floats_22 rfl rfl (Nat.le_of_ble_eq_true rfl) rfl ?_
  refine r_sub [3, 2, 1, 0] rfl ?_
  exact X8_floats_l23_ok  (fun _ _ _ _ h Z C hE => by exact X8_floats_j57_ok  h Z C hE) N _ _ _ _ _ h Z C hE

/-! BorrowedWeight.spare(I)I -/
def X8_spare (N : Nat)  (v1 : Int32) (σ : Sg) : Option (Int32 × Sg) :=
  (X0_isThing N v1 σ).bind fun r1 => (if r1 = 0 then (some ((-1), σ)) else ((X5_isGone N 19 v1 σ).bind fun r4 => (if r4 = 0 then (if isRule ((gi σ 5 2).toNatClampNeg) = true then (X0_weigh N 19 ((gi σ 5 2).toNatClampNeg) σ).bind fun r8 => ((X5_bundleOf N 19 v1 r8).bind fun r10 => ((X5_stonesOf N 19 r10 r8).bind fun r12 => ((X0_needOf N r10 r8).bind fun r14 => ((X2_tell_ N r12.toInt64 r14.toInt64 r8).bind fun r16 => (some ((1000 + r12) - r14, r16)))))) else none) else (some ((-2), σ)))))
set_option maxRecDepth 100000 in
set_option maxHeartbeats 4000000 in
theorem X8_spare_ok {E : Ev}  {N : Nat} {v1 : Int32} {σ : Sg} {r : Int32 × Sg} (h : X8_spare N  v1 σ = some r) : Cm E (3) yX8_spare cX8_spare 5 (some .int) [.ref 0, .int v1] SH0 SH0 σ r.2 (some (.int r.1)) 0 0 := by
  refine Cm.intro (by decide +kernel) (Nat.le_of_ble_eq_true rfl) (fun _ h => by obtain ⟨_, _, _, _, _, _, h⟩ := h; exact h) (fun Z C hE => ?_)
  show Wm E Z 0 0 SH0 σ 0 [(0, .ref 0), (1, .int v1)] []
  unfold X8_spare at h
  refine r_aload_n (pc' := 1) C dX8_spare_0 rfl 0 rfl ?_
  refine r_getR (pc' := 4) C flX8_26 sh_0 rfl dX8_spare_1 rfl ?_
  refine r_iload_n (pc' := 5) C dX8_spare_4 rfl 1 rfl ?_
  obtain ⟨r1, e2, h⟩ := bd h
  refine r_cV1 (pc' := 8) C (X0_isThing_ok  e2) mlX8_138 ceX0_isThing cvX0_isThing sh_5 rfl rfl rfl (Nat.le_of_ble_eq_true rfl) rfl (Nat.le_of_ble_eq_true rfl) dX8_spare_5 rfl (kk := ?_)
  refine r_if_ne (tgt := 13) (pc' := 11) C dX8_spare_8 rfl rfl (fun c3 => ?_) (fun c3 => ?_)
  · rw [if_neg c3] at h
    refine r_aload_n (pc' := 14) C dX8_spare_13 rfl 0 rfl ?_
    refine r_getR (pc' := 17) C flX8_33 sh_0 rfl dX8_spare_14 rfl ?_
    refine r_iload_n (pc' := 18) C dX8_spare_17 rfl 1 rfl ?_
    obtain ⟨r4, e5, h⟩ := bd h
    refine r_cV1 (pc' := 21) C (X5_isGone_ok stc_19 e5) mlX8_160 ceX5_isGone cvX5_isGone sh_19 rfl rfl rfl (Nat.le_of_ble_eq_true rfl) rfl (Nat.le_of_ble_eq_true rfl) dX8_spare_18 rfl (kk := ?_)
    refine r_if_eq (tgt := 27) (pc' := 24) C dX8_spare_21 rfl rfl (fun c6 => ?_) (fun c6 => ?_)
    · rw [if_pos c6] at h
      refine r_aload_n (pc' := 28) C dX8_spare_27 rfl 0 rfl ?_
      refine r_getR (pc' := 31) C flX8_26 sh_0 rfl dX8_spare_28 rfl ?_
      refine r_aload_n (pc' := 32) C dX8_spare_31 rfl 0 rfl ?_
      refine r_getR (pc' := 35) C flX8_33 sh_0 rfl dX8_spare_32 rfl ?_
      refine r_aload_n (pc' := 36) C dX8_spare_35 rfl 0 rfl ?_
      refine r_getR (pc' := 39) C flX8_26 sh_0 rfl dX8_spare_36 rfl ?_
      refine r_getD (pc' := 42) C flX8_163 sh_5 rfl dX8_spare_39 rfl ?_
      obtain ⟨q7, h⟩ := ck h
      obtain ⟨r8, e9, h⟩ := bd h
      refine r_cV0 (pc' := 45) C (X0_weigh_ok stc_19 (ruof q7) e9) mlX8_167 ceX0_weigh cvX0_weigh sh_5 rfl rfl rfl (Nat.le_of_ble_eq_true rfl) rfl (Nat.le_of_ble_eq_true rfl) dX8_spare_42 rfl (kk := ?_)
      refine r_aload_n (pc' := 46) C dX8_spare_45 rfl 0 rfl ?_
      refine r_getR (pc' := 49) C flX8_33 sh_0 rfl dX8_spare_46 rfl ?_
      refine r_iload_n (pc' := 50) C dX8_spare_49 rfl 1 rfl ?_
      obtain ⟨r10, e11, h⟩ := bd h
      refine r_cV1 (pc' := 53) C (X5_bundleOf_ok stc_19 e11) mlX8_177 ceX5_bundleOf cvX5_bundleOf sh_19 rfl rfl rfl (Nat.le_of_ble_eq_true rfl) rfl (Nat.le_of_ble_eq_true rfl) dX8_spare_50 rfl (kk := ?_)
      refine r_istore_n (pc' := 54) (lv2 := [(2, .int r10), (0, .ref 0), (1, .int v1)]) C dX8_spare_53 rfl rfl (Nat.le_of_ble_eq_true rfl) rfl ?_
      refine r_aload_n (pc' := 55) C dX8_spare_54 rfl 1 rfl ?_
      refine r_getR (pc' := 58) C flX8_33 sh_0 rfl dX8_spare_55 rfl ?_
      refine r_iload_n (pc' := 59) C dX8_spare_58 rfl 0 rfl ?_
      obtain ⟨r12, e13, h⟩ := bd h
      refine r_cV1 (pc' := 62) C (X5_stonesOf_ok stc_19 e13) mlX8_252 ceX5_stonesOf cvX5_stonesOf sh_19 rfl rfl rfl (Nat.le_of_ble_eq_true rfl) rfl (Nat.le_of_ble_eq_true rfl) dX8_spare_59 rfl (kk := ?_)
      refine r_istore_n (pc' := 63) (lv2 := [(3, .int r12), (2, .int r10), (0, .ref 0), (1, .int v1)]) C dX8_spare_62 rfl rfl (Nat.le_of_ble_eq_true rfl) rfl ?_
      refine r_aload_n (pc' := 64) C dX8_spare_63 rfl 2 rfl ?_
      refine r_getR (pc' := 67) C flX8_26 sh_0 rfl dX8_spare_64 rfl ?_
      refine r_iload_n (pc' := 68) C dX8_spare_67 rfl 1 rfl ?_
      obtain ⟨r14, e15, h⟩ := bd h
      refine r_cV1 (pc' := 71) C (X0_needOf_ok  e15) mlX8_255 ceX0_needOf cvX0_needOf sh_5 rfl rfl rfl (Nat.le_of_ble_eq_true rfl) rfl (Nat.le_of_ble_eq_true rfl) dX8_spare_68 rfl (kk := ?_)
      refine r_istore (pc' := 73) (lv2 := [(4, .int r14), (3, .int r12), (2, .int r10), (0, .ref 0), (1, .int v1)]) C dX8_spare_71 rfl (Nat.le_of_ble_eq_true rfl) rfl ?_
      refine r_aload_n (pc' := 74) C dX8_spare_73 rfl 3 rfl ?_
      refine r_getR (pc' := 77) C flX8_19 sh_0 rfl dX8_spare_74 rfl ?_
      refine r_iload_n (pc' := 78) C dX8_spare_77 rfl 1 rfl ?_
      refine r_i2l (pc' := 79) C dX8_spare_78 rfl rfl ?_
      refine r_iload (pc' := 81) C dX8_spare_79 rfl 0 rfl ?_
      refine r_i2l (pc' := 82) C dX8_spare_81 rfl rfl ?_
      obtain ⟨r16, e17, h⟩ := bd h
      refine r_cV0 (pc' := 85) C (X2_tell__ok  e17) mlX8_198 ceX2_tell_ cvX2_tell_ sh_3 rfl rfl rfl (Nat.le_of_ble_eq_true rfl) rfl (Nat.le_of_ble_eq_true rfl) dX8_spare_82 rfl (kk := ?_)
      refine r_sipush (pc' := 88) C dX8_spare_85 rfl ks_1000 ?_
      refine r_iload_n (pc' := 89) C dX8_spare_88 rfl 1 rfl ?_
      refine r_iadd (pc' := 90) C dX8_spare_89 rfl ?_
      refine r_iload (pc' := 92) C dX8_spare_90 rfl 0 rfl ?_
      refine r_isub (pc' := 93) C dX8_spare_92 rfl ?_
      have h := Option.some.inj h
      subst h
      exact r_ret C rfl dX8_spare_93 hE
    · rw [if_neg c6] at h
      refine r_bipush (pc' := 26) C dX8_spare_24 rfl kb_m2 ?_
      have h := Option.some.inj h
      subst h
      exact r_ret C rfl dX8_spare_26 hE
  · rw [if_pos c3] at h
    refine r_iconst (pc' := 12) C dX8_spare_11 rfl kc_m1 ?_
    have h := Option.some.inj h
    subst h
    exact r_ret C rfl dX8_spare_12 hE

/-! BorrowedWeight.foresee(I)V -/
def X8_foresee (N : Nat)  (v1 : Int32) (σ : Sg) : Option (Sg) :=
  (X5_become N 24 19 σ).bind fun r1 => ((X0_passHours N 24 v1 r1).bind fun r3 => (some r3.2))
set_option maxRecDepth 100000 in
set_option maxHeartbeats 4000000 in
theorem X8_foresee_ok {E : Ev}  {N : Nat} {v1 : Int32} {σ : Sg} {r : Sg} (h : X8_foresee N  v1 σ = some r) : Cm E (5) yX8_foresee cX8_foresee 2 none [.ref 0, .int v1] SH0 SH0 σ r (none) 0 0 := by
  refine Cm.intro (by decide +kernel) (Nat.le_of_ble_eq_true rfl) (fun _ h => by obtain ⟨_, _, _, _, _, _, h⟩ := h; exact h) (fun Z C hE => ?_)
  show Wm E Z 0 0 SH0 σ 0 [(0, .ref 0), (1, .int v1)] []
  unfold X8_foresee at h
  refine r_aload_n (pc' := 1) C dX8_foresee_0 rfl 0 rfl ?_
  refine r_getR (pc' := 4) C flX8_37 sh_0 rfl dX8_foresee_1 rfl ?_
  refine r_aload_n (pc' := 5) C dX8_foresee_4 rfl 0 rfl ?_
  refine r_getR (pc' := 8) C flX8_33 sh_0 rfl dX8_foresee_5 rfl ?_
  obtain ⟨r1, e2, h⟩ := bd h
  refine r_cV0 (pc' := 11) C (X5_become_ok stc_24 stc_19 e2) mlX8_286 ceX5_become cvX5_become sh_24 rfl rfl rfl (Nat.le_of_ble_eq_true rfl) rfl (Nat.le_of_ble_eq_true rfl) dX8_foresee_8 rfl (kk := ?_)
  refine r_aload_n (pc' := 12) C dX8_foresee_11 rfl 0 rfl ?_
  refine r_getR (pc' := 15) C flX8_26 sh_0 rfl dX8_foresee_12 rfl ?_
  refine r_aload_n (pc' := 16) C dX8_foresee_15 rfl 0 rfl ?_
  refine r_getR (pc' := 19) C flX8_37 sh_0 rfl dX8_foresee_16 rfl ?_
  refine r_iload_n (pc' := 20) C dX8_foresee_19 rfl 1 rfl ?_
  obtain ⟨r3, e4, h⟩ := bd h
  refine r_cV1 (pc' := 23) C (X0_passHours_ok stc_24 e4) mlX8_194 ceX0_passHours cvX0_passHours sh_5 rfl rfl rfl (Nat.le_of_ble_eq_true rfl) rfl (Nat.le_of_ble_eq_true rfl) dX8_foresee_20 rfl (kk := ?_)
  refine r_pop (pc' := 24) C dX8_foresee_23 rfl rfl ?_
  have h := Option.some.inj h
  subst h
  exact r_vret C dX8_foresee_24 hE

/-! BorrowedWeight.height(II)I -/
def X8_height_j48 (N : Nat)   (v1 : Int32) (s0 : Int64) (σ : Sg) : Option (Int32 × Sg) :=
  if inb v1 8 = true then (X2_tell_ N s0 ((gi σ 27 v1.toNatClampNeg).toInt64) σ).bind fun r12 => ((X5_isGone N 24 v1 r12).bind fun r14 => (if r14 = 0 then (if inb v1 8 = true then some (gi r12 26 v1.toNatClampNeg, r12) else none) else (some (9, r12)))) else none
set_option maxRecDepth 100000 in
set_option maxHeartbeats 4000000 in
theorem X8_height_j48_ok {E : Ev}  {N : Nat}    {v1 : Int32} {s0 : Int64} {σ : Sg} {r : Int32 × Sg} (h : X8_height_j48 N   v1 s0 σ = some r) : Gp E RX8 cX8_height (some .int) 3 (6) SH0 r.2 (some (.int r.1)) σ 48 [(0, .ref 0), (1, .int v1)] [.long s0, .ref 3] := by
  intro Z C hE
  unfold X8_height_j48 at h
  refine r_aload_n (pc' := 49) C dX8_height_48 rfl 0 rfl ?_
  refine r_getR (pc' := 52) C flX8_37 sh_0 rfl dX8_height_49 rfl ?_
  refine r_getR (pc' := 55) C flX8_157 sh_24 rfl dX8_height_52 rfl ?_
  refine r_iload_n (pc' := 56) C dX8_height_55 rfl 1 rfl ?_
  obtain ⟨q11, h⟩ := ck h
  refine r_iald (pc' := 57) C sh_27 (vin q11) dX8_height_56 rfl ?_
  refine r_i2l (pc' := 58) C dX8_height_57 rfl rfl ?_
  obtain ⟨r12, e13, h⟩ := bd h
  refine r_cV0 (pc' := 61) C (X2_tell__ok  e13) mlX8_198 ceX2_tell_ cvX2_tell_ sh_3 rfl rfl rfl (Nat.le_of_ble_eq_true rfl) rfl (Nat.le_of_ble_eq_true rfl) dX8_height_58 rfl (kk := ?_)
  refine r_aload_n (pc' := 62) C dX8_height_61 rfl 0 rfl ?_
  refine r_getR (pc' := 65) C flX8_37 sh_0 rfl dX8_height_62 rfl ?_
  refine r_iload_n (pc' := 66) C dX8_height_65 rfl 1 rfl ?_
  obtain ⟨r14, e15, h⟩ := bd h
  refine r_cV1 (pc' := 69) C (X5_isGone_ok stc_24 e15) mlX8_160 ceX5_isGone cvX5_isGone sh_24 rfl rfl rfl (Nat.le_of_ble_eq_true rfl) rfl (Nat.le_of_ble_eq_true rfl) dX8_height_66 rfl (kk := ?_)
  refine r_if_eq (tgt := 77) (pc' := 72) C dX8_height_69 rfl rfl (fun c16 => ?_) (fun c16 => ?_)
  · rw [if_pos c16] at h
    refine r_aload_n (pc' := 78) C dX8_height_77 rfl 0 rfl ?_
    refine r_getR (pc' := 81) C flX8_37 sh_0 rfl dX8_height_78 rfl ?_
    refine r_getR (pc' := 84) C flX8_154 sh_24 rfl dX8_height_81 rfl ?_
    refine r_iload_n (pc' := 85) C dX8_height_84 rfl 1 rfl ?_
    obtain ⟨q17, h⟩ := ck h
    refine r_iald (pc' := 86) C sh_26 (vin q17) dX8_height_85 rfl ?_
    have h := Option.some.inj h
    subst h
    exact r_ret C rfl dX8_height_86 hE
  · rw [if_neg c16] at h
    refine r_bipush (pc' := 74) C dX8_height_72 rfl kb_9 ?_
    refine r_goto (tgt := 86) C dX8_height_74 rfl ?_
    have h := Option.some.inj h
    subst h
    exact r_ret C rfl dX8_height_86 hE
def X8_height (N : Nat)  (v1 : Int32) (v2 : Int32) (σ : Sg) : Option (Int32 × Sg) :=
  (X0_isThing N v1 σ).bind fun r1 => (if r1 = 0 then (some ((-1), σ)) else (if v2 < 0 then (some ((-1), σ)) else (if v2 ≤ 99 then ((X8_foresee N v2 σ).bind fun r6 => ((X5_isGone N 24 v1 r6).bind fun r8 => (if r8 = 0 then (X8_height_j48 N v1 0 r6) else (X8_height_j48 N v1 1 r6)))) else (some ((-1), σ)))))
set_option maxRecDepth 100000 in
set_option maxHeartbeats 4000000 in
theorem X8_height_ok {E : Ev}  {N : Nat} {v1 : Int32} {v2 : Int32} {σ : Sg} {r : Int32 × Sg} (h : X8_height N  v1 v2 σ = some r) : Cm E (6) yX8_height cX8_height 3 (some .int) [.ref 0, .int v1, .int v2] SH0 SH0 σ r.2 (some (.int r.1)) 0 0 := by
  refine Cm.intro (by decide +kernel) (Nat.le_of_ble_eq_true rfl) (fun _ h => by obtain ⟨_, _, _, _, _, _, h⟩ := h; exact h) (fun Z C hE => ?_)
  show Wm E Z 0 0 SH0 σ 0 [(0, .ref 0), (1, .int v1), (2, .int v2)] []
  unfold X8_height at h
  refine r_aload_n (pc' := 1) C dX8_height_0 rfl 0 rfl ?_
  refine r_getR (pc' := 4) C flX8_26 sh_0 rfl dX8_height_1 rfl ?_
  refine r_iload_n (pc' := 5) C dX8_height_4 rfl 1 rfl ?_
  obtain ⟨r1, e2, h⟩ := bd h
  refine r_cV1 (pc' := 8) C (X0_isThing_ok  e2) mlX8_138 ceX0_isThing cvX0_isThing sh_5 rfl rfl rfl (Nat.le_of_ble_eq_true rfl) rfl (Nat.le_of_ble_eq_true rfl) dX8_height_5 rfl (kk := ?_)
  refine r_if_eq (tgt := 21) (pc' := 11) C dX8_height_8 rfl rfl (fun c3 => ?_) (fun c3 => ?_)
  · rw [if_pos c3] at h
    refine r_iconst (pc' := 22) C dX8_height_21 rfl kc_m1 ?_
    have h := Option.some.inj h
    subst h
    exact r_ret C rfl dX8_height_22 hE
  · rw [if_neg c3] at h
    refine r_iload_n (pc' := 12) C dX8_height_11 rfl 2 rfl ?_
    refine r_if_lt (tgt := 21) (pc' := 15) C dX8_height_12 rfl rfl (fun c4 => ?_) (fun c4 => ?_)
    · rw [if_pos c4] at h
      refine r_iconst (pc' := 22) C dX8_height_21 rfl kc_m1 ?_
      have h := Option.some.inj h
      subst h
      exact r_ret C rfl dX8_height_22 hE
    · rw [if_neg c4] at h
      refine r_iload_n (pc' := 16) C dX8_height_15 rfl 2 rfl ?_
      refine r_bipush (pc' := 18) C dX8_height_16 rfl kb_99 ?_
      refine r_icmp_le (tgt := 23) (pc' := 21) C dX8_height_18 rfl rfl (fun c5 => ?_) (fun c5 => ?_)
      · rw [if_pos c5] at h
        refine r_aload_n (pc' := 24) C dX8_height_23 rfl 0 rfl ?_
        refine r_iload_n (pc' := 25) C dX8_height_24 rfl 2 rfl ?_
        obtain ⟨r6, e7, h⟩ := bd h
        refine r_cV0 (pc' := 28) C (X8_foresee_ok  e7) mlX8_258 ceX8_foresee cvX8_foresee sh_0 rfl rfl rfl (Nat.le_of_ble_eq_true rfl) rfl (Nat.le_of_ble_eq_true rfl) dX8_height_25 rfl (kk := ?_)
        refine r_aload_n (pc' := 29) C dX8_height_28 rfl 0 rfl ?_
        refine r_getR (pc' := 32) C flX8_19 sh_0 rfl dX8_height_29 rfl ?_
        refine r_aload_n (pc' := 33) C dX8_height_32 rfl 0 rfl ?_
        refine r_getR (pc' := 36) C flX8_37 sh_0 rfl dX8_height_33 rfl ?_
        refine r_iload_n (pc' := 37) C dX8_height_36 rfl 1 rfl ?_
        obtain ⟨r8, e9, h⟩ := bd h
        refine r_cV1 (pc' := 40) C (X5_isGone_ok stc_24 e9) mlX8_160 ceX5_isGone cvX5_isGone sh_24 rfl rfl rfl (Nat.le_of_ble_eq_true rfl) rfl (Nat.le_of_ble_eq_true rfl) dX8_height_37 rfl (kk := ?_)
        refine r_if_eq (tgt := 47) (pc' := 43) C dX8_height_40 rfl rfl (fun c10 => ?_) (fun c10 => ?_)
        · rw [if_pos c10] at h
          refine r_lconst (pc' := 48) C dX8_height_47 rfl kl_0 ?_
          refine r_sub [0, 1] rfl ?_
          exact X8_height_j48_ok  h Z C hE
        · rw [if_neg c10] at h
          refine r_lconst (pc' := 44) C dX8_height_43 rfl kl_1 ?_
          refine r_goto (tgt := 48) C dX8_height_44 rfl ?_
          refine r_sub [0, 1] rfl ?_
          exact X8_height_j48_ok  h Z C hE
      · rw [if_neg c5] at h
        refine r_iconst (pc' := 22) C dX8_height_21 rfl kc_m1 ?_
        have h := Option.some.inj h
        subst h
        exact r_ret C rfl dX8_height_22 hE

/-! BorrowedWeight$Row.tell(J)V -/
def X2_tell (N : Nat)  (v1 : Int64) (σ : Sg) : Option (Sg) :=
  (X2_clear N σ).bind fun r1 => ((X2_add N v1 r1).bind fun r3 => (some r3))
set_option maxRecDepth 100000 in
set_option maxHeartbeats 4000000 in
theorem X2_tell_ok {E : Ev}  {N : Nat} {v1 : Int64} {σ : Sg} {r : Sg} (h : X2_tell N  v1 σ = some r) : Cm E (1) yX2_tell cX2_tell 3 none [.ref 3, .long v1] SH0 SH0 σ r (none) 0 0 := by
  refine Cm.intro (by decide +kernel) (Nat.le_of_ble_eq_true rfl) (fun _ h => by obtain ⟨_, _, _, _, _, _, h⟩ := h; exact h) (fun Z C hE => ?_)
  show Wm E Z 0 0 SH0 σ 0 [(0, .ref 3), (1, .long v1)] []
  unfold X2_tell at h
  refine r_aload_n (pc' := 1) C dX2_tell_0 rfl 0 rfl ?_
  obtain ⟨r1, e2, h⟩ := bd h
  refine r_cV0 (pc' := 4) C (X2_clear_ok  e2) mlX2_19 ceX2_clear cvX2_clear sh_3 rfl rfl rfl (Nat.le_of_ble_eq_true rfl) rfl (Nat.le_of_ble_eq_true rfl) dX2_tell_1 rfl (kk := ?_)
  refine r_aload_n (pc' := 5) C dX2_tell_4 rfl 0 rfl ?_
  refine r_lload_n (pc' := 6) C dX2_tell_5 rfl 1 rfl ?_
  obtain ⟨r3, e4, h⟩ := bd h
  refine r_cV0 (pc' := 9) C (X2_add_ok  e4) mlX2_22 ceX2_add cvX2_add sh_3 rfl rfl rfl (Nat.le_of_ble_eq_true rfl) rfl (Nat.le_of_ble_eq_true rfl) dX2_tell_6 rfl (kk := ?_)
  have h := Option.some.inj h
  subst h
  exact r_vret C dX2_tell_9 hE

/-! BorrowedWeight.gone(I)I -/
def X8_gone_l20 (N : Nat)  (k37 : Int32 → Sg → Option (Int32 × Sg))  : Nat → Int32 → Int32 → Sg → Option (Int32 × Sg)
  | 0, _, _, _ => none
  | n + 1, v1, v2, σ =>
    if 99 < v2 then (some ((-2), σ)) else ((X5_isGone N 24 v1 σ).bind fun r7 => (if r7 = 0 then ((X0_passHours N 24 1 σ).bind fun r10 => (X8_gone_l20 N k37 n v1 (v2 + 1) r10.2)) else (k37 v2 σ)))
set_option maxRecDepth 100000 in
set_option maxHeartbeats 4000000 in
theorem X8_gone_l20_ok {E : Ev}  {N : Nat} {k37 : Int32 → Sg → Option (Int32 × Sg)}  (hk37 : ∀ (v2 : Int32) (σ : Sg) (r : Int32 × Sg), k37 v2 σ = some r → Gp E RX8 cX8_gone (some .int) 3 (6) SH0 r.2 (some (.int r.1)) σ 37 [(0, .ref 0), (2, .int v2)] []) : ∀ (n : Nat) (v1 : Int32) (v2 : Int32) (σ : Sg) (r : Int32 × Sg), X8_gone_l20 N k37 n v1 v2 σ = some r → Gp E RX8 cX8_gone (some .int) 3 (6) SH0 r.2 (some (.int r.1)) σ 20 [(0, .ref 0), (1, .int v1), (2, .int v2)] [] := by
  intro n
  induction n with
  | zero => intro v1 v2 σ r h; cases h
  | succ n ih =>
    intro v1 v2 σ r h Z C hE
    unfold X8_gone_l20 at h
    refine r_iload_n (pc' := 21) C dX8_gone_20 rfl 2 rfl ?_
    refine r_bipush (pc' := 23) C dX8_gone_21 rfl kb_99 ?_
    refine r_icmp_gt (tgt := 78) (pc' := 26) C dX8_gone_23 rfl rfl (fun c6 => ?_) (fun c6 => ?_)
    · rw [if_pos c6] at h
      refine r_bipush (pc' := 80) C dX8_gone_78 rfl kb_m2 ?_
      have h := Option.some.inj h
      subst h
      exact r_ret C rfl dX8_gone_80 hE
    · rw [if_neg c6] at h
      refine r_aload_n (pc' := 27) C dX8_gone_26 rfl 0 rfl ?_
      refine r_getR (pc' := 30) C flX8_37 sh_0 rfl dX8_gone_27 rfl ?_
      refine r_iload_n (pc' := 31) C dX8_gone_30 rfl 1 rfl ?_
      obtain ⟨r7, e8, h⟩ := bd h
      refine r_cV1 (pc' := 34) C (X5_isGone_ok stc_24 e8) mlX8_160 ceX5_isGone cvX5_isGone sh_24 rfl rfl rfl (Nat.le_of_ble_eq_true rfl) rfl (Nat.le_of_ble_eq_true rfl) dX8_gone_31 rfl (kk := ?_)
      refine r_if_eq (tgt := 59) (pc' := 37) C dX8_gone_34 rfl rfl (fun c9 => ?_) (fun c9 => ?_)
      · rw [if_pos c9] at h
        refine r_aload_n (pc' := 60) C dX8_gone_59 rfl 0 rfl ?_
        refine r_getR (pc' := 63) C flX8_26 sh_0 rfl dX8_gone_60 rfl ?_
        refine r_aload_n (pc' := 64) C dX8_gone_63 rfl 0 rfl ?_
        refine r_getR (pc' := 67) C flX8_37 sh_0 rfl dX8_gone_64 rfl ?_
        refine r_iconst (pc' := 68) C dX8_gone_67 rfl kc_1 ?_
        obtain ⟨r10, e11, h⟩ := bd h
        refine r_cV1 (pc' := 71) C (X0_passHours_ok stc_24 e11) mlX8_194 ceX0_passHours cvX0_passHours sh_5 rfl rfl rfl (Nat.le_of_ble_eq_true rfl) rfl (Nat.le_of_ble_eq_true rfl) dX8_gone_68 rfl (kk := ?_)
        refine r_pop (pc' := 72) C dX8_gone_71 rfl rfl ?_
        refine r_iinc (pc' := 75) (v := v2 + 1) (lv2 := [(2, .int (v2 + 1)), (0, .ref 0), (1, .int v1)]) C dX8_gone_72 rfl 2 rfl rfl (Nat.le_of_ble_eq_true rfl) rfl ?_
        refine r_goto (tgt := 20) C dX8_gone_75 rfl ?_
        refine r_sub [1, 2, 0] rfl ?_
        exact ih _ _ _ _ h Z C hE
      · rw [if_neg c9] at h
        refine r_sub [0, 2] rfl ?_
        exact hk37 _ _ _ h Z C hE
def X8_gone_j37 (N : Nat)   (v2 : Int32) (σ : Sg) : Option (Int32 × Sg) :=
  (J6_bitCount_0f7a4 N (gi σ 24 4) σ).bind fun r12 => ((X2_tell N ((r12 - 1).toInt64) σ).bind fun r14 => (some (v2, r14)))
set_option maxRecDepth 100000 in
set_option maxHeartbeats 4000000 in
theorem X8_gone_j37_ok {E : Ev}  {N : Nat}    {v2 : Int32} {σ : Sg} {r : Int32 × Sg} (h : X8_gone_j37 N   v2 σ = some r) : Gp E RX8 cX8_gone (some .int) 3 (6) SH0 r.2 (some (.int r.1)) σ 37 [(0, .ref 0), (2, .int v2)] [] := by
  intro Z C hE
  unfold X8_gone_j37 at h
  refine r_aload_n (pc' := 38) C dX8_gone_37 rfl 0 rfl ?_
  refine r_getR (pc' := 41) C flX8_19 sh_0 rfl dX8_gone_38 rfl ?_
  refine r_aload_n (pc' := 42) C dX8_gone_41 rfl 0 rfl ?_
  refine r_getR (pc' := 45) C flX8_37 sh_0 rfl dX8_gone_42 rfl ?_
  refine r_getI (pc' := 48) C flX8_186 sh_24 rfl dX8_gone_45 rfl ?_
  obtain ⟨r12, e13, h⟩ := bd h
  refine r_cS1 (pc' := 51) C (J6_bitCount_0f7a4_ok  e13) mlX8_189 ceJ6_bitCount_0f7a4 csJ6_bitCount_0f7a4 rfl (Nat.le_of_ble_eq_true rfl) rfl (Nat.le_of_ble_eq_true rfl) dX8_gone_48 rfl (kk := ?_)
  refine r_iconst (pc' := 52) C dX8_gone_51 rfl kc_1 ?_
  refine r_isub (pc' := 53) C dX8_gone_52 rfl ?_
  refine r_i2l (pc' := 54) C dX8_gone_53 rfl rfl ?_
  obtain ⟨r14, e15, h⟩ := bd h
  refine r_cV0 (pc' := 57) C (X2_tell_ok  e15) mlX8_261 ceX2_tell cvX2_tell sh_3 rfl rfl rfl (Nat.le_of_ble_eq_true rfl) rfl (Nat.le_of_ble_eq_true rfl) dX8_gone_54 rfl (kk := ?_)
  refine r_iload_n (pc' := 58) C dX8_gone_57 rfl 1 rfl ?_
  have h := Option.some.inj h
  subst h
  exact r_ret C rfl dX8_gone_58 hE
def X8_gone (N : Nat)  (v1 : Int32) (σ : Sg) : Option (Int32 × Sg) :=
  (X0_isThing N v1 σ).bind fun r1 => (if r1 = 0 then (some ((-1), σ)) else ((X8_foresee N 0 σ).bind fun r4 => (X8_gone_l20 N (fun v2 σ => X8_gone_j37 N v2 σ) N v1 0 r4)))
set_option maxRecDepth 100000 in
set_option maxHeartbeats 4000000 in
theorem X8_gone_ok {E : Ev}  {N : Nat} {v1 : Int32} {σ : Sg} {r : Int32 × Sg} (h : X8_gone N  v1 σ = some r) : Cm E (6) yX8_gone cX8_gone 3 (some .int) [.ref 0, .int v1] SH0 SH0 σ r.2 (some (.int r.1)) 0 0 := by
  refine Cm.intro (by decide +kernel) (Nat.le_of_ble_eq_true rfl) (fun _ h => by obtain ⟨_, _, _, _, _, _, h⟩ := h; exact h) (fun Z C hE => ?_)
  show Wm E Z 0 0 SH0 σ 0 [(0, .ref 0), (1, .int v1)] []
  unfold X8_gone at h
  refine r_aload_n (pc' := 1) C dX8_gone_0 rfl 0 rfl ?_
  refine r_getR (pc' := 4) C flX8_26 sh_0 rfl dX8_gone_1 rfl ?_
  refine r_iload_n (pc' := 5) C dX8_gone_4 rfl 1 rfl ?_
  obtain ⟨r1, e2, h⟩ := bd h
  refine r_cV1 (pc' := 8) C (X0_isThing_ok  e2) mlX8_138 ceX0_isThing cvX0_isThing sh_5 rfl rfl rfl (Nat.le_of_ble_eq_true rfl) rfl (Nat.le_of_ble_eq_true rfl) dX8_gone_5 rfl (kk := ?_)
  refine r_if_ne (tgt := 13) (pc' := 11) C dX8_gone_8 rfl rfl (fun c3 => ?_) (fun c3 => ?_)
  · rw [if_neg c3] at h
    refine r_aload_n (pc' := 14) C dX8_gone_13 rfl 0 rfl ?_
    refine r_iconst (pc' := 15) C dX8_gone_14 rfl kc_0 ?_
    obtain ⟨r4, e5, h⟩ := bd h
    refine r_cV0 (pc' := 18) C (X8_foresee_ok  e5) mlX8_258 ceX8_foresee cvX8_foresee sh_0 rfl rfl rfl (Nat.le_of_ble_eq_true rfl) rfl (Nat.le_of_ble_eq_true rfl) dX8_gone_15 rfl (kk := ?_)
    refine r_iconst (pc' := 19) C dX8_gone_18 rfl kc_0 ?_
    refine r_istore_n (pc' := 20) (lv2 := [(2, .int 0), (0, .ref 0), (1, .int v1)]) C dX8_gone_19 rfl rfl (Nat.le_of_ble_eq_true rfl) rfl ?_
    refine r_sub [1, 2, 0] rfl ?_
    exact X8_gone_l20_ok  (fun _ _ _ h Z C hE => by exact X8_gone_j37_ok  h Z C hE) N _ _ _ _ h Z C hE
  · rw [if_pos c3] at h
    refine r_iconst (pc' := 12) C dX8_gone_11 rfl kc_m1 ?_
    have h := Option.some.inj h
    subst h
    exact r_ret C rfl dX8_gone_12 hE

/-! BorrowedWeight.ahead(I)I -/
def X8_ahead_l28 (N : Nat)    : Nat → Int32 → Int32 → Sg → Option (Int32 × Sg)
  | 0, _, _, _ => none
  | n + 1, v2, v3, σ =>
    if (gi σ 5 1) ≤ v3 then (some (v2, σ)) else (if inb v3 8 = true then (X2_add N ((gi σ 25 v3.toNatClampNeg).toInt64) σ).bind fun r9 => (if inb v3 8 = true then X8_ahead_l28 N n (v2 + (gi r9 25 v3.toNatClampNeg)) (v3 + 1) r9 else none) else none)
set_option maxRecDepth 100000 in
set_option maxHeartbeats 4000000 in
theorem X8_ahead_l28_ok {E : Ev}  {N : Nat}    : ∀ (n : Nat) (v2 : Int32) (v3 : Int32) (σ : Sg) (r : Int32 × Sg), X8_ahead_l28 N n v2 v3 σ = some r → Gp E RX8 cX8_ahead (some .int) 4 (6) SH0 r.2 (some (.int r.1)) σ 28 [(0, .ref 0), (2, .int v2), (3, .int v3)] [] := by
  intro n
  induction n with
  | zero => intro v2 v3 σ r h; cases h
  | succ n ih =>
    intro v2 v3 σ r h Z C hE
    unfold X8_ahead_l28 at h
    refine r_iload_n (pc' := 29) C dX8_ahead_28 rfl 2 rfl ?_
    refine r_aload_n (pc' := 30) C dX8_ahead_29 rfl 0 rfl ?_
    refine r_getR (pc' := 33) C flX8_26 sh_0 rfl dX8_ahead_30 rfl ?_
    refine r_getI (pc' := 36) C flX8_265 sh_5 rfl dX8_ahead_33 rfl ?_
    refine r_icmp_ge (tgt := 74) (pc' := 39) C dX8_ahead_36 rfl rfl (fun c7 => ?_) (fun c7 => ?_)
    · rw [if_pos c7] at h
      refine r_iload_n (pc' := 75) C dX8_ahead_74 rfl 1 rfl ?_
      have h := Option.some.inj h
      subst h
      exact r_ret C rfl dX8_ahead_75 hE
    · rw [if_neg c7] at h
      refine r_aload_n (pc' := 40) C dX8_ahead_39 rfl 0 rfl ?_
      refine r_getR (pc' := 43) C flX8_19 sh_0 rfl dX8_ahead_40 rfl ?_
      refine r_aload_n (pc' := 44) C dX8_ahead_43 rfl 0 rfl ?_
      refine r_getR (pc' := 47) C flX8_37 sh_0 rfl dX8_ahead_44 rfl ?_
      refine r_getR (pc' := 50) C flX8_151 sh_24 rfl dX8_ahead_47 rfl ?_
      refine r_iload_n (pc' := 51) C dX8_ahead_50 rfl 2 rfl ?_
      obtain ⟨q8, h⟩ := ck h
      refine r_iald (pc' := 52) C sh_25 (vin q8) dX8_ahead_51 rfl ?_
      refine r_i2l (pc' := 53) C dX8_ahead_52 rfl rfl ?_
      obtain ⟨r9, e10, h⟩ := bd h
      refine r_cV0 (pc' := 56) C (X2_add_ok  e10) mlX8_268 ceX2_add cvX2_add sh_3 rfl rfl rfl (Nat.le_of_ble_eq_true rfl) rfl (Nat.le_of_ble_eq_true rfl) dX8_ahead_53 rfl (kk := ?_)
      refine r_iload_n (pc' := 57) C dX8_ahead_56 rfl 1 rfl ?_
      refine r_aload_n (pc' := 58) C dX8_ahead_57 rfl 0 rfl ?_
      refine r_getR (pc' := 61) C flX8_37 sh_0 rfl dX8_ahead_58 rfl ?_
      refine r_getR (pc' := 64) C flX8_151 sh_24 rfl dX8_ahead_61 rfl ?_
      refine r_iload_n (pc' := 65) C dX8_ahead_64 rfl 2 rfl ?_
      obtain ⟨q11, h⟩ := ck h
      refine r_iald (pc' := 66) C sh_25 (vin q11) dX8_ahead_65 rfl ?_
      refine r_iadd (pc' := 67) C dX8_ahead_66 rfl ?_
      refine r_istore_n (pc' := 68) (lv2 := [(2, .int (v2 + (gi r9 25 v3.toNatClampNeg))), (0, .ref 0), (3, .int v3)]) C dX8_ahead_67 rfl rfl (Nat.le_of_ble_eq_true rfl) rfl ?_
      refine r_iinc (pc' := 71) (v := v3 + 1) (lv2 := [(3, .int (v3 + 1)), (2, .int (v2 + (gi r9 25 v3.toNatClampNeg))), (0, .ref 0)]) C dX8_ahead_68 rfl 2 rfl rfl (Nat.le_of_ble_eq_true rfl) rfl ?_
      refine r_goto (tgt := 28) C dX8_ahead_71 rfl ?_
      refine r_sub [2, 1, 0] rfl ?_
      exact ih _ _ _ _ h Z C hE
def X8_ahead (N : Nat)  (v1 : Int32) (σ : Sg) : Option (Int32 × Sg) :=
  if v1 < 0 then (some ((-1), σ)) else (if v1 ≤ 99 then ((X8_foresee N v1 σ).bind fun r3 => ((X2_clear N r3).bind fun r5 => (X8_ahead_l28 N N 0 0 r5))) else (some ((-1), σ)))
set_option maxRecDepth 100000 in
set_option maxHeartbeats 4000000 in
theorem X8_ahead_ok {E : Ev}  {N : Nat} {v1 : Int32} {σ : Sg} {r : Int32 × Sg} (h : X8_ahead N  v1 σ = some r) : Cm E (6) yX8_ahead cX8_ahead 4 (some .int) [.ref 0, .int v1] SH0 SH0 σ r.2 (some (.int r.1)) 0 0 := by
  refine Cm.intro (by decide +kernel) (Nat.le_of_ble_eq_true rfl) (fun _ h => by obtain ⟨_, _, _, _, _, _, h⟩ := h; exact h) (fun Z C hE => ?_)
  show Wm E Z 0 0 SH0 σ 0 [(0, .ref 0), (1, .int v1)] []
  unfold X8_ahead at h
  refine r_iload_n (pc' := 1) C dX8_ahead_0 rfl 1 rfl ?_
  refine r_if_lt (tgt := 10) (pc' := 4) C dX8_ahead_1 rfl rfl (fun c1 => ?_) (fun c1 => ?_)
  · rw [if_pos c1] at h
    refine r_iconst (pc' := 11) C dX8_ahead_10 rfl kc_m1 ?_
    have h := Option.some.inj h
    subst h
    exact r_ret C rfl dX8_ahead_11 hE
  · rw [if_neg c1] at h
    refine r_iload_n (pc' := 5) C dX8_ahead_4 rfl 1 rfl ?_
    refine r_bipush (pc' := 7) C dX8_ahead_5 rfl kb_99 ?_
    refine r_icmp_le (tgt := 12) (pc' := 10) C dX8_ahead_7 rfl rfl (fun c2 => ?_) (fun c2 => ?_)
    · rw [if_pos c2] at h
      refine r_aload_n (pc' := 13) C dX8_ahead_12 rfl 0 rfl ?_
      refine r_iload_n (pc' := 14) C dX8_ahead_13 rfl 1 rfl ?_
      obtain ⟨r3, e4, h⟩ := bd h
      refine r_cV0 (pc' := 17) C (X8_foresee_ok  e4) mlX8_258 ceX8_foresee cvX8_foresee sh_0 rfl rfl rfl (Nat.le_of_ble_eq_true rfl) rfl (Nat.le_of_ble_eq_true rfl) dX8_ahead_14 rfl (kk := ?_)
      refine r_aload_n (pc' := 18) C dX8_ahead_17 rfl 0 rfl ?_
      refine r_getR (pc' := 21) C flX8_19 sh_0 rfl dX8_ahead_18 rfl ?_
      obtain ⟨r5, e6, h⟩ := bd h
      refine r_cV0 (pc' := 24) C (X2_clear_ok  e6) mlX8_264 ceX2_clear cvX2_clear sh_3 rfl rfl rfl (Nat.le_of_ble_eq_true rfl) rfl (Nat.le_of_ble_eq_true rfl) dX8_ahead_21 rfl (kk := ?_)
      refine r_iconst (pc' := 25) C dX8_ahead_24 rfl kc_0 ?_
      refine r_istore_n (pc' := 26) (lv2 := [(2, .int 0), (0, .ref 0), (1, .int v1)]) C dX8_ahead_25 rfl rfl (Nat.le_of_ble_eq_true rfl) rfl ?_
      refine r_iconst (pc' := 27) C dX8_ahead_26 rfl kc_0 ?_
      refine r_istore_n (pc' := 28) (lv2 := [(3, .int 0), (2, .int 0), (0, .ref 0), (1, .int v1)]) C dX8_ahead_27 rfl rfl (Nat.le_of_ble_eq_true rfl) rfl ?_
      refine r_sub [2, 1, 0] rfl ?_
      exact X8_ahead_l28_ok  N _ _ _ _ h Z C hE
    · rw [if_neg c2] at h
      refine r_iconst (pc' := 11) C dX8_ahead_10 rfl kc_m1 ?_
      have h := Option.some.inj h
      subst h
      exact r_ret C rfl dX8_ahead_11 hE

/-! BorrowedWeight.least(I)I -/
def X8_least_l61 (N : Nat)  (k131 : Int32 → Int32 → Int32 → Sg → Option (Int32 × Sg))  : Nat → Int32 → Int32 → Int32 → Int32 → Int32 → Int32 → Sg → Option (Int32 × Sg)
  | 0, _, _, _, _, _, _, _ => none
  | n + 1, v1, v2, v3, v4, v5, v6, σ =>
    if (gi σ 5 6) ≤ v6 then (k131 v3 v4 v5 σ) else (if inb v6 8 = true then if ((gi σ 16 v6.toNatClampNeg) &&& v1) = 0 then (X8_least_l61 N k131 n v1 v2 v3 v4 v5 (v6 + 1) σ) else (if ((gi σ 16 v6.toNatClampNeg) &&& v2) = 0 then (X8_least_l61 N k131 n v1 v2 v3 v4 v5 (v6 + 1) σ) else ((X0_excess N 19 (gi σ 16 v6.toNatClampNeg) σ).bind fun r12 => (X8_least_l61 N k131 n v1 v2 (v3 - r12) (v4 + 1) (v5 ||| (gi σ 16 v6.toNatClampNeg)) (v6 + 1) σ))) else none)
set_option maxRecDepth 100000 in
set_option maxHeartbeats 4000000 in
theorem X8_least_l61_ok {E : Ev}  {N : Nat} {k131 : Int32 → Int32 → Int32 → Sg → Option (Int32 × Sg)}  (hk131 : ∀ (v3 : Int32) (v4 : Int32) (v5 : Int32) (σ : Sg) (r : Int32 × Sg), k131 v3 v4 v5 σ = some r → Gp E RX8 cX8_least (some .int) 8 (4) SH0 r.2 (some (.int r.1)) σ 131 [(0, .ref 0), (3, .int v3), (4, .int v4), (5, .int v5)] []) : ∀ (n : Nat) (v1 : Int32) (v2 : Int32) (v3 : Int32) (v4 : Int32) (v5 : Int32) (v6 : Int32) (σ : Sg) (r : Int32 × Sg), X8_least_l61 N k131 n v1 v2 v3 v4 v5 v6 σ = some r → Gp E RX8 cX8_least (some .int) 8 (4) SH0 r.2 (some (.int r.1)) σ 61 [(0, .ref 0), (1, .int v1), (2, .int v2), (3, .int v3), (4, .int v4), (5, .int v5), (6, .int v6)] [] := by
  intro n
  induction n with
  | zero => intro v1 v2 v3 v4 v5 v6 σ r h; cases h
  | succ n ih =>
    intro v1 v2 v3 v4 v5 v6 σ r h Z C hE
    unfold X8_least_l61 at h
    refine r_iload (pc' := 63) C dX8_least_61 rfl 6 rfl ?_
    refine r_aload_n (pc' := 64) C dX8_least_63 rfl 0 rfl ?_
    refine r_getR (pc' := 67) C flX8_26 sh_0 rfl dX8_least_64 rfl ?_
    refine r_getI (pc' := 70) C flX8_246 sh_5 rfl dX8_least_67 rfl ?_
    refine r_icmp_ge (tgt := 131) (pc' := 73) C dX8_least_70 rfl rfl (fun c8 => ?_) (fun c8 => ?_)
    · rw [if_pos c8] at h
      refine r_sub [0, 3, 4, 5] rfl ?_
      exact hk131 _ _ _ _ _ h Z C hE
    · rw [if_neg c8] at h
      refine r_aload_n (pc' := 74) C dX8_least_73 rfl 0 rfl ?_
      refine r_getR (pc' := 77) C flX8_26 sh_0 rfl dX8_least_74 rfl ?_
      refine r_getR (pc' := 80) C flX8_249 sh_5 rfl dX8_least_77 rfl ?_
      refine r_iload (pc' := 82) C dX8_least_80 rfl 6 rfl ?_
      obtain ⟨q9, h⟩ := ck h
      refine r_iald (pc' := 83) C sh_16 (vin q9) dX8_least_82 rfl ?_
      refine r_istore (pc' := 85) (lv2 := [(7, .int (gi σ 16 v6.toNatClampNeg)), (0, .ref 0), (1, .int v1), (2, .int v2), (3, .int v3), (4, .int v4), (5, .int v5), (6, .int v6)]) C dX8_least_83 rfl (Nat.le_of_ble_eq_true rfl) rfl ?_
      refine r_iload (pc' := 87) C dX8_least_85 rfl 0 rfl ?_
      refine r_iload_n (pc' := 88) C dX8_least_87 rfl 2 rfl ?_
      refine r_iand (pc' := 89) C dX8_least_88 rfl ?_
      refine r_if_eq (tgt := 125) (pc' := 92) C dX8_least_89 rfl rfl (fun c10 => ?_) (fun c10 => ?_)
      · rw [if_pos c10] at h
        refine r_iinc (pc' := 128) (v := v6 + 1) (lv2 := [(6, .int (v6 + 1)), (7, .int (gi σ 16 v6.toNatClampNeg)), (0, .ref 0), (1, .int v1), (2, .int v2), (3, .int v3), (4, .int v4), (5, .int v5)]) C dX8_least_125 rfl 7 rfl rfl (Nat.le_of_ble_eq_true rfl) rfl ?_
        refine r_goto (tgt := 61) C dX8_least_128 rfl ?_
        refine r_sub [2, 3, 4, 5, 6, 7, 0] rfl ?_
        exact ih _ _ _ _ _ _ _ _ h Z C hE
      · rw [if_neg c10] at h
        refine r_iload (pc' := 94) C dX8_least_92 rfl 0 rfl ?_
        refine r_iload_n (pc' := 95) C dX8_least_94 rfl 3 rfl ?_
        refine r_iand (pc' := 96) C dX8_least_95 rfl ?_
        refine r_if_eq (tgt := 125) (pc' := 99) C dX8_least_96 rfl rfl (fun c11 => ?_) (fun c11 => ?_)
        · rw [if_pos c11] at h
          refine r_iinc (pc' := 128) (v := v6 + 1) (lv2 := [(6, .int (v6 + 1)), (7, .int (gi σ 16 v6.toNatClampNeg)), (0, .ref 0), (1, .int v1), (2, .int v2), (3, .int v3), (4, .int v4), (5, .int v5)]) C dX8_least_125 rfl 7 rfl rfl (Nat.le_of_ble_eq_true rfl) rfl ?_
          refine r_goto (tgt := 61) C dX8_least_128 rfl ?_
          refine r_sub [2, 3, 4, 5, 6, 7, 0] rfl ?_
          exact ih _ _ _ _ _ _ _ _ h Z C hE
        · rw [if_neg c11] at h
          refine r_iload_n (pc' := 100) C dX8_least_99 rfl 4 rfl ?_
          refine r_aload_n (pc' := 101) C dX8_least_100 rfl 1 rfl ?_
          refine r_getR (pc' := 104) C flX8_26 sh_0 rfl dX8_least_101 rfl ?_
          refine r_aload_n (pc' := 105) C dX8_least_104 rfl 1 rfl ?_
          refine r_getR (pc' := 108) C flX8_33 sh_0 rfl dX8_least_105 rfl ?_
          refine r_iload (pc' := 110) C dX8_least_108 rfl 0 rfl ?_
          obtain ⟨r12, e13, h⟩ := bd h
          refine r_cV1 (pc' := 113) C (X0_excess_ok stc_19 e13) mlX8_273 ceX0_excess cvX0_excess sh_5 rfl rfl rfl (Nat.le_of_ble_eq_true rfl) rfl (Nat.le_of_ble_eq_true rfl) dX8_least_110 rfl (kk := ?_)
          refine r_isub (pc' := 114) C dX8_least_113 rfl ?_
          refine r_istore_n (pc' := 115) (lv2 := [(3, .int (v3 - r12)), (7, .int (gi σ 16 v6.toNatClampNeg)), (0, .ref 0), (1, .int v1), (2, .int v2), (4, .int v4), (5, .int v5), (6, .int v6)]) C dX8_least_114 rfl rfl (Nat.le_of_ble_eq_true rfl) rfl ?_
          refine r_iinc (pc' := 118) (v := v4 + 1) (lv2 := [(4, .int (v4 + 1)), (3, .int (v3 - r12)), (7, .int (gi σ 16 v6.toNatClampNeg)), (0, .ref 0), (1, .int v1), (2, .int v2), (5, .int v5), (6, .int v6)]) C dX8_least_115 rfl 5 rfl rfl (Nat.le_of_ble_eq_true rfl) rfl ?_
          refine r_iload (pc' := 120) C dX8_least_118 rfl 6 rfl ?_
          refine r_iload (pc' := 122) C dX8_least_120 rfl 2 rfl ?_
          refine r_ior (pc' := 123) C dX8_least_122 rfl ?_
          refine r_istore (pc' := 125) (lv2 := [(5, .int (v5 ||| (gi σ 16 v6.toNatClampNeg))), (4, .int (v4 + 1)), (3, .int (v3 - r12)), (7, .int (gi σ 16 v6.toNatClampNeg)), (0, .ref 0), (1, .int v1), (2, .int v2), (6, .int v6)]) C dX8_least_123 rfl (Nat.le_of_ble_eq_true rfl) rfl ?_
          refine r_iinc (pc' := 128) (v := v6 + 1) (lv2 := [(6, .int (v6 + 1)), (5, .int (v5 ||| (gi σ 16 v6.toNatClampNeg))), (4, .int (v4 + 1)), (3, .int (v3 - r12)), (7, .int (gi σ 16 v6.toNatClampNeg)), (0, .ref 0), (1, .int v1), (2, .int v2)]) C dX8_least_125 rfl 7 rfl rfl (Nat.le_of_ble_eq_true rfl) rfl ?_
          refine r_goto (tgt := 61) C dX8_least_128 rfl ?_
          refine r_sub [5, 6, 7, 3, 2, 1, 0] rfl ?_
          exact ih _ _ _ _ _ _ _ _ h Z C hE
def X8_least_j131 (N : Nat)   (v3 : Int32) (v4 : Int32) (v5 : Int32) (σ : Sg) : Option (Int32 × Sg) :=
  (X2_tell_ N v4.toInt64 v5.toInt64 σ).bind fun r14 => (some (v3, r14))
set_option maxRecDepth 100000 in
set_option maxHeartbeats 4000000 in
theorem X8_least_j131_ok {E : Ev}  {N : Nat}    {v3 : Int32} {v4 : Int32} {v5 : Int32} {σ : Sg} {r : Int32 × Sg} (h : X8_least_j131 N   v3 v4 v5 σ = some r) : Gp E RX8 cX8_least (some .int) 8 (4) SH0 r.2 (some (.int r.1)) σ 131 [(0, .ref 0), (3, .int v3), (4, .int v4), (5, .int v5)] [] := by
  intro Z C hE
  unfold X8_least_j131 at h
  refine r_aload_n (pc' := 132) C dX8_least_131 rfl 0 rfl ?_
  refine r_getR (pc' := 135) C flX8_19 sh_0 rfl dX8_least_132 rfl ?_
  refine r_iload (pc' := 137) C dX8_least_135 rfl 2 rfl ?_
  refine r_i2l (pc' := 138) C dX8_least_137 rfl rfl ?_
  refine r_iload (pc' := 140) C dX8_least_138 rfl 3 rfl ?_
  refine r_i2l (pc' := 141) C dX8_least_140 rfl rfl ?_
  obtain ⟨r14, e15, h⟩ := bd h
  refine r_cV0 (pc' := 144) C (X2_tell__ok  e15) mlX8_198 ceX2_tell_ cvX2_tell_ sh_3 rfl rfl rfl (Nat.le_of_ble_eq_true rfl) rfl (Nat.le_of_ble_eq_true rfl) dX8_least_141 rfl (kk := ?_)
  refine r_iload_n (pc' := 145) C dX8_least_144 rfl 1 rfl ?_
  have h := Option.some.inj h
  subst h
  exact r_ret C rfl dX8_least_145 hE
def X8_least (N : Nat)  (v1 : Int32) (σ : Sg) : Option (Int32 × Sg) :=
  (X0_everything N σ).bind fun r1 => (if (v1 &&& (r1 ^^^ (-1))) = 0 then (if (v1 &&& (gi σ 19 4)) = 0 then (if isRule ((gi σ 5 2).toNatClampNeg) = true then (X0_floating N 19 ((gi σ 5 2).toNatClampNeg) σ).bind fun r6 => (X8_least_l61 N (fun v3 v4 v5 σ => X8_least_j131 N v3 v4 v5 σ) N v1 r6.1 0 0 0 0 r6.2) else none) else (some ((-2), σ))) else (some ((-1), σ)))
set_option maxRecDepth 100000 in
set_option maxHeartbeats 4000000 in
theorem X8_least_ok {E : Ev}  {N : Nat} {v1 : Int32} {σ : Sg} {r : Int32 × Sg} (h : X8_least N  v1 σ = some r) : Cm E (4) yX8_least cX8_least 8 (some .int) [.ref 0, .int v1] SH0 SH0 σ r.2 (some (.int r.1)) 0 0 := by
  refine Cm.intro (by decide +kernel) (Nat.le_of_ble_eq_true rfl) (fun _ h => by obtain ⟨_, _, _, _, _, _, h⟩ := h; exact h) (fun Z C hE => ?_)
  show Wm E Z 0 0 SH0 σ 0 [(0, .ref 0), (1, .int v1)] []
  unfold X8_least at h
  refine r_iload_n (pc' := 1) C dX8_least_0 rfl 1 rfl ?_
  refine r_aload_n (pc' := 2) C dX8_least_1 rfl 0 rfl ?_
  refine r_getR (pc' := 5) C flX8_26 sh_0 rfl dX8_least_2 rfl ?_
  obtain ⟨r1, e2, h⟩ := bd h
  refine r_cV1 (pc' := 8) C (X0_everything_ok  e2) mlX8_270 ceX0_everything cvX0_everything sh_5 rfl rfl rfl (Nat.le_of_ble_eq_true rfl) rfl (Nat.le_of_ble_eq_true rfl) dX8_least_5 rfl (kk := ?_)
  refine r_iconst (pc' := 9) C dX8_least_8 rfl kc_m1 ?_
  refine r_ixor (pc' := 10) C dX8_least_9 rfl ?_
  refine r_iand (pc' := 11) C dX8_least_10 rfl ?_
  refine r_if_eq (tgt := 16) (pc' := 14) C dX8_least_11 rfl rfl (fun c3 => ?_) (fun c3 => ?_)
  · rw [if_pos c3] at h
    refine r_iload_n (pc' := 17) C dX8_least_16 rfl 1 rfl ?_
    refine r_aload_n (pc' := 18) C dX8_least_17 rfl 0 rfl ?_
    refine r_getR (pc' := 21) C flX8_33 sh_0 rfl dX8_least_18 rfl ?_
    refine r_getI (pc' := 24) C flX8_186 sh_19 rfl dX8_least_21 rfl ?_
    refine r_iand (pc' := 25) C dX8_least_24 rfl ?_
    refine r_if_eq (tgt := 31) (pc' := 28) C dX8_least_25 rfl rfl (fun c4 => ?_) (fun c4 => ?_)
    · rw [if_pos c4] at h
      refine r_aload_n (pc' := 32) C dX8_least_31 rfl 0 rfl ?_
      refine r_getR (pc' := 35) C flX8_26 sh_0 rfl dX8_least_32 rfl ?_
      refine r_aload_n (pc' := 36) C dX8_least_35 rfl 0 rfl ?_
      refine r_getR (pc' := 39) C flX8_33 sh_0 rfl dX8_least_36 rfl ?_
      refine r_aload_n (pc' := 40) C dX8_least_39 rfl 0 rfl ?_
      refine r_getR (pc' := 43) C flX8_26 sh_0 rfl dX8_least_40 rfl ?_
      refine r_getD (pc' := 46) C flX8_163 sh_5 rfl dX8_least_43 rfl ?_
      obtain ⟨q5, h⟩ := ck h
      obtain ⟨r6, e7, h⟩ := bd h
      refine r_cV1 (pc' := 49) C (X0_floating_ok stc_19 (ruof q5) e7) mlX8_242 ceX0_floating cvX0_floating sh_5 rfl rfl rfl (Nat.le_of_ble_eq_true rfl) rfl (Nat.le_of_ble_eq_true rfl) dX8_least_46 rfl (kk := ?_)
      refine r_istore_n (pc' := 50) (lv2 := [(2, .int r6.1), (0, .ref 0), (1, .int v1)]) C dX8_least_49 rfl rfl (Nat.le_of_ble_eq_true rfl) rfl ?_
      refine r_iconst (pc' := 51) C dX8_least_50 rfl kc_0 ?_
      refine r_istore_n (pc' := 52) (lv2 := [(3, .int 0), (2, .int r6.1), (0, .ref 0), (1, .int v1)]) C dX8_least_51 rfl rfl (Nat.le_of_ble_eq_true rfl) rfl ?_
      refine r_iconst (pc' := 53) C dX8_least_52 rfl kc_0 ?_
      refine r_istore (pc' := 55) (lv2 := [(4, .int 0), (3, .int 0), (2, .int r6.1), (0, .ref 0), (1, .int v1)]) C dX8_least_53 rfl (Nat.le_of_ble_eq_true rfl) rfl ?_
      refine r_iconst (pc' := 56) C dX8_least_55 rfl kc_0 ?_
      refine r_istore (pc' := 58) (lv2 := [(5, .int 0), (4, .int 0), (3, .int 0), (2, .int r6.1), (0, .ref 0), (1, .int v1)]) C dX8_least_56 rfl (Nat.le_of_ble_eq_true rfl) rfl ?_
      refine r_iconst (pc' := 59) C dX8_least_58 rfl kc_0 ?_
      refine r_istore (pc' := 61) (lv2 := [(6, .int 0), (5, .int 0), (4, .int 0), (3, .int 0), (2, .int r6.1), (0, .ref 0), (1, .int v1)]) C dX8_least_59 rfl (Nat.le_of_ble_eq_true rfl) rfl ?_
      refine r_sub [5, 6, 4, 3, 2, 1, 0] rfl ?_
      exact X8_least_l61_ok  (fun _ _ _ _ _ h Z C hE => by exact X8_least_j131_ok  h Z C hE) N _ _ _ _ _ _ _ _ h Z C hE
    · rw [if_neg c4] at h
      refine r_bipush (pc' := 30) C dX8_least_28 rfl kb_m2 ?_
      have h := Option.some.inj h
      subst h
      exact r_ret C rfl dX8_least_30 hE
  · rw [if_neg c3] at h
    refine r_iconst (pc' := 15) C dX8_least_14 rfl kc_m1 ?_
    have h := Option.some.inj h
    subst h
    exact r_ret C rfl dX8_least_15 hE

/-! BorrowedWeight.clearShares()V -/
def X8_clearShares_l2 (N : Nat)    : Nat → Int32 → Sg → Option (Sg)
  | 0, _, _ => none
  | n + 1, v1, σ =>
    if 8 ≤ v1 then (some σ) else (if inb v1 8 = true then bnS (wi σ 142 v1.toNatClampNeg 0) fun σ3 => X8_clearShares_l2 N n (v1 + 1) σ3 else none)
set_option maxRecDepth 100000 in
set_option maxHeartbeats 4000000 in
theorem X8_clearShares_l2_ok {E : Ev}  {N : Nat}    : ∀ (n : Nat) (v1 : Int32) (σ : Sg) (r : Sg), X8_clearShares_l2 N n v1 σ = some r → Gp E RX8 cX8_clearShares none 2 (0) SH0 r (none) σ 2 [(0, .ref 0), (1, .int v1)] [] := by
  intro n
  induction n with
  | zero => intro v1 σ r h; cases h
  | succ n ih =>
    intro v1 σ r h Z C hE
    unfold X8_clearShares_l2 at h
    refine r_iload_n (pc' := 3) C dX8_clearShares_2 rfl 1 rfl ?_
    refine r_bipush (pc' := 5) C dX8_clearShares_3 rfl kb_8 ?_
    refine r_icmp_ge (tgt := 21) (pc' := 8) C dX8_clearShares_5 rfl rfl (fun c1 => ?_) (fun c1 => ?_)
    · rw [if_pos c1] at h
      have h := Option.some.inj h
      subst h
      exact r_vret C dX8_clearShares_21 hE
    · rw [if_neg c1] at h
      refine r_aload_n (pc' := 9) C dX8_clearShares_8 rfl 0 rfl ?_
      refine r_getR (pc' := 12) C flX8_61 sh_0 rfl dX8_clearShares_9 rfl ?_
      refine r_iload_n (pc' := 13) C dX8_clearShares_12 rfl 1 rfl ?_
      refine r_iconst (pc' := 14) C dX8_clearShares_13 rfl kc_0 ?_
      obtain ⟨q2, h⟩ := ck h
      obtain ⟨σ3, e4, h⟩ := bs h
      refine r_iast (pc' := 15) (σ1 := σ3) C sh_142 (vin q2) dX8_clearShares_14 rfl e4 ?_
      refine r_iinc (pc' := 18) (v := v1 + 1) (lv2 := [(1, .int (v1 + 1)), (0, .ref 0)]) C dX8_clearShares_15 rfl 1 rfl rfl (Nat.le_of_ble_eq_true rfl) rfl ?_
      refine r_goto (tgt := 2) C dX8_clearShares_18 rfl ?_
      refine r_sub [1, 0] rfl ?_
      exact ih _ _ _ h Z C hE
def X8_clearShares (N : Nat)   (σ : Sg) : Option (Sg) :=
  X8_clearShares_l2 N N 0 σ
set_option maxRecDepth 100000 in
set_option maxHeartbeats 4000000 in
theorem X8_clearShares_ok {E : Ev}  {N : Nat}  {σ : Sg} {r : Sg} (h : X8_clearShares N   σ = some r) : Cm E (0) yX8_clearShares cX8_clearShares 2 none [.ref 0] SH0 SH0 σ r (none) 0 0 := by
  refine Cm.intro (by decide +kernel) (Nat.le_of_ble_eq_true rfl) (fun _ h => by obtain ⟨_, _, _, _, _, _, h⟩ := h; exact h) (fun Z C hE => ?_)
  show Wm E Z 0 0 SH0 σ 0 [(0, .ref 0)] []
  unfold X8_clearShares at h
  refine r_iconst (pc' := 1) C dX8_clearShares_0 rfl kc_0 ?_
  refine r_istore_n (pc' := 2) (lv2 := [(1, .int 0), (0, .ref 0)]) C dX8_clearShares_1 rfl rfl (Nat.le_of_ble_eq_true rfl) rfl ?_
  refine r_sub [1, 0] rfl ?_
  exact X8_clearShares_l2_ok  N _ _ _ h Z C hE

/-! BorrowedWeight.shareOut(II)V -/
def X8_shareOut_l5 (N : Nat)    : Nat → Int32 → Int32 → Int32 → Sg → Option (Sg)
  | 0, _, _, _, _ => none
  | n + 1, v1, v3, v4, σ =>
    if 8 ≤ v4 then (some σ) else (if ((v1 >>> (v4 &&& 31)) &&& 1) = 1 then (if inb v4 8 = true then (J9_min_7cf53 N (gi σ 20 v4.toNatClampNeg) v3 σ).bind fun r4 => (if inb v4 8 = true then bnS (wi σ 142 v4.toNatClampNeg r4) fun σ7 => if inb v4 8 = true then X8_shareOut_l5 N n v1 (v3 - (gi σ7 142 v4.toNatClampNeg)) (v4 + 1) σ7 else none else none) else none) else (X8_shareOut_l5 N n v1 v3 (v4 + 1) σ))
set_option maxRecDepth 100000 in
set_option maxHeartbeats 4000000 in
theorem X8_shareOut_l5_ok {E : Ev}  {N : Nat}    : ∀ (n : Nat) (v1 : Int32) (v3 : Int32) (v4 : Int32) (σ : Sg) (r : Sg), X8_shareOut_l5 N n v1 v3 v4 σ = some r → Gp E RX8 cX8_shareOut none 5 (1) SH0 r (none) σ 5 [(0, .ref 0), (1, .int v1), (3, .int v3), (4, .int v4)] [] := by
  intro n
  induction n with
  | zero => intro v1 v3 v4 σ r h; cases h
  | succ n ih =>
    intro v1 v3 v4 σ r h Z C hE
    unfold X8_shareOut_l5 at h
    refine r_iload (pc' := 7) C dX8_shareOut_5 rfl 3 rfl ?_
    refine r_bipush (pc' := 9) C dX8_shareOut_7 rfl kb_8 ?_
    refine r_icmp_ge (tgt := 59) (pc' := 12) C dX8_shareOut_9 rfl rfl (fun c1 => ?_) (fun c1 => ?_)
    · rw [if_pos c1] at h
      have h := Option.some.inj h
      subst h
      exact r_vret C dX8_shareOut_59 hE
    · rw [if_neg c1] at h
      refine r_iload_n (pc' := 13) C dX8_shareOut_12 rfl 1 rfl ?_
      refine r_iload (pc' := 15) C dX8_shareOut_13 rfl 3 rfl ?_
      refine r_ishr (pc' := 16) C dX8_shareOut_15 rfl ?_
      refine r_iconst (pc' := 17) C dX8_shareOut_16 rfl kc_1 ?_
      refine r_iand (pc' := 18) C dX8_shareOut_17 rfl ?_
      refine r_iconst (pc' := 19) C dX8_shareOut_18 rfl kc_1 ?_
      refine r_icmp_ne (tgt := 53) (pc' := 22) C dX8_shareOut_19 rfl rfl (fun c2 => ?_) (fun c2 => ?_)
      · rw [if_neg c2] at h
        refine r_iinc (pc' := 56) (v := v4 + 1) (lv2 := [(4, .int (v4 + 1)), (0, .ref 0), (1, .int v1), (3, .int v3)]) C dX8_shareOut_53 rfl 3 rfl rfl (Nat.le_of_ble_eq_true rfl) rfl ?_
        refine r_goto (tgt := 5) C dX8_shareOut_56 rfl ?_
        refine r_sub [1, 2, 3, 0] rfl ?_
        exact ih _ _ _ _ _ h Z C hE
      · rw [if_pos c2] at h
        refine r_aload_n (pc' := 23) C dX8_shareOut_22 rfl 0 rfl ?_
        refine r_getR (pc' := 26) C flX8_61 sh_0 rfl dX8_shareOut_23 rfl ?_
        refine r_iload (pc' := 28) C dX8_shareOut_26 rfl 3 rfl ?_
        refine r_aload_n (pc' := 29) C dX8_shareOut_28 rfl 0 rfl ?_
        refine r_getR (pc' := 32) C flX8_33 sh_0 rfl dX8_shareOut_29 rfl ?_
        refine r_getR (pc' := 35) C flX8_151 sh_19 rfl dX8_shareOut_32 rfl ?_
        refine r_iload (pc' := 37) C dX8_shareOut_35 rfl 3 rfl ?_
        obtain ⟨q3, h⟩ := ck h
        refine r_iald (pc' := 38) C sh_20 (vin q3) dX8_shareOut_37 rfl ?_
        refine r_iload_n (pc' := 39) C dX8_shareOut_38 rfl 2 rfl ?_
        obtain ⟨r4, e5, h⟩ := bd h
        refine r_cS1 (pc' := 42) C (J9_min_7cf53_ok  e5) mlX8_310 ceJ9_min_7cf53 csJ9_min_7cf53 rfl (Nat.le_of_ble_eq_true rfl) rfl (Nat.le_of_ble_eq_true rfl) dX8_shareOut_39 rfl (kk := ?_)
        obtain ⟨q6, h⟩ := ck h
        obtain ⟨σ7, e8, h⟩ := bs h
        refine r_iast (pc' := 43) (σ1 := σ7) C sh_142 (vin q6) dX8_shareOut_42 rfl e8 ?_
        refine r_iload_n (pc' := 44) C dX8_shareOut_43 rfl 2 rfl ?_
        refine r_aload_n (pc' := 45) C dX8_shareOut_44 rfl 0 rfl ?_
        refine r_getR (pc' := 48) C flX8_61 sh_0 rfl dX8_shareOut_45 rfl ?_
        refine r_iload (pc' := 50) C dX8_shareOut_48 rfl 3 rfl ?_
        obtain ⟨q9, h⟩ := ck h
        refine r_iald (pc' := 51) C sh_142 (vin q9) dX8_shareOut_50 rfl ?_
        refine r_isub (pc' := 52) C dX8_shareOut_51 rfl ?_
        refine r_istore_n (pc' := 53) (lv2 := [(3, .int (v3 - (gi σ7 142 v4.toNatClampNeg))), (0, .ref 0), (1, .int v1), (4, .int v4)]) C dX8_shareOut_52 rfl rfl (Nat.le_of_ble_eq_true rfl) rfl ?_
        refine r_iinc (pc' := 56) (v := v4 + 1) (lv2 := [(4, .int (v4 + 1)), (3, .int (v3 - (gi σ7 142 v4.toNatClampNeg))), (0, .ref 0), (1, .int v1)]) C dX8_shareOut_53 rfl 3 rfl rfl (Nat.le_of_ble_eq_true rfl) rfl ?_
        refine r_goto (tgt := 5) C dX8_shareOut_56 rfl ?_
        refine r_sub [2, 3, 1, 0] rfl ?_
        exact ih _ _ _ _ _ h Z C hE
def X8_shareOut (N : Nat)  (v1 : Int32) (v2 : Int32) (σ : Sg) : Option (Sg) :=
  X8_shareOut_l5 N N v1 v2 0 σ
set_option maxRecDepth 100000 in
set_option maxHeartbeats 4000000 in
theorem X8_shareOut_ok {E : Ev}  {N : Nat} {v1 : Int32} {v2 : Int32} {σ : Sg} {r : Sg} (h : X8_shareOut N  v1 v2 σ = some r) : Cm E (1) yX8_shareOut cX8_shareOut 5 none [.ref 0, .int v1, .int v2] SH0 SH0 σ r (none) 0 0 := by
  refine Cm.intro (by decide +kernel) (Nat.le_of_ble_eq_true rfl) (fun _ h => by obtain ⟨_, _, _, _, _, _, h⟩ := h; exact h) (fun Z C hE => ?_)
  show Wm E Z 0 0 SH0 σ 0 [(0, .ref 0), (1, .int v1), (2, .int v2)] []
  unfold X8_shareOut at h
  refine r_iload_n (pc' := 1) C dX8_shareOut_0 rfl 2 rfl ?_
  refine r_istore_n (pc' := 2) (lv2 := [(3, .int v2), (0, .ref 0), (1, .int v1), (2, .int v2)]) C dX8_shareOut_1 rfl rfl (Nat.le_of_ble_eq_true rfl) rfl ?_
  refine r_iconst (pc' := 3) C dX8_shareOut_2 rfl kc_0 ?_
  refine r_istore (pc' := 5) (lv2 := [(4, .int 0), (3, .int v2), (0, .ref 0), (1, .int v1), (2, .int v2)]) C dX8_shareOut_3 rfl (Nat.le_of_ble_eq_true rfl) rfl ?_
  refine r_sub [2, 3, 1, 0] rfl ?_
  exact X8_shareOut_l5_ok  N _ _ _ _ _ h Z C hE

/-! BorrowedWeight.surplus()I -/
def X8_surplus_l37 (N : Nat)  (k97 : Int32 → Sg → Option (Int32 × Sg))  : Nat → Int32 → Int32 → Sg → Option (Int32 × Sg)
  | 0, _, _, _ => none
  | n + 1, v1, v2, σ =>
    if (gi σ 5 6) ≤ v2 then (k97 v1 σ) else (if inb v2 8 = true then (X0_excess N 19 (gi σ 16 v2.toNatClampNeg) σ).bind fun r10 => (if r10 ≤ 0 then (X8_surplus_l37 N k97 n v1 (v2 + 1) σ) else (if inb v2 8 = true then (X8_shareOut N (gi σ 16 v2.toNatClampNeg) r10 σ).bind fun r14 => (X8_surplus_l37 N k97 n (v1 + r10) (v2 + 1) r14) else none)) else none)
set_option maxRecDepth 100000 in
set_option maxHeartbeats 4000000 in
theorem X8_surplus_l37_ok {E : Ev}  {N : Nat} {k97 : Int32 → Sg → Option (Int32 × Sg)}  (hk97 : ∀ (v1 : Int32) (σ : Sg) (r : Int32 × Sg), k97 v1 σ = some r → Gp E RX8 cX8_surplus (some .int) 4 (3) SH0 r.2 (some (.int r.1)) σ 97 [(0, .ref 0), (1, .int v1)] []) : ∀ (n : Nat) (v1 : Int32) (v2 : Int32) (σ : Sg) (r : Int32 × Sg), X8_surplus_l37 N k97 n v1 v2 σ = some r → Gp E RX8 cX8_surplus (some .int) 4 (3) SH0 r.2 (some (.int r.1)) σ 37 [(0, .ref 0), (1, .int v1), (2, .int v2)] [] := by
  intro n
  induction n with
  | zero => intro v1 v2 σ r h; cases h
  | succ n ih =>
    intro v1 v2 σ r h Z C hE
    unfold X8_surplus_l37 at h
    refine r_iload_n (pc' := 38) C dX8_surplus_37 rfl 2 rfl ?_
    refine r_aload_n (pc' := 39) C dX8_surplus_38 rfl 0 rfl ?_
    refine r_getR (pc' := 42) C flX8_26 sh_0 rfl dX8_surplus_39 rfl ?_
    refine r_getI (pc' := 45) C flX8_246 sh_5 rfl dX8_surplus_42 rfl ?_
    refine r_icmp_ge (tgt := 97) (pc' := 48) C dX8_surplus_45 rfl rfl (fun c8 => ?_) (fun c8 => ?_)
    · rw [if_pos c8] at h
      refine r_sub [0, 1] rfl ?_
      exact hk97 _ _ _ h Z C hE
    · rw [if_neg c8] at h
      refine r_aload_n (pc' := 49) C dX8_surplus_48 rfl 0 rfl ?_
      refine r_getR (pc' := 52) C flX8_26 sh_0 rfl dX8_surplus_49 rfl ?_
      refine r_aload_n (pc' := 53) C dX8_surplus_52 rfl 0 rfl ?_
      refine r_getR (pc' := 56) C flX8_33 sh_0 rfl dX8_surplus_53 rfl ?_
      refine r_aload_n (pc' := 57) C dX8_surplus_56 rfl 0 rfl ?_
      refine r_getR (pc' := 60) C flX8_26 sh_0 rfl dX8_surplus_57 rfl ?_
      refine r_getR (pc' := 63) C flX8_249 sh_5 rfl dX8_surplus_60 rfl ?_
      refine r_iload_n (pc' := 64) C dX8_surplus_63 rfl 2 rfl ?_
      obtain ⟨q9, h⟩ := ck h
      refine r_iald (pc' := 65) C sh_16 (vin q9) dX8_surplus_64 rfl ?_
      obtain ⟨r10, e11, h⟩ := bd h
      refine r_cV1 (pc' := 68) C (X0_excess_ok stc_19 e11) mlX8_273 ceX0_excess cvX0_excess sh_5 rfl rfl rfl (Nat.le_of_ble_eq_true rfl) rfl (Nat.le_of_ble_eq_true rfl) dX8_surplus_65 rfl (kk := ?_)
      refine r_istore_n (pc' := 69) (lv2 := [(3, .int r10), (0, .ref 0), (1, .int v1), (2, .int v2)]) C dX8_surplus_68 rfl rfl (Nat.le_of_ble_eq_true rfl) rfl ?_
      refine r_iload_n (pc' := 70) C dX8_surplus_69 rfl 0 rfl ?_
      refine r_if_le (tgt := 91) (pc' := 73) C dX8_surplus_70 rfl rfl (fun c12 => ?_) (fun c12 => ?_)
      · rw [if_pos c12] at h
        refine r_iinc (pc' := 94) (v := v2 + 1) (lv2 := [(2, .int (v2 + 1)), (3, .int r10), (0, .ref 0), (1, .int v1)]) C dX8_surplus_91 rfl 3 rfl rfl (Nat.le_of_ble_eq_true rfl) rfl ?_
        refine r_goto (tgt := 37) C dX8_surplus_94 rfl ?_
        refine r_sub [2, 3, 0] rfl ?_
        exact ih _ _ _ _ h Z C hE
      · rw [if_neg c12] at h
        refine r_aload_n (pc' := 74) C dX8_surplus_73 rfl 1 rfl ?_
        refine r_aload_n (pc' := 75) C dX8_surplus_74 rfl 1 rfl ?_
        refine r_getR (pc' := 78) C flX8_26 sh_0 rfl dX8_surplus_75 rfl ?_
        refine r_getR (pc' := 81) C flX8_249 sh_5 rfl dX8_surplus_78 rfl ?_
        refine r_iload_n (pc' := 82) C dX8_surplus_81 rfl 3 rfl ?_
        obtain ⟨q13, h⟩ := ck h
        refine r_iald (pc' := 83) C sh_16 (vin q13) dX8_surplus_82 rfl ?_
        refine r_iload_n (pc' := 84) C dX8_surplus_83 rfl 0 rfl ?_
        obtain ⟨r14, e15, h⟩ := bd h
        refine r_cV0 (pc' := 87) C (X8_shareOut_ok  e15) mlX8_282 ceX8_shareOut cvX8_shareOut sh_0 rfl rfl rfl (Nat.le_of_ble_eq_true rfl) rfl (Nat.le_of_ble_eq_true rfl) dX8_surplus_84 rfl (kk := ?_)
        refine r_iload_n (pc' := 88) C dX8_surplus_87 rfl 2 rfl ?_
        refine r_iload_n (pc' := 89) C dX8_surplus_88 rfl 0 rfl ?_
        refine r_iadd (pc' := 90) C dX8_surplus_89 rfl ?_
        refine r_istore_n (pc' := 91) (lv2 := [(1, .int (v1 + r10)), (3, .int r10), (0, .ref 0), (2, .int v2)]) C dX8_surplus_90 rfl rfl (Nat.le_of_ble_eq_true rfl) rfl ?_
        refine r_iinc (pc' := 94) (v := v2 + 1) (lv2 := [(2, .int (v2 + 1)), (1, .int (v1 + r10)), (3, .int r10), (0, .ref 0)]) C dX8_surplus_91 rfl 3 rfl rfl (Nat.le_of_ble_eq_true rfl) rfl ?_
        refine r_goto (tgt := 37) C dX8_surplus_94 rfl ?_
        refine r_sub [3, 1, 0] rfl ?_
        exact ih _ _ _ _ h Z C hE
def X8_surplus_l106 (N : Nat)    : Nat → Int32 → Int32 → Sg → Option (Int32 × Sg)
  | 0, _, _, _ => none
  | n + 1, v1, v2, σ =>
    if (gi σ 5 1) ≤ v2 then (some (v1, σ)) else (if inb v2 8 = true then (X2_add N ((gi σ 142 v2.toNatClampNeg).toInt64) σ).bind fun r20 => (X8_surplus_l106 N n v1 (v2 + 1) r20) else none)
set_option maxRecDepth 100000 in
set_option maxHeartbeats 4000000 in
theorem X8_surplus_l106_ok {E : Ev}  {N : Nat}    : ∀ (n : Nat) (v1 : Int32) (v2 : Int32) (σ : Sg) (r : Int32 × Sg), X8_surplus_l106 N n v1 v2 σ = some r → Gp E RX8 cX8_surplus (some .int) 4 (3) SH0 r.2 (some (.int r.1)) σ 106 [(0, .ref 0), (1, .int v1), (2, .int v2)] [] := by
  intro n
  induction n with
  | zero => intro v1 v2 σ r h; cases h
  | succ n ih =>
    intro v1 v2 σ r h Z C hE
    unfold X8_surplus_l106 at h
    refine r_iload_n (pc' := 107) C dX8_surplus_106 rfl 2 rfl ?_
    refine r_aload_n (pc' := 108) C dX8_surplus_107 rfl 0 rfl ?_
    refine r_getR (pc' := 111) C flX8_26 sh_0 rfl dX8_surplus_108 rfl ?_
    refine r_getI (pc' := 114) C flX8_265 sh_5 rfl dX8_surplus_111 rfl ?_
    refine r_icmp_ge (tgt := 137) (pc' := 117) C dX8_surplus_114 rfl rfl (fun c18 => ?_) (fun c18 => ?_)
    · rw [if_pos c18] at h
      refine r_iload_n (pc' := 138) C dX8_surplus_137 rfl 1 rfl ?_
      have h := Option.some.inj h
      subst h
      exact r_ret C rfl dX8_surplus_138 hE
    · rw [if_neg c18] at h
      refine r_aload_n (pc' := 118) C dX8_surplus_117 rfl 0 rfl ?_
      refine r_getR (pc' := 121) C flX8_19 sh_0 rfl dX8_surplus_118 rfl ?_
      refine r_aload_n (pc' := 122) C dX8_surplus_121 rfl 0 rfl ?_
      refine r_getR (pc' := 125) C flX8_61 sh_0 rfl dX8_surplus_122 rfl ?_
      refine r_iload_n (pc' := 126) C dX8_surplus_125 rfl 2 rfl ?_
      obtain ⟨q19, h⟩ := ck h
      refine r_iald (pc' := 127) C sh_142 (vin q19) dX8_surplus_126 rfl ?_
      refine r_i2l (pc' := 128) C dX8_surplus_127 rfl rfl ?_
      obtain ⟨r20, e21, h⟩ := bd h
      refine r_cV0 (pc' := 131) C (X2_add_ok  e21) mlX8_268 ceX2_add cvX2_add sh_3 rfl rfl rfl (Nat.le_of_ble_eq_true rfl) rfl (Nat.le_of_ble_eq_true rfl) dX8_surplus_128 rfl (kk := ?_)
      refine r_iinc (pc' := 134) (v := v2 + 1) (lv2 := [(2, .int (v2 + 1)), (0, .ref 0), (1, .int v1)]) C dX8_surplus_131 rfl 2 rfl rfl (Nat.le_of_ble_eq_true rfl) rfl ?_
      refine r_goto (tgt := 106) C dX8_surplus_134 rfl ?_
      refine r_sub [1, 2, 0] rfl ?_
      exact ih _ _ _ _ h Z C hE
def X8_surplus_j97 (N : Nat)   (v1 : Int32) (σ : Sg) : Option (Int32 × Sg) :=
  (X2_clear N σ).bind fun r16 => (X8_surplus_l106 N N v1 0 r16)
set_option maxRecDepth 100000 in
set_option maxHeartbeats 4000000 in
theorem X8_surplus_j97_ok {E : Ev}  {N : Nat}    {v1 : Int32} {σ : Sg} {r : Int32 × Sg} (h : X8_surplus_j97 N   v1 σ = some r) : Gp E RX8 cX8_surplus (some .int) 4 (3) SH0 r.2 (some (.int r.1)) σ 97 [(0, .ref 0), (1, .int v1)] [] := by
  intro Z C hE
  unfold X8_surplus_j97 at h
  refine r_aload_n (pc' := 98) C dX8_surplus_97 rfl 0 rfl ?_
  refine r_getR (pc' := 101) C flX8_19 sh_0 rfl dX8_surplus_98 rfl ?_
  obtain ⟨r16, e17, h⟩ := bd h
  refine r_cV0 (pc' := 104) C (X2_clear_ok  e17) mlX8_264 ceX2_clear cvX2_clear sh_3 rfl rfl rfl (Nat.le_of_ble_eq_true rfl) rfl (Nat.le_of_ble_eq_true rfl) dX8_surplus_101 rfl (kk := ?_)
  refine r_iconst (pc' := 105) C dX8_surplus_104 rfl kc_0 ?_
  refine r_istore_n (pc' := 106) (lv2 := [(2, .int 0), (0, .ref 0), (1, .int v1)]) C dX8_surplus_105 rfl rfl (Nat.le_of_ble_eq_true rfl) rfl ?_
  refine r_sub [1, 2, 0] rfl ?_
  exact X8_surplus_l106_ok  N _ _ _ _ h Z C hE
def X8_surplus (N : Nat)   (σ : Sg) : Option (Int32 × Sg) :=
  if isRule ((gi σ 5 2).toNatClampNeg) = true then (X0_weigh N 19 ((gi σ 5 2).toNatClampNeg) σ).bind fun r2 => ((X0_part N 19 r2).bind fun r4 => ((X8_clearShares N r4).bind fun r6 => (X8_surplus_l37 N (fun v1 σ => X8_surplus_j97 N v1 σ) N 0 0 r6))) else none
set_option maxRecDepth 100000 in
set_option maxHeartbeats 4000000 in
theorem X8_surplus_ok {E : Ev}  {N : Nat}  {σ : Sg} {r : Int32 × Sg} (h : X8_surplus N   σ = some r) : Cm E (3) yX8_surplus cX8_surplus 4 (some .int) [.ref 0] SH0 SH0 σ r.2 (some (.int r.1)) 0 0 := by
  refine Cm.intro (by decide +kernel) (Nat.le_of_ble_eq_true rfl) (fun _ h => by obtain ⟨_, _, _, _, _, _, h⟩ := h; exact h) (fun Z C hE => ?_)
  show Wm E Z 0 0 SH0 σ 0 [(0, .ref 0)] []
  unfold X8_surplus at h
  refine r_aload_n (pc' := 1) C dX8_surplus_0 rfl 0 rfl ?_
  refine r_getR (pc' := 4) C flX8_26 sh_0 rfl dX8_surplus_1 rfl ?_
  refine r_aload_n (pc' := 5) C dX8_surplus_4 rfl 0 rfl ?_
  refine r_getR (pc' := 8) C flX8_33 sh_0 rfl dX8_surplus_5 rfl ?_
  refine r_aload_n (pc' := 9) C dX8_surplus_8 rfl 0 rfl ?_
  refine r_getR (pc' := 12) C flX8_26 sh_0 rfl dX8_surplus_9 rfl ?_
  refine r_getD (pc' := 15) C flX8_163 sh_5 rfl dX8_surplus_12 rfl ?_
  obtain ⟨q1, h⟩ := ck h
  obtain ⟨r2, e3, h⟩ := bd h
  refine r_cV0 (pc' := 18) C (X0_weigh_ok stc_19 (ruof q1) e3) mlX8_167 ceX0_weigh cvX0_weigh sh_5 rfl rfl rfl (Nat.le_of_ble_eq_true rfl) rfl (Nat.le_of_ble_eq_true rfl) dX8_surplus_15 rfl (kk := ?_)
  refine r_aload_n (pc' := 19) C dX8_surplus_18 rfl 0 rfl ?_
  refine r_getR (pc' := 22) C flX8_26 sh_0 rfl dX8_surplus_19 rfl ?_
  refine r_aload_n (pc' := 23) C dX8_surplus_22 rfl 0 rfl ?_
  refine r_getR (pc' := 26) C flX8_33 sh_0 rfl dX8_surplus_23 rfl ?_
  obtain ⟨r4, e5, h⟩ := bd h
  refine r_cV0 (pc' := 29) C (X0_part_ok stc_19 e5) mlX8_276 ceX0_part cvX0_part sh_5 rfl rfl rfl (Nat.le_of_ble_eq_true rfl) rfl (Nat.le_of_ble_eq_true rfl) dX8_surplus_26 rfl (kk := ?_)
  refine r_aload_n (pc' := 30) C dX8_surplus_29 rfl 0 rfl ?_
  obtain ⟨r6, e7, h⟩ := bd h
  refine r_cV0 (pc' := 33) C (X8_clearShares_ok  e7) mlX8_279 ceX8_clearShares cvX8_clearShares sh_0 rfl rfl rfl (Nat.le_of_ble_eq_true rfl) rfl (Nat.le_of_ble_eq_true rfl) dX8_surplus_30 rfl (kk := ?_)
  refine r_iconst (pc' := 34) C dX8_surplus_33 rfl kc_0 ?_
  refine r_istore_n (pc' := 35) (lv2 := [(1, .int 0), (0, .ref 0)]) C dX8_surplus_34 rfl rfl (Nat.le_of_ble_eq_true rfl) rfl ?_
  refine r_iconst (pc' := 36) C dX8_surplus_35 rfl kc_0 ?_
  refine r_istore_n (pc' := 37) (lv2 := [(2, .int 0), (1, .int 0), (0, .ref 0)]) C dX8_surplus_36 rfl rfl (Nat.le_of_ble_eq_true rfl) rfl ?_
  refine r_sub [2, 1, 0] rfl ?_
  exact X8_surplus_l37_ok  (fun _ _ _ h Z C hE => by exact X8_surplus_j97_ok  h Z C hE) N _ _ _ _ h Z C hE

/-! BorrowedWeight.risesWithout(III)Z -/
def X8_risesWithout (N : Nat)  (v1 : Int32) (v2 : Int32) (v3 : Int32) (σ : Sg) : Option (Int32 × Sg) :=
  (X5_toggle N 24 v1 v2 σ).bind fun r1 => (if isRule ((gi r1 5 2).toNatClampNeg) = true then (X0_floating N 24 ((gi r1 5 2).toNatClampNeg) r1).bind fun r4 => ((X5_toggle N 24 v1 v2 r4.2).bind fun r6 => (if (r4.1 &&& (v3 ^^^ (-1))) = 0 then (some (0, r6)) else (some (1, r6)))) else none)
set_option maxRecDepth 100000 in
set_option maxHeartbeats 4000000 in
theorem X8_risesWithout_ok {E : Ev}  {N : Nat} {v1 : Int32} {v2 : Int32} {v3 : Int32} {σ : Sg} {r : Int32 × Sg} (h : X8_risesWithout N  v1 v2 v3 σ = some r) : Cm E (4) yX8_risesWithout cX8_risesWithout 5 (some .boolean) [.ref 0, .int v1, .int v2, .int v3] SH0 SH0 σ r.2 (some (.int r.1)) 0 0 := by
  refine Cm.intro (by decide +kernel) (Nat.le_of_ble_eq_true rfl) (fun _ h => by obtain ⟨_, _, _, _, _, _, h⟩ := h; exact h) (fun Z C hE => ?_)
  show Wm E Z 0 0 SH0 σ 0 [(0, .ref 0), (1, .int v1), (2, .int v2), (3, .int v3)] []
  unfold X8_risesWithout at h
  refine r_aload_n (pc' := 1) C dX8_risesWithout_0 rfl 0 rfl ?_
  refine r_getR (pc' := 4) C flX8_37 sh_0 rfl dX8_risesWithout_1 rfl ?_
  refine r_iload_n (pc' := 5) C dX8_risesWithout_4 rfl 1 rfl ?_
  refine r_iload_n (pc' := 6) C dX8_risesWithout_5 rfl 2 rfl ?_
  obtain ⟨r1, e2, h⟩ := bd h
  refine r_cV0 (pc' := 9) C (X5_toggle_ok stc_24 e2) mlX8_437 ceX5_toggle cvX5_toggle sh_24 rfl rfl rfl (Nat.le_of_ble_eq_true rfl) rfl (Nat.le_of_ble_eq_true rfl) dX8_risesWithout_6 rfl (kk := ?_)
  refine r_aload_n (pc' := 10) C dX8_risesWithout_9 rfl 0 rfl ?_
  refine r_getR (pc' := 13) C flX8_26 sh_0 rfl dX8_risesWithout_10 rfl ?_
  refine r_aload_n (pc' := 14) C dX8_risesWithout_13 rfl 0 rfl ?_
  refine r_getR (pc' := 17) C flX8_37 sh_0 rfl dX8_risesWithout_14 rfl ?_
  refine r_aload_n (pc' := 18) C dX8_risesWithout_17 rfl 0 rfl ?_
  refine r_getR (pc' := 21) C flX8_26 sh_0 rfl dX8_risesWithout_18 rfl ?_
  refine r_getD (pc' := 24) C flX8_163 sh_5 rfl dX8_risesWithout_21 rfl ?_
  obtain ⟨q3, h⟩ := ck h
  obtain ⟨r4, e5, h⟩ := bd h
  refine r_cV1 (pc' := 27) C (X0_floating_ok stc_24 (ruof q3) e5) mlX8_242 ceX0_floating cvX0_floating sh_5 rfl rfl rfl (Nat.le_of_ble_eq_true rfl) rfl (Nat.le_of_ble_eq_true rfl) dX8_risesWithout_24 rfl (kk := ?_)
  refine r_iload_n (pc' := 28) C dX8_risesWithout_27 rfl 3 rfl ?_
  refine r_iconst (pc' := 29) C dX8_risesWithout_28 rfl kc_m1 ?_
  refine r_ixor (pc' := 30) C dX8_risesWithout_29 rfl ?_
  refine r_iand (pc' := 31) C dX8_risesWithout_30 rfl ?_
  refine r_istore (pc' := 33) (lv2 := [(4, .int (r4.1 &&& (v3 ^^^ (-1)))), (0, .ref 0), (1, .int v1), (2, .int v2), (3, .int v3)]) C dX8_risesWithout_31 rfl (Nat.le_of_ble_eq_true rfl) rfl ?_
  refine r_aload_n (pc' := 34) C dX8_risesWithout_33 rfl 1 rfl ?_
  refine r_getR (pc' := 37) C flX8_37 sh_0 rfl dX8_risesWithout_34 rfl ?_
  refine r_iload_n (pc' := 38) C dX8_risesWithout_37 rfl 2 rfl ?_
  refine r_iload_n (pc' := 39) C dX8_risesWithout_38 rfl 3 rfl ?_
  obtain ⟨r6, e7, h⟩ := bd h
  refine r_cV0 (pc' := 42) C (X5_toggle_ok stc_24 e7) mlX8_437 ceX5_toggle cvX5_toggle sh_24 rfl rfl rfl (Nat.le_of_ble_eq_true rfl) rfl (Nat.le_of_ble_eq_true rfl) dX8_risesWithout_39 rfl (kk := ?_)
  refine r_iload (pc' := 44) C dX8_risesWithout_42 rfl 0 rfl ?_
  refine r_if_eq (tgt := 51) (pc' := 47) C dX8_risesWithout_44 rfl rfl (fun c8 => ?_) (fun c8 => ?_)
  · rw [if_pos c8] at h
    refine r_iconst (pc' := 52) C dX8_risesWithout_51 rfl kc_0 ?_
    have h := Option.some.inj h
    subst h
    exact r_ret C rfl dX8_risesWithout_52 hE
  · rw [if_neg c8] at h
    refine r_iconst (pc' := 48) C dX8_risesWithout_47 rfl kc_1 ?_
    refine r_goto (tgt := 52) C dX8_risesWithout_48 rfl ?_
    have h := Option.some.inj h
    subst h
    exact r_ret C rfl dX8_risesWithout_52 hE

/-! BorrowedWeight.vital()I -/
def X8_vital_l65 (N : Nat)  (k133 : Int32 → Int32 → Int32 → Sg → Option (Int32 × Sg))  : Nat → Int32 → Int32 → Int32 → Int32 → Sg → Option (Int32 × Sg)
  | 0, _, _, _, _, _ => none
  | n + 1, v1, v2, v3, v4, σ =>
    if (gi σ 5 1) ≤ v4 then (k133 v1 v2 v3 σ) else ((X5_isTied N 19 v3 v4 σ).bind fun r12 => (if r12 = 0 then (X8_vital_l65 N k133 n v1 v2 v3 (v4 + 1) σ) else ((X8_risesWithout N v3 v4 v1 σ).bind fun r15 => (if r15.1 = 0 then (X8_vital_l65 N k133 n v1 v2 v3 (v4 + 1) r15.2) else (if v2 = 0 then ((X2_add N v3.toInt64 r15.2).bind fun r19 => ((X2_add N v4.toInt64 r19).bind fun r21 => (X8_vital_l65 N k133 n v1 (v2 + 1) v3 (v4 + 1) r21))) else (X8_vital_l65 N k133 n v1 (v2 + 1) v3 (v4 + 1) r15.2))))))
set_option maxRecDepth 100000 in
set_option maxHeartbeats 4000000 in
theorem X8_vital_l65_ok {E : Ev}  {N : Nat} {k133 : Int32 → Int32 → Int32 → Sg → Option (Int32 × Sg)}  (hk133 : ∀ (v1 : Int32) (v2 : Int32) (v3 : Int32) (σ : Sg) (r : Int32 × Sg), k133 v1 v2 v3 σ = some r → Gp E RX8 cX8_vital (some .int) 5 (5) SH0 r.2 (some (.int r.1)) σ 133 [(0, .ref 0), (1, .int v1), (2, .int v2), (3, .int v3)] []) : ∀ (n : Nat) (v1 : Int32) (v2 : Int32) (v3 : Int32) (v4 : Int32) (σ : Sg) (r : Int32 × Sg), X8_vital_l65 N k133 n v1 v2 v3 v4 σ = some r → Gp E RX8 cX8_vital (some .int) 5 (5) SH0 r.2 (some (.int r.1)) σ 65 [(0, .ref 0), (1, .int v1), (2, .int v2), (3, .int v3), (4, .int v4)] [] := by
  intro n
  induction n with
  | zero => intro v1 v2 v3 v4 σ r h; cases h
  | succ n ih =>
    intro v1 v2 v3 v4 σ r h Z C hE
    unfold X8_vital_l65 at h
    refine r_iload (pc' := 67) C dX8_vital_65 rfl 4 rfl ?_
    refine r_aload_n (pc' := 68) C dX8_vital_67 rfl 0 rfl ?_
    refine r_getR (pc' := 71) C flX8_26 sh_0 rfl dX8_vital_68 rfl ?_
    refine r_getI (pc' := 74) C flX8_265 sh_5 rfl dX8_vital_71 rfl ?_
    refine r_icmp_ge (tgt := 133) (pc' := 77) C dX8_vital_74 rfl rfl (fun c11 => ?_) (fun c11 => ?_)
    · rw [if_pos c11] at h
      refine r_sub [0, 1, 2, 3] rfl ?_
      exact hk133 _ _ _ _ _ h Z C hE
    · rw [if_neg c11] at h
      refine r_aload_n (pc' := 78) C dX8_vital_77 rfl 0 rfl ?_
      refine r_getR (pc' := 81) C flX8_33 sh_0 rfl dX8_vital_78 rfl ?_
      refine r_iload_n (pc' := 82) C dX8_vital_81 rfl 3 rfl ?_
      refine r_iload (pc' := 84) C dX8_vital_82 rfl 4 rfl ?_
      obtain ⟨r12, e13, h⟩ := bd h
      refine r_cV1 (pc' := 87) C (X5_isTied_ok stc_19 e13) mlX8_292 ceX5_isTied cvX5_isTied sh_19 rfl rfl rfl (Nat.le_of_ble_eq_true rfl) rfl (Nat.le_of_ble_eq_true rfl) dX8_vital_84 rfl (kk := ?_)
      refine r_if_eq (tgt := 127) (pc' := 90) C dX8_vital_87 rfl rfl (fun c14 => ?_) (fun c14 => ?_)
      · rw [if_pos c14] at h
        refine r_iinc (pc' := 130) (v := v4 + 1) (lv2 := [(4, .int (v4 + 1)), (0, .ref 0), (1, .int v1), (2, .int v2), (3, .int v3)]) C dX8_vital_127 rfl 4 rfl rfl (Nat.le_of_ble_eq_true rfl) rfl ?_
        refine r_goto (tgt := 65) C dX8_vital_130 rfl ?_
        refine r_sub [1, 2, 3, 4, 0] rfl ?_
        exact ih _ _ _ _ _ _ h Z C hE
      · rw [if_neg c14] at h
        refine r_aload_n (pc' := 91) C dX8_vital_90 rfl 0 rfl ?_
        refine r_iload_n (pc' := 92) C dX8_vital_91 rfl 3 rfl ?_
        refine r_iload (pc' := 94) C dX8_vital_92 rfl 4 rfl ?_
        refine r_iload_n (pc' := 95) C dX8_vital_94 rfl 1 rfl ?_
        obtain ⟨r15, e16, h⟩ := bd h
        refine r_cV1 (pc' := 98) C (X8_risesWithout_ok  e16) mlX8_296 ceX8_risesWithout cvX8_risesWithout sh_0 rfl rfl rfl (Nat.le_of_ble_eq_true rfl) rfl (Nat.le_of_ble_eq_true rfl) dX8_vital_95 rfl (kk := ?_)
        refine r_if_eq (tgt := 127) (pc' := 101) C dX8_vital_98 rfl rfl (fun c17 => ?_) (fun c17 => ?_)
        · rw [if_pos c17] at h
          refine r_iinc (pc' := 130) (v := v4 + 1) (lv2 := [(4, .int (v4 + 1)), (0, .ref 0), (1, .int v1), (2, .int v2), (3, .int v3)]) C dX8_vital_127 rfl 4 rfl rfl (Nat.le_of_ble_eq_true rfl) rfl ?_
          refine r_goto (tgt := 65) C dX8_vital_130 rfl ?_
          refine r_sub [1, 2, 3, 4, 0] rfl ?_
          exact ih _ _ _ _ _ _ h Z C hE
        · rw [if_neg c17] at h
          refine r_iload_n (pc' := 102) C dX8_vital_101 rfl 2 rfl ?_
          refine r_if_ne (tgt := 124) (pc' := 105) C dX8_vital_102 rfl rfl (fun c18 => ?_) (fun c18 => ?_)
          · rw [if_neg c18] at h
            refine r_iinc (pc' := 127) (v := v2 + 1) (lv2 := [(2, .int (v2 + 1)), (0, .ref 0), (1, .int v1), (3, .int v3), (4, .int v4)]) C dX8_vital_124 rfl 2 rfl rfl (Nat.le_of_ble_eq_true rfl) rfl ?_
            refine r_iinc (pc' := 130) (v := v4 + 1) (lv2 := [(4, .int (v4 + 1)), (2, .int (v2 + 1)), (0, .ref 0), (1, .int v1), (3, .int v3)]) C dX8_vital_127 rfl 4 rfl rfl (Nat.le_of_ble_eq_true rfl) rfl ?_
            refine r_goto (tgt := 65) C dX8_vital_130 rfl ?_
            refine r_sub [2, 3, 1, 4, 0] rfl ?_
            exact ih _ _ _ _ _ _ h Z C hE
          · rw [if_pos c18] at h
            refine r_aload_n (pc' := 106) C dX8_vital_105 rfl 0 rfl ?_
            refine r_getR (pc' := 109) C flX8_19 sh_0 rfl dX8_vital_106 rfl ?_
            refine r_iload_n (pc' := 110) C dX8_vital_109 rfl 3 rfl ?_
            refine r_i2l (pc' := 111) C dX8_vital_110 rfl rfl ?_
            obtain ⟨r19, e20, h⟩ := bd h
            refine r_cV0 (pc' := 114) C (X2_add_ok  e20) mlX8_268 ceX2_add cvX2_add sh_3 rfl rfl rfl (Nat.le_of_ble_eq_true rfl) rfl (Nat.le_of_ble_eq_true rfl) dX8_vital_111 rfl (kk := ?_)
            refine r_aload_n (pc' := 115) C dX8_vital_114 rfl 0 rfl ?_
            refine r_getR (pc' := 118) C flX8_19 sh_0 rfl dX8_vital_115 rfl ?_
            refine r_iload (pc' := 120) C dX8_vital_118 rfl 4 rfl ?_
            refine r_i2l (pc' := 121) C dX8_vital_120 rfl rfl ?_
            obtain ⟨r21, e22, h⟩ := bd h
            refine r_cV0 (pc' := 124) C (X2_add_ok  e22) mlX8_268 ceX2_add cvX2_add sh_3 rfl rfl rfl (Nat.le_of_ble_eq_true rfl) rfl (Nat.le_of_ble_eq_true rfl) dX8_vital_121 rfl (kk := ?_)
            refine r_iinc (pc' := 127) (v := v2 + 1) (lv2 := [(2, .int (v2 + 1)), (0, .ref 0), (1, .int v1), (3, .int v3), (4, .int v4)]) C dX8_vital_124 rfl 2 rfl rfl (Nat.le_of_ble_eq_true rfl) rfl ?_
            refine r_iinc (pc' := 130) (v := v4 + 1) (lv2 := [(4, .int (v4 + 1)), (2, .int (v2 + 1)), (0, .ref 0), (1, .int v1), (3, .int v3)]) C dX8_vital_127 rfl 4 rfl rfl (Nat.le_of_ble_eq_true rfl) rfl ?_
            refine r_goto (tgt := 65) C dX8_vital_130 rfl ?_
            refine r_sub [2, 3, 1, 4, 0] rfl ?_
            exact ih _ _ _ _ _ _ h Z C hE
def X8_vital_j133 (N : Nat)  (kr : Int32 → Int32 → Int32 → Sg → Option (Int32 × Sg)) (v1 : Int32) (v2 : Int32) (v3 : Int32) (σ : Sg) : Option (Int32 × Sg) :=
  kr v1 v2 (v3 + 1) σ
set_option maxRecDepth 100000 in
set_option maxHeartbeats 4000000 in
theorem X8_vital_j133_ok {E : Ev}  {N : Nat} {kr : Int32 → Int32 → Int32 → Sg → Option (Int32 × Sg)}  (hkr : ∀ (v1 : Int32) (v2 : Int32) (v3 : Int32) (σ : Sg) (r : Int32 × Sg), kr v1 v2 v3 σ = some r → Gp E RX8 cX8_vital (some .int) 5 (5) SH0 r.2 (some (.int r.1)) σ 49 [(0, .ref 0), (1, .int v1), (2, .int v2), (3, .int v3)] []) {v1 : Int32} {v2 : Int32} {v3 : Int32} {σ : Sg} {r : Int32 × Sg} (h : X8_vital_j133 N  kr v1 v2 v3 σ = some r) : Gp E RX8 cX8_vital (some .int) 5 (5) SH0 r.2 (some (.int r.1)) σ 133 [(0, .ref 0), (1, .int v1), (2, .int v2), (3, .int v3)] [] := by
  intro Z C hE
  unfold X8_vital_j133 at h
  refine r_iinc (pc' := 136) (v := v3 + 1) (lv2 := [(3, .int (v3 + 1)), (0, .ref 0), (1, .int v1), (2, .int v2)]) C dX8_vital_133 rfl 3 rfl rfl (Nat.le_of_ble_eq_true rfl) rfl ?_
  refine r_goto (tgt := 49) C dX8_vital_136 rfl ?_
  refine r_sub [1, 2, 3, 0] rfl ?_
  exact hkr _ _ _ _ _ h Z C hE
def X8_vital_l49 (N : Nat)    : Nat → Int32 → Int32 → Int32 → Sg → Option (Int32 × Sg)
  | 0, _, _, _, _ => none
  | n + 1, v1, v2, v3, σ =>
    if (gi σ 5 1) ≤ v3 then (some (v2, σ)) else (X8_vital_l65 N (fun v1 v2 v3 σ => X8_vital_j133 N (fun v1 v2 v3 σ => X8_vital_l49 N n v1 v2 v3 σ) v1 v2 v3 σ) N v1 v2 v3 (v3 + 1) σ)
set_option maxRecDepth 100000 in
set_option maxHeartbeats 4000000 in
theorem X8_vital_l49_ok {E : Ev}  {N : Nat}    : ∀ (n : Nat) (v1 : Int32) (v2 : Int32) (v3 : Int32) (σ : Sg) (r : Int32 × Sg), X8_vital_l49 N n v1 v2 v3 σ = some r → Gp E RX8 cX8_vital (some .int) 5 (5) SH0 r.2 (some (.int r.1)) σ 49 [(0, .ref 0), (1, .int v1), (2, .int v2), (3, .int v3)] [] := by
  intro n
  induction n with
  | zero => intro v1 v2 v3 σ r h; cases h
  | succ n ih =>
    intro v1 v2 v3 σ r h Z C hE
    unfold X8_vital_l49 at h
    refine r_iload_n (pc' := 50) C dX8_vital_49 rfl 3 rfl ?_
    refine r_aload_n (pc' := 51) C dX8_vital_50 rfl 0 rfl ?_
    refine r_getR (pc' := 54) C flX8_26 sh_0 rfl dX8_vital_51 rfl ?_
    refine r_getI (pc' := 57) C flX8_265 sh_5 rfl dX8_vital_54 rfl ?_
    refine r_icmp_ge (tgt := 139) (pc' := 60) C dX8_vital_57 rfl rfl (fun c10 => ?_) (fun c10 => ?_)
    · rw [if_pos c10] at h
      refine r_iload_n (pc' := 140) C dX8_vital_139 rfl 2 rfl ?_
      have h := Option.some.inj h
      subst h
      exact r_ret C rfl dX8_vital_140 hE
    · rw [if_neg c10] at h
      refine r_iload_n (pc' := 61) C dX8_vital_60 rfl 3 rfl ?_
      refine r_iconst (pc' := 62) C dX8_vital_61 rfl kc_1 ?_
      refine r_iadd (pc' := 63) C dX8_vital_62 rfl ?_
      refine r_istore (pc' := 65) (lv2 := [(4, .int (v3 + 1)), (0, .ref 0), (1, .int v1), (2, .int v2), (3, .int v3)]) C dX8_vital_63 rfl (Nat.le_of_ble_eq_true rfl) rfl ?_
      refine r_sub [1, 2, 3, 4, 0] rfl ?_
      exact X8_vital_l65_ok  (fun _ _ _ _ _ h Z C hE => by exact X8_vital_j133_ok  ih h Z C hE) N _ _ _ _ _ _ h Z C hE
def X8_vital (N : Nat)   (σ : Sg) : Option (Int32 × Sg) :=
  if isRule ((gi σ 5 2).toNatClampNeg) = true then (X0_floating N 19 ((gi σ 5 2).toNatClampNeg) σ).bind fun r2 => ((X5_become N 24 19 r2.2).bind fun r4 => ((X5_stringCount N 19 r4).bind fun r6 => ((X2_tell N r6.toInt64 r4).bind fun r8 => (X8_vital_l49 N N r2.1 0 0 r8)))) else none
set_option maxRecDepth 100000 in
set_option maxHeartbeats 4000000 in
theorem X8_vital_ok {E : Ev}  {N : Nat}  {σ : Sg} {r : Int32 × Sg} (h : X8_vital N   σ = some r) : Cm E (5) yX8_vital cX8_vital 5 (some .int) [.ref 0] SH0 SH0 σ r.2 (some (.int r.1)) 0 0 := by
  refine Cm.intro (by decide +kernel) (Nat.le_of_ble_eq_true rfl) (fun _ h => by obtain ⟨_, _, _, _, _, _, h⟩ := h; exact h) (fun Z C hE => ?_)
  show Wm E Z 0 0 SH0 σ 0 [(0, .ref 0)] []
  unfold X8_vital at h
  refine r_aload_n (pc' := 1) C dX8_vital_0 rfl 0 rfl ?_
  refine r_getR (pc' := 4) C flX8_26 sh_0 rfl dX8_vital_1 rfl ?_
  refine r_aload_n (pc' := 5) C dX8_vital_4 rfl 0 rfl ?_
  refine r_getR (pc' := 8) C flX8_33 sh_0 rfl dX8_vital_5 rfl ?_
  refine r_aload_n (pc' := 9) C dX8_vital_8 rfl 0 rfl ?_
  refine r_getR (pc' := 12) C flX8_26 sh_0 rfl dX8_vital_9 rfl ?_
  refine r_getD (pc' := 15) C flX8_163 sh_5 rfl dX8_vital_12 rfl ?_
  obtain ⟨q1, h⟩ := ck h
  obtain ⟨r2, e3, h⟩ := bd h
  refine r_cV1 (pc' := 18) C (X0_floating_ok stc_19 (ruof q1) e3) mlX8_242 ceX0_floating cvX0_floating sh_5 rfl rfl rfl (Nat.le_of_ble_eq_true rfl) rfl (Nat.le_of_ble_eq_true rfl) dX8_vital_15 rfl (kk := ?_)
  refine r_istore_n (pc' := 19) (lv2 := [(1, .int r2.1), (0, .ref 0)]) C dX8_vital_18 rfl rfl (Nat.le_of_ble_eq_true rfl) rfl ?_
  refine r_aload_n (pc' := 20) C dX8_vital_19 rfl 1 rfl ?_
  refine r_getR (pc' := 23) C flX8_37 sh_0 rfl dX8_vital_20 rfl ?_
  refine r_aload_n (pc' := 24) C dX8_vital_23 rfl 1 rfl ?_
  refine r_getR (pc' := 27) C flX8_33 sh_0 rfl dX8_vital_24 rfl ?_
  obtain ⟨r4, e5, h⟩ := bd h
  refine r_cV0 (pc' := 30) C (X5_become_ok stc_24 stc_19 e5) mlX8_286 ceX5_become cvX5_become sh_24 rfl rfl rfl (Nat.le_of_ble_eq_true rfl) rfl (Nat.le_of_ble_eq_true rfl) dX8_vital_27 rfl (kk := ?_)
  refine r_aload_n (pc' := 31) C dX8_vital_30 rfl 1 rfl ?_
  refine r_getR (pc' := 34) C flX8_19 sh_0 rfl dX8_vital_31 rfl ?_
  refine r_aload_n (pc' := 35) C dX8_vital_34 rfl 1 rfl ?_
  refine r_getR (pc' := 38) C flX8_33 sh_0 rfl dX8_vital_35 rfl ?_
  obtain ⟨r6, e7, h⟩ := bd h
  refine r_cV1 (pc' := 41) C (X5_stringCount_ok stc_19 e7) mlX8_289 ceX5_stringCount cvX5_stringCount sh_19 rfl rfl rfl (Nat.le_of_ble_eq_true rfl) rfl (Nat.le_of_ble_eq_true rfl) dX8_vital_38 rfl (kk := ?_)
  refine r_i2l (pc' := 42) C dX8_vital_41 rfl rfl ?_
  obtain ⟨r8, e9, h⟩ := bd h
  refine r_cV0 (pc' := 45) C (X2_tell_ok  e9) mlX8_261 ceX2_tell cvX2_tell sh_3 rfl rfl rfl (Nat.le_of_ble_eq_true rfl) rfl (Nat.le_of_ble_eq_true rfl) dX8_vital_42 rfl (kk := ?_)
  refine r_iconst (pc' := 46) C dX8_vital_45 rfl kc_0 ?_
  refine r_istore_n (pc' := 47) (lv2 := [(2, .int 0), (1, .int r2.1), (0, .ref 0)]) C dX8_vital_46 rfl rfl (Nat.le_of_ble_eq_true rfl) rfl ?_
  refine r_iconst (pc' := 48) C dX8_vital_47 rfl kc_0 ?_
  refine r_istore_n (pc' := 49) (lv2 := [(3, .int 0), (2, .int 0), (1, .int r2.1), (0, .ref 0)]) C dX8_vital_48 rfl rfl (Nat.le_of_ble_eq_true rfl) rfl ?_
  refine r_sub [3, 2, 1, 0] rfl ?_
  exact X8_vital_l49_ok  N _ _ _ _ _ h Z C hE

/-! BorrowedWeight.floatingWith(II)I -/
def X8_floatingWith (N : Nat)  (v1 : Int32) (v2 : Int32) (σ : Sg) : Option (Int32 × Sg) :=
  (X5_toggle N 24 v1 v2 σ).bind fun r1 => (if isRule ((gi r1 5 2).toNatClampNeg) = true then (X0_floating N 24 ((gi r1 5 2).toNatClampNeg) r1).bind fun r4 => ((J6_bitCount_0f7a4 N r4.1 r4.2).bind fun r6 => ((X5_toggle N 24 v1 v2 r4.2).bind fun r8 => (some (r6, r8)))) else none)
set_option maxRecDepth 100000 in
set_option maxHeartbeats 4000000 in
theorem X8_floatingWith_ok {E : Ev}  {N : Nat} {v1 : Int32} {v2 : Int32} {σ : Sg} {r : Int32 × Sg} (h : X8_floatingWith N  v1 v2 σ = some r) : Cm E (4) yX8_floatingWith cX8_floatingWith 4 (some .int) [.ref 0, .int v1, .int v2] SH0 SH0 σ r.2 (some (.int r.1)) 0 0 := by
  refine Cm.intro (by decide +kernel) (Nat.le_of_ble_eq_true rfl) (fun _ h => by obtain ⟨_, _, _, _, _, _, h⟩ := h; exact h) (fun Z C hE => ?_)
  show Wm E Z 0 0 SH0 σ 0 [(0, .ref 0), (1, .int v1), (2, .int v2)] []
  unfold X8_floatingWith at h
  refine r_aload_n (pc' := 1) C dX8_floatingWith_0 rfl 0 rfl ?_
  refine r_getR (pc' := 4) C flX8_37 sh_0 rfl dX8_floatingWith_1 rfl ?_
  refine r_iload_n (pc' := 5) C dX8_floatingWith_4 rfl 1 rfl ?_
  refine r_iload_n (pc' := 6) C dX8_floatingWith_5 rfl 2 rfl ?_
  obtain ⟨r1, e2, h⟩ := bd h
  refine r_cV0 (pc' := 9) C (X5_toggle_ok stc_24 e2) mlX8_437 ceX5_toggle cvX5_toggle sh_24 rfl rfl rfl (Nat.le_of_ble_eq_true rfl) rfl (Nat.le_of_ble_eq_true rfl) dX8_floatingWith_6 rfl (kk := ?_)
  refine r_aload_n (pc' := 10) C dX8_floatingWith_9 rfl 0 rfl ?_
  refine r_getR (pc' := 13) C flX8_26 sh_0 rfl dX8_floatingWith_10 rfl ?_
  refine r_aload_n (pc' := 14) C dX8_floatingWith_13 rfl 0 rfl ?_
  refine r_getR (pc' := 17) C flX8_37 sh_0 rfl dX8_floatingWith_14 rfl ?_
  refine r_aload_n (pc' := 18) C dX8_floatingWith_17 rfl 0 rfl ?_
  refine r_getR (pc' := 21) C flX8_26 sh_0 rfl dX8_floatingWith_18 rfl ?_
  refine r_getD (pc' := 24) C flX8_163 sh_5 rfl dX8_floatingWith_21 rfl ?_
  obtain ⟨q3, h⟩ := ck h
  obtain ⟨r4, e5, h⟩ := bd h
  refine r_cV1 (pc' := 27) C (X0_floating_ok stc_24 (ruof q3) e5) mlX8_242 ceX0_floating cvX0_floating sh_5 rfl rfl rfl (Nat.le_of_ble_eq_true rfl) rfl (Nat.le_of_ble_eq_true rfl) dX8_floatingWith_24 rfl (kk := ?_)
  obtain ⟨r6, e7, h⟩ := bd h
  refine r_cS1 (pc' := 30) C (J6_bitCount_0f7a4_ok  e7) mlX8_189 ceJ6_bitCount_0f7a4 csJ6_bitCount_0f7a4 rfl (Nat.le_of_ble_eq_true rfl) rfl (Nat.le_of_ble_eq_true rfl) dX8_floatingWith_27 rfl (kk := ?_)
  refine r_istore_n (pc' := 31) (lv2 := [(3, .int r6), (0, .ref 0), (1, .int v1), (2, .int v2)]) C dX8_floatingWith_30 rfl rfl (Nat.le_of_ble_eq_true rfl) rfl ?_
  refine r_aload_n (pc' := 32) C dX8_floatingWith_31 rfl 1 rfl ?_
  refine r_getR (pc' := 35) C flX8_37 sh_0 rfl dX8_floatingWith_32 rfl ?_
  refine r_iload_n (pc' := 36) C dX8_floatingWith_35 rfl 2 rfl ?_
  refine r_iload_n (pc' := 37) C dX8_floatingWith_36 rfl 3 rfl ?_
  obtain ⟨r8, e9, h⟩ := bd h
  refine r_cV0 (pc' := 40) C (X5_toggle_ok stc_24 e9) mlX8_437 ceX5_toggle cvX5_toggle sh_24 rfl rfl rfl (Nat.le_of_ble_eq_true rfl) rfl (Nat.le_of_ble_eq_true rfl) dX8_floatingWith_37 rfl (kk := ?_)
  refine r_iload_n (pc' := 41) C dX8_floatingWith_40 rfl 0 rfl ?_
  have h := Option.some.inj h
  subst h
  exact r_ret C rfl dX8_floatingWith_41 hE

/-! BorrowedWeight.tie()I -/
def X8_tie_l54 (N : Nat)  (k150 : Int32 → Int32 → Int32 → Sg → Option (Int32 × Sg))  : Nat → Int32 → Int32 → Int32 → Int32 → Sg → Option (Int32 × Sg)
  | 0, _, _, _, _, _ => none
  | n + 1, v1, v2, v3, v4, σ =>
    if (gi σ 5 1) ≤ v4 then (k150 v1 v2 v3 σ) else ((X5_isGone N 19 v3 σ).bind fun r10 => (if r10 = 0 then ((X5_isGone N 19 v4 σ).bind fun r13 => (if r13 = 0 then ((X5_isTied N 19 v3 v4 σ).bind fun r16 => (if r16 = 0 then ((X8_floatingWith N v3 v4 σ).bind fun r19 => (if v2 ≤ r19.1 then (X8_tie_l54 N k150 n v1 v2 v3 (v4 + 1) r19.2) else ((X2_tell_ N v3.toInt64 v4.toInt64 r19.2).bind fun r22 => ((X2_add N v1.toInt64 r22).bind fun r24 => (X8_tie_l54 N k150 n v1 r19.1 v3 (v4 + 1) r24))))) else (X8_tie_l54 N k150 n v1 v2 v3 (v4 + 1) σ))) else (X8_tie_l54 N k150 n v1 v2 v3 (v4 + 1) σ))) else (X8_tie_l54 N k150 n v1 v2 v3 (v4 + 1) σ)))
set_option maxRecDepth 100000 in
set_option maxHeartbeats 4000000 in
theorem X8_tie_l54_ok {E : Ev}  {N : Nat} {k150 : Int32 → Int32 → Int32 → Sg → Option (Int32 × Sg)}  (hk150 : ∀ (v1 : Int32) (v2 : Int32) (v3 : Int32) (σ : Sg) (r : Int32 × Sg), k150 v1 v2 v3 σ = some r → Gp E RX8 cX8_tie (some .int) 6 (5) SH0 r.2 (some (.int r.1)) σ 150 [(0, .ref 0), (1, .int v1), (2, .int v2), (3, .int v3)] []) : ∀ (n : Nat) (v1 : Int32) (v2 : Int32) (v3 : Int32) (v4 : Int32) (σ : Sg) (r : Int32 × Sg), X8_tie_l54 N k150 n v1 v2 v3 v4 σ = some r → Gp E RX8 cX8_tie (some .int) 6 (5) SH0 r.2 (some (.int r.1)) σ 54 [(0, .ref 0), (1, .int v1), (2, .int v2), (3, .int v3), (4, .int v4)] [] := by
  intro n
  induction n with
  | zero => intro v1 v2 v3 v4 σ r h; cases h
  | succ n ih =>
    intro v1 v2 v3 v4 σ r h Z C hE
    unfold X8_tie_l54 at h
    refine r_iload (pc' := 56) C dX8_tie_54 rfl 4 rfl ?_
    refine r_aload_n (pc' := 57) C dX8_tie_56 rfl 0 rfl ?_
    refine r_getR (pc' := 60) C flX8_26 sh_0 rfl dX8_tie_57 rfl ?_
    refine r_getI (pc' := 63) C flX8_265 sh_5 rfl dX8_tie_60 rfl ?_
    refine r_icmp_ge (tgt := 150) (pc' := 66) C dX8_tie_63 rfl rfl (fun c9 => ?_) (fun c9 => ?_)
    · rw [if_pos c9] at h
      refine r_sub [0, 1, 2, 3] rfl ?_
      exact hk150 _ _ _ _ _ h Z C hE
    · rw [if_neg c9] at h
      refine r_aload_n (pc' := 67) C dX8_tie_66 rfl 0 rfl ?_
      refine r_getR (pc' := 70) C flX8_33 sh_0 rfl dX8_tie_67 rfl ?_
      refine r_iload_n (pc' := 71) C dX8_tie_70 rfl 3 rfl ?_
      obtain ⟨r10, e11, h⟩ := bd h
      refine r_cV1 (pc' := 74) C (X5_isGone_ok stc_19 e11) mlX8_160 ceX5_isGone cvX5_isGone sh_19 rfl rfl rfl (Nat.le_of_ble_eq_true rfl) rfl (Nat.le_of_ble_eq_true rfl) dX8_tie_71 rfl (kk := ?_)
      refine r_if_ne (tgt := 144) (pc' := 77) C dX8_tie_74 rfl rfl (fun c12 => ?_) (fun c12 => ?_)
      · rw [if_neg c12] at h
        refine r_iinc (pc' := 147) (v := v4 + 1) (lv2 := [(4, .int (v4 + 1)), (0, .ref 0), (1, .int v1), (2, .int v2), (3, .int v3)]) C dX8_tie_144 rfl 4 rfl rfl (Nat.le_of_ble_eq_true rfl) rfl ?_
        refine r_goto (tgt := 54) C dX8_tie_147 rfl ?_
        refine r_sub [1, 2, 3, 4, 0] rfl ?_
        exact ih _ _ _ _ _ _ h Z C hE
      · rw [if_pos c12] at h
        refine r_aload_n (pc' := 78) C dX8_tie_77 rfl 0 rfl ?_
        refine r_getR (pc' := 81) C flX8_33 sh_0 rfl dX8_tie_78 rfl ?_
        refine r_iload (pc' := 83) C dX8_tie_81 rfl 4 rfl ?_
        obtain ⟨r13, e14, h⟩ := bd h
        refine r_cV1 (pc' := 86) C (X5_isGone_ok stc_19 e14) mlX8_160 ceX5_isGone cvX5_isGone sh_19 rfl rfl rfl (Nat.le_of_ble_eq_true rfl) rfl (Nat.le_of_ble_eq_true rfl) dX8_tie_83 rfl (kk := ?_)
        refine r_if_ne (tgt := 144) (pc' := 89) C dX8_tie_86 rfl rfl (fun c15 => ?_) (fun c15 => ?_)
        · rw [if_neg c15] at h
          refine r_iinc (pc' := 147) (v := v4 + 1) (lv2 := [(4, .int (v4 + 1)), (0, .ref 0), (1, .int v1), (2, .int v2), (3, .int v3)]) C dX8_tie_144 rfl 4 rfl rfl (Nat.le_of_ble_eq_true rfl) rfl ?_
          refine r_goto (tgt := 54) C dX8_tie_147 rfl ?_
          refine r_sub [1, 2, 3, 4, 0] rfl ?_
          exact ih _ _ _ _ _ _ h Z C hE
        · rw [if_pos c15] at h
          refine r_aload_n (pc' := 90) C dX8_tie_89 rfl 0 rfl ?_
          refine r_getR (pc' := 93) C flX8_33 sh_0 rfl dX8_tie_90 rfl ?_
          refine r_iload_n (pc' := 94) C dX8_tie_93 rfl 3 rfl ?_
          refine r_iload (pc' := 96) C dX8_tie_94 rfl 4 rfl ?_
          obtain ⟨r16, e17, h⟩ := bd h
          refine r_cV1 (pc' := 99) C (X5_isTied_ok stc_19 e17) mlX8_292 ceX5_isTied cvX5_isTied sh_19 rfl rfl rfl (Nat.le_of_ble_eq_true rfl) rfl (Nat.le_of_ble_eq_true rfl) dX8_tie_96 rfl (kk := ?_)
          refine r_if_eq (tgt := 105) (pc' := 102) C dX8_tie_99 rfl rfl (fun c18 => ?_) (fun c18 => ?_)
          · rw [if_pos c18] at h
            refine r_aload_n (pc' := 106) C dX8_tie_105 rfl 0 rfl ?_
            refine r_iload_n (pc' := 107) C dX8_tie_106 rfl 3 rfl ?_
            refine r_iload (pc' := 109) C dX8_tie_107 rfl 4 rfl ?_
            obtain ⟨r19, e20, h⟩ := bd h
            refine r_cV1 (pc' := 112) C (X8_floatingWith_ok  e20) mlX8_300 ceX8_floatingWith cvX8_floatingWith sh_0 rfl rfl rfl (Nat.le_of_ble_eq_true rfl) rfl (Nat.le_of_ble_eq_true rfl) dX8_tie_109 rfl (kk := ?_)
            refine r_istore (pc' := 114) (lv2 := [(5, .int r19.1), (0, .ref 0), (1, .int v1), (2, .int v2), (3, .int v3), (4, .int v4)]) C dX8_tie_112 rfl (Nat.le_of_ble_eq_true rfl) rfl ?_
            refine r_iload (pc' := 116) C dX8_tie_114 rfl 0 rfl ?_
            refine r_iload_n (pc' := 117) C dX8_tie_116 rfl 3 rfl ?_
            refine r_icmp_ge (tgt := 144) (pc' := 120) C dX8_tie_117 rfl rfl (fun c21 => ?_) (fun c21 => ?_)
            · rw [if_pos c21] at h
              refine r_iinc (pc' := 147) (v := v4 + 1) (lv2 := [(4, .int (v4 + 1)), (5, .int r19.1), (0, .ref 0), (1, .int v1), (2, .int v2), (3, .int v3)]) C dX8_tie_144 rfl 5 rfl rfl (Nat.le_of_ble_eq_true rfl) rfl ?_
              refine r_goto (tgt := 54) C dX8_tie_147 rfl ?_
              refine r_sub [2, 3, 4, 5, 0] rfl ?_
              exact ih _ _ _ _ _ _ h Z C hE
            · rw [if_neg c21] at h
              refine r_iload (pc' := 122) C dX8_tie_120 rfl 0 rfl ?_
              refine r_istore_n (pc' := 123) (lv2 := [(2, .int r19.1), (5, .int r19.1), (0, .ref 0), (1, .int v1), (3, .int v3), (4, .int v4)]) C dX8_tie_122 rfl rfl (Nat.le_of_ble_eq_true rfl) rfl ?_
              refine r_aload_n (pc' := 124) C dX8_tie_123 rfl 2 rfl ?_
              refine r_getR (pc' := 127) C flX8_19 sh_0 rfl dX8_tie_124 rfl ?_
              refine r_iload_n (pc' := 128) C dX8_tie_127 rfl 4 rfl ?_
              refine r_i2l (pc' := 129) C dX8_tie_128 rfl rfl ?_
              refine r_iload (pc' := 131) C dX8_tie_129 rfl 5 rfl ?_
              refine r_i2l (pc' := 132) C dX8_tie_131 rfl rfl ?_
              obtain ⟨r22, e23, h⟩ := bd h
              refine r_cV0 (pc' := 135) C (X2_tell__ok  e23) mlX8_198 ceX2_tell_ cvX2_tell_ sh_3 rfl rfl rfl (Nat.le_of_ble_eq_true rfl) rfl (Nat.le_of_ble_eq_true rfl) dX8_tie_132 rfl (kk := ?_)
              refine r_aload_n (pc' := 136) C dX8_tie_135 rfl 2 rfl ?_
              refine r_getR (pc' := 139) C flX8_19 sh_0 rfl dX8_tie_136 rfl ?_
              refine r_iload_n (pc' := 140) C dX8_tie_139 rfl 3 rfl ?_
              refine r_i2l (pc' := 141) C dX8_tie_140 rfl rfl ?_
              obtain ⟨r24, e25, h⟩ := bd h
              refine r_cV0 (pc' := 144) C (X2_add_ok  e25) mlX8_268 ceX2_add cvX2_add sh_3 rfl rfl rfl (Nat.le_of_ble_eq_true rfl) rfl (Nat.le_of_ble_eq_true rfl) dX8_tie_141 rfl (kk := ?_)
              refine r_iinc (pc' := 147) (v := v4 + 1) (lv2 := [(4, .int (v4 + 1)), (2, .int r19.1), (5, .int r19.1), (0, .ref 0), (1, .int v1), (3, .int v3)]) C dX8_tie_144 rfl 5 rfl rfl (Nat.le_of_ble_eq_true rfl) rfl ?_
              refine r_goto (tgt := 54) C dX8_tie_147 rfl ?_
              refine r_sub [3, 4, 1, 5, 0] rfl ?_
              exact ih _ _ _ _ _ _ h Z C hE
          · rw [if_neg c18] at h
            refine r_goto (tgt := 144) C dX8_tie_102 rfl ?_
            refine r_iinc (pc' := 147) (v := v4 + 1) (lv2 := [(4, .int (v4 + 1)), (0, .ref 0), (1, .int v1), (2, .int v2), (3, .int v3)]) C dX8_tie_144 rfl 4 rfl rfl (Nat.le_of_ble_eq_true rfl) rfl ?_
            refine r_goto (tgt := 54) C dX8_tie_147 rfl ?_
            refine r_sub [1, 2, 3, 4, 0] rfl ?_
            exact ih _ _ _ _ _ _ h Z C hE
def X8_tie_j150 (N : Nat)  (kr : Int32 → Int32 → Int32 → Sg → Option (Int32 × Sg)) (v1 : Int32) (v2 : Int32) (v3 : Int32) (σ : Sg) : Option (Int32 × Sg) :=
  kr v1 v2 (v3 + 1) σ
set_option maxRecDepth 100000 in
set_option maxHeartbeats 4000000 in
theorem X8_tie_j150_ok {E : Ev}  {N : Nat} {kr : Int32 → Int32 → Int32 → Sg → Option (Int32 × Sg)}  (hkr : ∀ (v1 : Int32) (v2 : Int32) (v3 : Int32) (σ : Sg) (r : Int32 × Sg), kr v1 v2 v3 σ = some r → Gp E RX8 cX8_tie (some .int) 6 (5) SH0 r.2 (some (.int r.1)) σ 38 [(0, .ref 0), (1, .int v1), (2, .int v2), (3, .int v3)] []) {v1 : Int32} {v2 : Int32} {v3 : Int32} {σ : Sg} {r : Int32 × Sg} (h : X8_tie_j150 N  kr v1 v2 v3 σ = some r) : Gp E RX8 cX8_tie (some .int) 6 (5) SH0 r.2 (some (.int r.1)) σ 150 [(0, .ref 0), (1, .int v1), (2, .int v2), (3, .int v3)] [] := by
  intro Z C hE
  unfold X8_tie_j150 at h
  refine r_iinc (pc' := 153) (v := v3 + 1) (lv2 := [(3, .int (v3 + 1)), (0, .ref 0), (1, .int v1), (2, .int v2)]) C dX8_tie_150 rfl 3 rfl rfl (Nat.le_of_ble_eq_true rfl) rfl ?_
  refine r_goto (tgt := 38) C dX8_tie_153 rfl ?_
  refine r_sub [1, 2, 3, 0] rfl ?_
  exact hkr _ _ _ _ _ h Z C hE
def X8_tie_l38 (N : Nat)  (k156 : Int32 → Sg → Option (Int32 × Sg))  : Nat → Int32 → Int32 → Int32 → Sg → Option (Int32 × Sg)
  | 0, _, _, _, _ => none
  | n + 1, v1, v2, v3, σ =>
    if (gi σ 5 1) ≤ v3 then (k156 v2 σ) else (X8_tie_l54 N (fun v1 v2 v3 σ => X8_tie_j150 N (fun v1 v2 v3 σ => X8_tie_l38 N k156 n v1 v2 v3 σ) v1 v2 v3 σ) N v1 v2 v3 (v3 + 1) σ)
set_option maxRecDepth 100000 in
set_option maxHeartbeats 4000000 in
theorem X8_tie_l38_ok {E : Ev}  {N : Nat} {k156 : Int32 → Sg → Option (Int32 × Sg)}  (hk156 : ∀ (v2 : Int32) (σ : Sg) (r : Int32 × Sg), k156 v2 σ = some r → Gp E RX8 cX8_tie (some .int) 6 (5) SH0 r.2 (some (.int r.1)) σ 156 [(2, .int v2)] []) : ∀ (n : Nat) (v1 : Int32) (v2 : Int32) (v3 : Int32) (σ : Sg) (r : Int32 × Sg), X8_tie_l38 N k156 n v1 v2 v3 σ = some r → Gp E RX8 cX8_tie (some .int) 6 (5) SH0 r.2 (some (.int r.1)) σ 38 [(0, .ref 0), (1, .int v1), (2, .int v2), (3, .int v3)] [] := by
  intro n
  induction n with
  | zero => intro v1 v2 v3 σ r h; cases h
  | succ n ih =>
    intro v1 v2 v3 σ r h Z C hE
    unfold X8_tie_l38 at h
    refine r_iload_n (pc' := 39) C dX8_tie_38 rfl 3 rfl ?_
    refine r_aload_n (pc' := 40) C dX8_tie_39 rfl 0 rfl ?_
    refine r_getR (pc' := 43) C flX8_26 sh_0 rfl dX8_tie_40 rfl ?_
    refine r_getI (pc' := 46) C flX8_265 sh_5 rfl dX8_tie_43 rfl ?_
    refine r_icmp_ge (tgt := 156) (pc' := 49) C dX8_tie_46 rfl rfl (fun c8 => ?_) (fun c8 => ?_)
    · rw [if_pos c8] at h
      refine r_sub [2] rfl ?_
      exact hk156 _ _ _ h Z C hE
    · rw [if_neg c8] at h
      refine r_iload_n (pc' := 50) C dX8_tie_49 rfl 3 rfl ?_
      refine r_iconst (pc' := 51) C dX8_tie_50 rfl kc_1 ?_
      refine r_iadd (pc' := 52) C dX8_tie_51 rfl ?_
      refine r_istore (pc' := 54) (lv2 := [(4, .int (v3 + 1)), (0, .ref 0), (1, .int v1), (2, .int v2), (3, .int v3)]) C dX8_tie_52 rfl (Nat.le_of_ble_eq_true rfl) rfl ?_
      refine r_sub [1, 2, 3, 4, 0] rfl ?_
      exact X8_tie_l54_ok  (fun _ _ _ _ _ h Z C hE => by exact X8_tie_j150_ok  ih h Z C hE) N _ _ _ _ _ _ h Z C hE
def X8_tie_j156 (N : Nat)   (v2 : Int32) (σ : Sg) : Option (Int32 × Sg) :=
  if v2 ≤ 8 then (some (v2, σ)) else (some ((-2), σ))
set_option maxRecDepth 100000 in
set_option maxHeartbeats 4000000 in
theorem X8_tie_j156_ok {E : Ev}  {N : Nat}    {v2 : Int32} {σ : Sg} {r : Int32 × Sg} (h : X8_tie_j156 N   v2 σ = some r) : Gp E RX8 cX8_tie (some .int) 6 (5) SH0 r.2 (some (.int r.1)) σ 156 [(2, .int v2)] [] := by
  intro Z C hE
  unfold X8_tie_j156 at h
  refine r_iload_n (pc' := 157) C dX8_tie_156 rfl 0 rfl ?_
  refine r_bipush (pc' := 159) C dX8_tie_157 rfl kb_8 ?_
  refine r_icmp_le (tgt := 167) (pc' := 162) C dX8_tie_159 rfl rfl (fun c26 => ?_) (fun c26 => ?_)
  · rw [if_pos c26] at h
    refine r_iload_n (pc' := 168) C dX8_tie_167 rfl 0 rfl ?_
    have h := Option.some.inj h
    subst h
    exact r_ret C rfl dX8_tie_168 hE
  · rw [if_neg c26] at h
    refine r_bipush (pc' := 164) C dX8_tie_162 rfl kb_m2 ?_
    refine r_goto (tgt := 168) C dX8_tie_164 rfl ?_
    have h := Option.some.inj h
    subst h
    exact r_ret C rfl dX8_tie_168 hE
def X8_tie (N : Nat)   (σ : Sg) : Option (Int32 × Sg) :=
  if isRule ((gi σ 5 2).toNatClampNeg) = true then (X0_floating N 19 ((gi σ 5 2).toNatClampNeg) σ).bind fun r2 => ((J6_bitCount_0f7a4 N r2.1 r2.2).bind fun r4 => ((X5_become N 24 19 r2.2).bind fun r6 => (X8_tie_l38 N (fun v2 σ => X8_tie_j156 N v2 σ) N r4 9 0 r6))) else none
set_option maxRecDepth 100000 in
set_option maxHeartbeats 4000000 in
theorem X8_tie_ok {E : Ev}  {N : Nat}  {σ : Sg} {r : Int32 × Sg} (h : X8_tie N   σ = some r) : Cm E (5) yX8_tie cX8_tie 6 (some .int) [.ref 0] SH0 SH0 σ r.2 (some (.int r.1)) 0 0 := by
  refine Cm.intro (by decide +kernel) (Nat.le_of_ble_eq_true rfl) (fun _ h => by obtain ⟨_, _, _, _, _, _, h⟩ := h; exact h) (fun Z C hE => ?_)
  show Wm E Z 0 0 SH0 σ 0 [(0, .ref 0)] []
  unfold X8_tie at h
  refine r_aload_n (pc' := 1) C dX8_tie_0 rfl 0 rfl ?_
  refine r_getR (pc' := 4) C flX8_26 sh_0 rfl dX8_tie_1 rfl ?_
  refine r_aload_n (pc' := 5) C dX8_tie_4 rfl 0 rfl ?_
  refine r_getR (pc' := 8) C flX8_33 sh_0 rfl dX8_tie_5 rfl ?_
  refine r_aload_n (pc' := 9) C dX8_tie_8 rfl 0 rfl ?_
  refine r_getR (pc' := 12) C flX8_26 sh_0 rfl dX8_tie_9 rfl ?_
  refine r_getD (pc' := 15) C flX8_163 sh_5 rfl dX8_tie_12 rfl ?_
  obtain ⟨q1, h⟩ := ck h
  obtain ⟨r2, e3, h⟩ := bd h
  refine r_cV1 (pc' := 18) C (X0_floating_ok stc_19 (ruof q1) e3) mlX8_242 ceX0_floating cvX0_floating sh_5 rfl rfl rfl (Nat.le_of_ble_eq_true rfl) rfl (Nat.le_of_ble_eq_true rfl) dX8_tie_15 rfl (kk := ?_)
  obtain ⟨r4, e5, h⟩ := bd h
  refine r_cS1 (pc' := 21) C (J6_bitCount_0f7a4_ok  e5) mlX8_189 ceJ6_bitCount_0f7a4 csJ6_bitCount_0f7a4 rfl (Nat.le_of_ble_eq_true rfl) rfl (Nat.le_of_ble_eq_true rfl) dX8_tie_18 rfl (kk := ?_)
  refine r_istore_n (pc' := 22) (lv2 := [(1, .int r4), (0, .ref 0)]) C dX8_tie_21 rfl rfl (Nat.le_of_ble_eq_true rfl) rfl ?_
  refine r_aload_n (pc' := 23) C dX8_tie_22 rfl 1 rfl ?_
  refine r_getR (pc' := 26) C flX8_37 sh_0 rfl dX8_tie_23 rfl ?_
  refine r_aload_n (pc' := 27) C dX8_tie_26 rfl 1 rfl ?_
  refine r_getR (pc' := 30) C flX8_33 sh_0 rfl dX8_tie_27 rfl ?_
  obtain ⟨r6, e7, h⟩ := bd h
  refine r_cV0 (pc' := 33) C (X5_become_ok stc_24 stc_19 e7) mlX8_286 ceX5_become cvX5_become sh_24 rfl rfl rfl (Nat.le_of_ble_eq_true rfl) rfl (Nat.le_of_ble_eq_true rfl) dX8_tie_30 rfl (kk := ?_)
  refine r_bipush (pc' := 35) C dX8_tie_33 rfl kb_9 ?_
  refine r_istore_n (pc' := 36) (lv2 := [(2, .int 9), (1, .int r4), (0, .ref 0)]) C dX8_tie_35 rfl rfl (Nat.le_of_ble_eq_true rfl) rfl ?_
  refine r_iconst (pc' := 37) C dX8_tie_36 rfl kc_0 ?_
  refine r_istore_n (pc' := 38) (lv2 := [(3, .int 0), (2, .int 9), (1, .int r4), (0, .ref 0)]) C dX8_tie_37 rfl rfl (Nat.le_of_ble_eq_true rfl) rfl ?_
  refine r_sub [3, 2, 1, 0] rfl ?_
  exact X8_tie_l38_ok  (fun _ _ _ h Z C hE => by exact X8_tie_j156_ok  h Z C hE) N _ _ _ _ _ h Z C hE
