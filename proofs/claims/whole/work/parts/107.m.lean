/-! BorrowedWeight.order()I -/
def X8_order_l41 (N : Nat)    : Nat → Int32 → Int32 → Int32 → Sg → Option (Int32 × Sg)
  | 0, _, _, _, _ => none
  | n + 1, v1, v2, v3, σ =>
    if 8 ≤ v3 then (some (v2, σ)) else (if v1 = 0 then (some (v2, σ)) else ((X8_heaviestOf N v1 σ).bind fun r10 => ((X2_add N r10.toInt64 σ).bind fun r12 => (X8_order_l41 N n (v1 &&& ((1 <<< (r10 &&& 31)) ^^^ (-1))) (v2 + 1) (v3 + 1) r12))))
set_option maxRecDepth 100000 in
set_option maxHeartbeats 4000000 in
theorem X8_order_l41_ok {E : Ev}  {N : Nat}    : ∀ (n : Nat) (v1 : Int32) (v2 : Int32) (v3 : Int32) (σ : Sg) (r : Int32 × Sg), X8_order_l41 N n v1 v2 v3 σ = some r → Gp E RX8 cX8_order (some .int) 5 (3) SH0 r.2 (some (.int r.1)) σ 41 [(0, .ref 0), (1, .int v1), (2, .int v2), (3, .int v3)] [] := by
  intro n
  induction n with
  | zero => intro v1 v2 v3 σ r h; cases h
  | succ n ih =>
    intro v1 v2 v3 σ r h Z C hE
    unfold X8_order_l41 at h
    refine r_iload_n (pc' := 42) C dX8_order_41 rfl 3 rfl ?_
    refine r_bipush (pc' := 44) C dX8_order_42 rfl kb_8 ?_
    refine r_icmp_ge (tgt := 86) (pc' := 47) C dX8_order_44 rfl rfl (fun c8 => ?_) (fun c8 => ?_)
    · rw [if_pos c8] at h
      refine r_iload_n (pc' := 87) C dX8_order_86 rfl 2 rfl ?_
      have h := Option.some.inj h
      subst h
      exact r_ret C rfl dX8_order_87 hE
    · rw [if_neg c8] at h
      refine r_iload_n (pc' := 48) C dX8_order_47 rfl 1 rfl ?_
      refine r_if_eq (tgt := 86) (pc' := 51) C dX8_order_48 rfl rfl (fun c9 => ?_) (fun c9 => ?_)
      · rw [if_pos c9] at h
        refine r_iload_n (pc' := 87) C dX8_order_86 rfl 2 rfl ?_
        have h := Option.some.inj h
        subst h
        exact r_ret C rfl dX8_order_87 hE
      · rw [if_neg c9] at h
        refine r_aload_n (pc' := 52) C dX8_order_51 rfl 0 rfl ?_
        refine r_iload_n (pc' := 53) C dX8_order_52 rfl 1 rfl ?_
        obtain ⟨r10, e11, h⟩ := bd h
        refine r_cV1 (pc' := 56) C (X8_heaviestOf_ok  e11) mlX8_360 ceX8_heaviestOf cvX8_heaviestOf sh_0 rfl rfl rfl (Nat.le_of_ble_eq_true rfl) rfl (Nat.le_of_ble_eq_true rfl) dX8_order_53 rfl (kk := ?_)
        refine r_istore (pc' := 58) (lv2 := [(4, .int r10), (0, .ref 0), (1, .int v1), (2, .int v2), (3, .int v3)]) C dX8_order_56 rfl (Nat.le_of_ble_eq_true rfl) rfl ?_
        refine r_iload_n (pc' := 59) C dX8_order_58 rfl 2 rfl ?_
        refine r_iconst (pc' := 60) C dX8_order_59 rfl kc_1 ?_
        refine r_iload (pc' := 62) C dX8_order_60 rfl 0 rfl ?_
        refine r_ishl (pc' := 63) C dX8_order_62 rfl ?_
        refine r_iconst (pc' := 64) C dX8_order_63 rfl kc_m1 ?_
        refine r_ixor (pc' := 65) C dX8_order_64 rfl ?_
        refine r_iand (pc' := 66) C dX8_order_65 rfl ?_
        refine r_istore_n (pc' := 67) (lv2 := [(1, .int (v1 &&& ((1 <<< (r10 &&& 31)) ^^^ (-1)))), (4, .int r10), (0, .ref 0), (2, .int v2), (3, .int v3)]) C dX8_order_66 rfl rfl (Nat.le_of_ble_eq_true rfl) rfl ?_
        refine r_aload_n (pc' := 68) C dX8_order_67 rfl 2 rfl ?_
        refine r_getR (pc' := 71) C flX8_19 sh_0 rfl dX8_order_68 rfl ?_
        refine r_iload (pc' := 73) C dX8_order_71 rfl 1 rfl ?_
        refine r_i2l (pc' := 74) C dX8_order_73 rfl rfl ?_
        obtain ⟨r12, e13, h⟩ := bd h
        refine r_cV0 (pc' := 77) C (X2_add_ok  e13) mlX8_268 ceX2_add cvX2_add sh_3 rfl rfl rfl (Nat.le_of_ble_eq_true rfl) rfl (Nat.le_of_ble_eq_true rfl) dX8_order_74 rfl (kk := ?_)
        refine r_iinc (pc' := 80) (v := v2 + 1) (lv2 := [(2, .int (v2 + 1)), (1, .int (v1 &&& ((1 <<< (r10 &&& 31)) ^^^ (-1)))), (4, .int r10), (0, .ref 0), (3, .int v3)]) C dX8_order_77 rfl 3 rfl rfl (Nat.le_of_ble_eq_true rfl) rfl ?_
        refine r_iinc (pc' := 83) (v := v3 + 1) (lv2 := [(3, .int (v3 + 1)), (2, .int (v2 + 1)), (1, .int (v1 &&& ((1 <<< (r10 &&& 31)) ^^^ (-1)))), (4, .int r10), (0, .ref 0)]) C dX8_order_80 rfl 4 rfl rfl (Nat.le_of_ble_eq_true rfl) rfl ?_
        refine r_goto (tgt := 41) C dX8_order_83 rfl ?_
        refine r_sub [4, 2, 1, 0] rfl ?_
        exact ih _ _ _ _ _ h Z C hE
def X8_order (N : Nat)   (σ : Sg) : Option (Int32 × Sg) :=
  if isRule ((gi σ 5 2).toNatClampNeg) = true then (X0_weigh N 19 ((gi σ 5 2).toNatClampNeg) σ).bind fun r2 => ((X2_clear N r2).bind fun r4 => ((X0_present N 19 r4).bind fun r6 => (X8_order_l41 N N r6 0 0 r4))) else none
set_option maxRecDepth 100000 in
set_option maxHeartbeats 4000000 in
theorem X8_order_ok {E : Ev}  {N : Nat}  {σ : Sg} {r : Int32 × Sg} (h : X8_order N   σ = some r) : Cm E (3) yX8_order cX8_order 5 (some .int) [.ref 0] SH0 SH0 σ r.2 (some (.int r.1)) 0 0 := by
  refine Cm.intro (by decide +kernel) (Nat.le_of_ble_eq_true rfl) (fun _ h => by obtain ⟨_, _, _, _, _, _, h⟩ := h; exact h) (fun Z C hE => ?_)
  show Wm E Z 0 0 SH0 σ 0 [(0, .ref 0)] []
  unfold X8_order at h
  refine r_aload_n (pc' := 1) C dX8_order_0 rfl 0 rfl ?_
  refine r_getR (pc' := 4) C flX8_26 sh_0 rfl dX8_order_1 rfl ?_
  refine r_aload_n (pc' := 5) C dX8_order_4 rfl 0 rfl ?_
  refine r_getR (pc' := 8) C flX8_33 sh_0 rfl dX8_order_5 rfl ?_
  refine r_aload_n (pc' := 9) C dX8_order_8 rfl 0 rfl ?_
  refine r_getR (pc' := 12) C flX8_26 sh_0 rfl dX8_order_9 rfl ?_
  refine r_getD (pc' := 15) C flX8_163 sh_5 rfl dX8_order_12 rfl ?_
  obtain ⟨q1, h⟩ := ck h
  obtain ⟨r2, e3, h⟩ := bd h
  refine r_cV0 (pc' := 18) C (X0_weigh_ok stc_19 (ruof q1) e3) mlX8_167 ceX0_weigh cvX0_weigh sh_5 rfl rfl rfl (Nat.le_of_ble_eq_true rfl) rfl (Nat.le_of_ble_eq_true rfl) dX8_order_15 rfl (kk := ?_)
  refine r_aload_n (pc' := 19) C dX8_order_18 rfl 0 rfl ?_
  refine r_getR (pc' := 22) C flX8_19 sh_0 rfl dX8_order_19 rfl ?_
  obtain ⟨r4, e5, h⟩ := bd h
  refine r_cV0 (pc' := 25) C (X2_clear_ok  e5) mlX8_264 ceX2_clear cvX2_clear sh_3 rfl rfl rfl (Nat.le_of_ble_eq_true rfl) rfl (Nat.le_of_ble_eq_true rfl) dX8_order_22 rfl (kk := ?_)
  refine r_aload_n (pc' := 26) C dX8_order_25 rfl 0 rfl ?_
  refine r_getR (pc' := 29) C flX8_26 sh_0 rfl dX8_order_26 rfl ?_
  refine r_aload_n (pc' := 30) C dX8_order_29 rfl 0 rfl ?_
  refine r_getR (pc' := 33) C flX8_33 sh_0 rfl dX8_order_30 rfl ?_
  obtain ⟨r6, e7, h⟩ := bd h
  refine r_cV1 (pc' := 36) C (X0_present_ok stc_19 e7) mlX8_202 ceX0_present cvX0_present sh_5 rfl rfl rfl (Nat.le_of_ble_eq_true rfl) rfl (Nat.le_of_ble_eq_true rfl) dX8_order_33 rfl (kk := ?_)
  refine r_istore_n (pc' := 37) (lv2 := [(1, .int r6), (0, .ref 0)]) C dX8_order_36 rfl rfl (Nat.le_of_ble_eq_true rfl) rfl ?_
  refine r_iconst (pc' := 38) C dX8_order_37 rfl kc_0 ?_
  refine r_istore_n (pc' := 39) (lv2 := [(2, .int 0), (1, .int r6), (0, .ref 0)]) C dX8_order_38 rfl rfl (Nat.le_of_ble_eq_true rfl) rfl ?_
  refine r_iconst (pc' := 40) C dX8_order_39 rfl kc_0 ?_
  refine r_istore_n (pc' := 41) (lv2 := [(3, .int 0), (2, .int 0), (1, .int r6), (0, .ref 0)]) C dX8_order_40 rfl rfl (Nat.le_of_ble_eq_true rfl) rfl ?_
  refine r_sub [3, 2, 1, 0] rfl ?_
  exact X8_order_l41_ok  N _ _ _ _ _ h Z C hE

/-! BorrowedWeight.listStrings(I)I -/
def X8_listStrings_j49 (N : Nat)  (kr : Int32 → Int32 → Int32 → Int32 → Sg → Option (Int32 × Sg)) (v1 : Int32) (v2 : Int32) (v3 : Int32) (v4 : Int32) (s0 : Int32) (σ : Sg) : Option (Int32 × Sg) :=
  if s0 = 0 then (kr v1 v2 v3 (v4 + 1) σ) else (if 12 ≤ v2 then (kr v1 v2 v3 (v4 + 1) σ) else (if inb v2 12 = true then bnS (wi σ 146 v2.toNatClampNeg v3) fun σ7 => if inb v2 12 = true then bnS (wi σ7 147 v2.toNatClampNeg v4) fun σ10 => kr v1 (v2 + 1) v3 (v4 + 1) σ10 else none else none))
set_option maxRecDepth 100000 in
set_option maxHeartbeats 4000000 in
theorem X8_listStrings_j49_ok {E : Ev}  {N : Nat} {kr : Int32 → Int32 → Int32 → Int32 → Sg → Option (Int32 × Sg)}  (hkr : ∀ (v1 : Int32) (v2 : Int32) (v3 : Int32) (v4 : Int32) (σ : Sg) (r : Int32 × Sg), kr v1 v2 v3 v4 σ = some r → Gp E RX8 cX8_listStrings (some .int) 6 (1) SH0 r.2 (some (.int r.1)) σ 15 [(0, .ref 0), (1, .int v1), (2, .int v2), (3, .int v3), (4, .int v4)] []) {v1 : Int32} {v2 : Int32} {v3 : Int32} {v4 : Int32} {s0 : Int32} {σ : Sg} {r : Int32 × Sg} (h : X8_listStrings_j49 N  kr v1 v2 v3 v4 s0 σ = some r) : Gp E RX8 cX8_listStrings (some .int) 6 (1) SH0 r.2 (some (.int r.1)) σ 49 [(0, .ref 0), (1, .int v1), (2, .int v2), (3, .int v3), (4, .int v4)] [.int s0] := by
  intro Z C hE
  unfold X8_listStrings_j49 at h
  refine r_istore (pc' := 51) (lv2 := [(5, .int s0), (0, .ref 0), (1, .int v1), (2, .int v2), (3, .int v3), (4, .int v4)]) C dX8_listStrings_49 rfl (Nat.le_of_ble_eq_true rfl) rfl ?_
  refine r_iload (pc' := 53) C dX8_listStrings_51 rfl 0 rfl ?_
  refine r_if_eq (tgt := 80) (pc' := 56) C dX8_listStrings_53 rfl rfl (fun c4 => ?_) (fun c4 => ?_)
  · rw [if_pos c4] at h
    refine r_iinc (pc' := 83) (v := v4 + 1) (lv2 := [(4, .int (v4 + 1)), (5, .int s0), (0, .ref 0), (1, .int v1), (2, .int v2), (3, .int v3)]) C dX8_listStrings_80 rfl 5 rfl rfl (Nat.le_of_ble_eq_true rfl) rfl ?_
    refine r_goto (tgt := 15) C dX8_listStrings_83 rfl ?_
    refine r_sub [2, 3, 4, 5, 0] rfl ?_
    exact hkr _ _ _ _ _ _ h Z C hE
  · rw [if_neg c4] at h
    refine r_iload_n (pc' := 57) C dX8_listStrings_56 rfl 3 rfl ?_
    refine r_bipush (pc' := 59) C dX8_listStrings_57 rfl kb_12 ?_
    refine r_icmp_ge (tgt := 80) (pc' := 62) C dX8_listStrings_59 rfl rfl (fun c5 => ?_) (fun c5 => ?_)
    · rw [if_pos c5] at h
      refine r_iinc (pc' := 83) (v := v4 + 1) (lv2 := [(4, .int (v4 + 1)), (5, .int s0), (0, .ref 0), (1, .int v1), (2, .int v2), (3, .int v3)]) C dX8_listStrings_80 rfl 5 rfl rfl (Nat.le_of_ble_eq_true rfl) rfl ?_
      refine r_goto (tgt := 15) C dX8_listStrings_83 rfl ?_
      refine r_sub [2, 3, 4, 5, 0] rfl ?_
      exact hkr _ _ _ _ _ _ h Z C hE
    · rw [if_neg c5] at h
      refine r_aload_n (pc' := 63) C dX8_listStrings_62 rfl 1 rfl ?_
      refine r_getR (pc' := 66) C flX8_74 sh_0 rfl dX8_listStrings_63 rfl ?_
      refine r_iload_n (pc' := 67) C dX8_listStrings_66 rfl 3 rfl ?_
      refine r_iload_n (pc' := 68) C dX8_listStrings_67 rfl 4 rfl ?_
      obtain ⟨q6, h⟩ := ck h
      obtain ⟨σ7, e8, h⟩ := bs h
      refine r_iast (pc' := 69) (σ1 := σ7) C sh_146 (vin q6) dX8_listStrings_68 rfl e8 ?_
      refine r_aload_n (pc' := 70) C dX8_listStrings_69 rfl 1 rfl ?_
      refine r_getR (pc' := 73) C flX8_77 sh_0 rfl dX8_listStrings_70 rfl ?_
      refine r_iload_n (pc' := 74) C dX8_listStrings_73 rfl 3 rfl ?_
      refine r_iload (pc' := 76) C dX8_listStrings_74 rfl 5 rfl ?_
      obtain ⟨q9, h⟩ := ck h
      obtain ⟨σ10, e11, h⟩ := bs h
      refine r_iast (pc' := 77) (σ1 := σ10) C sh_147 (vin q9) dX8_listStrings_76 rfl e11 ?_
      refine r_iinc (pc' := 80) (v := v2 + 1) (lv2 := [(2, .int (v2 + 1)), (5, .int s0), (0, .ref 0), (1, .int v1), (3, .int v3), (4, .int v4)]) C dX8_listStrings_77 rfl 3 rfl rfl (Nat.le_of_ble_eq_true rfl) rfl ?_
      refine r_iinc (pc' := 83) (v := v4 + 1) (lv2 := [(4, .int (v4 + 1)), (2, .int (v2 + 1)), (5, .int s0), (0, .ref 0), (1, .int v1), (3, .int v3)]) C dX8_listStrings_80 rfl 5 rfl rfl (Nat.le_of_ble_eq_true rfl) rfl ?_
      refine r_goto (tgt := 15) C dX8_listStrings_83 rfl ?_
      refine r_sub [3, 4, 1, 5, 0] rfl ?_
      exact hkr _ _ _ _ _ _ h Z C hE
def X8_listStrings_l15 (N : Nat)  (k86 : Int32 → Int32 → Int32 → Sg → Option (Int32 × Sg))  : Nat → Int32 → Int32 → Int32 → Int32 → Sg → Option (Int32 × Sg)
  | 0, _, _, _, _, _ => none
  | n + 1, v1, v2, v3, v4, σ =>
    if 8 ≤ v4 then (k86 v1 v2 v3 σ) else (if ((v1 >>> (v3 &&& 31)) &&& 1) = 1 then ((X5_isTied N 19 v3 v4 σ).bind fun r12 => (if r12 = 0 then (X8_listStrings_j49 N (fun v1 v2 v3 v4 σ => X8_listStrings_l15 N k86 n v1 v2 v3 v4 σ) v1 v2 v3 v4 0 σ) else (X8_listStrings_j49 N (fun v1 v2 v3 v4 σ => X8_listStrings_l15 N k86 n v1 v2 v3 v4 σ) v1 v2 v3 v4 1 σ))) else (X8_listStrings_j49 N (fun v1 v2 v3 v4 σ => X8_listStrings_l15 N k86 n v1 v2 v3 v4 σ) v1 v2 v3 v4 0 σ))
set_option maxRecDepth 100000 in
set_option maxHeartbeats 4000000 in
theorem X8_listStrings_l15_ok {E : Ev}  {N : Nat} {k86 : Int32 → Int32 → Int32 → Sg → Option (Int32 × Sg)}  (hk86 : ∀ (v1 : Int32) (v2 : Int32) (v3 : Int32) (σ : Sg) (r : Int32 × Sg), k86 v1 v2 v3 σ = some r → Gp E RX8 cX8_listStrings (some .int) 6 (1) SH0 r.2 (some (.int r.1)) σ 86 [(0, .ref 0), (1, .int v1), (2, .int v2), (3, .int v3)] []) : ∀ (n : Nat) (v1 : Int32) (v2 : Int32) (v3 : Int32) (v4 : Int32) (σ : Sg) (r : Int32 × Sg), X8_listStrings_l15 N k86 n v1 v2 v3 v4 σ = some r → Gp E RX8 cX8_listStrings (some .int) 6 (1) SH0 r.2 (some (.int r.1)) σ 15 [(0, .ref 0), (1, .int v1), (2, .int v2), (3, .int v3), (4, .int v4)] [] := by
  intro n
  induction n with
  | zero => intro v1 v2 v3 v4 σ r h; cases h
  | succ n ih =>
    intro v1 v2 v3 v4 σ r h Z C hE
    unfold X8_listStrings_l15 at h
    refine r_iload (pc' := 17) C dX8_listStrings_15 rfl 4 rfl ?_
    refine r_bipush (pc' := 19) C dX8_listStrings_17 rfl kb_8 ?_
    refine r_icmp_ge (tgt := 86) (pc' := 22) C dX8_listStrings_19 rfl rfl (fun c2 => ?_) (fun c2 => ?_)
    · rw [if_pos c2] at h
      refine r_sub [0, 1, 2, 3] rfl ?_
      exact hk86 _ _ _ _ _ h Z C hE
    · rw [if_neg c2] at h
      refine r_iload_n (pc' := 23) C dX8_listStrings_22 rfl 1 rfl ?_
      refine r_iload_n (pc' := 24) C dX8_listStrings_23 rfl 3 rfl ?_
      refine r_ishr (pc' := 25) C dX8_listStrings_24 rfl ?_
      refine r_iconst (pc' := 26) C dX8_listStrings_25 rfl kc_1 ?_
      refine r_iand (pc' := 27) C dX8_listStrings_26 rfl ?_
      refine r_iconst (pc' := 28) C dX8_listStrings_27 rfl kc_1 ?_
      refine r_icmp_ne (tgt := 48) (pc' := 31) C dX8_listStrings_28 rfl rfl (fun c3 => ?_) (fun c3 => ?_)
      · rw [if_neg c3] at h
        refine r_iconst (pc' := 49) C dX8_listStrings_48 rfl kc_0 ?_
        exact X8_listStrings_j49_ok  ih h Z C hE
      · rw [if_pos c3] at h
        refine r_aload_n (pc' := 32) C dX8_listStrings_31 rfl 0 rfl ?_
        refine r_getR (pc' := 35) C flX8_33 sh_0 rfl dX8_listStrings_32 rfl ?_
        refine r_iload_n (pc' := 36) C dX8_listStrings_35 rfl 3 rfl ?_
        refine r_iload (pc' := 38) C dX8_listStrings_36 rfl 4 rfl ?_
        obtain ⟨r12, e13, h⟩ := bd h
        refine r_cV1 (pc' := 41) C (X5_isTied_ok stc_19 e13) mlX8_292 ceX5_isTied cvX5_isTied sh_19 rfl rfl rfl (Nat.le_of_ble_eq_true rfl) rfl (Nat.le_of_ble_eq_true rfl) dX8_listStrings_38 rfl (kk := ?_)
        refine r_if_eq (tgt := 48) (pc' := 44) C dX8_listStrings_41 rfl rfl (fun c14 => ?_) (fun c14 => ?_)
        · rw [if_pos c14] at h
          refine r_iconst (pc' := 49) C dX8_listStrings_48 rfl kc_0 ?_
          exact X8_listStrings_j49_ok  ih h Z C hE
        · rw [if_neg c14] at h
          refine r_iconst (pc' := 45) C dX8_listStrings_44 rfl kc_1 ?_
          refine r_goto (tgt := 49) C dX8_listStrings_45 rfl ?_
          exact X8_listStrings_j49_ok  ih h Z C hE
def X8_listStrings_j86 (N : Nat)  (kr : Int32 → Int32 → Int32 → Sg → Option (Int32 × Sg)) (v1 : Int32) (v2 : Int32) (v3 : Int32) (σ : Sg) : Option (Int32 × Sg) :=
  kr v1 v2 (v3 + 1) σ
set_option maxRecDepth 100000 in
set_option maxHeartbeats 4000000 in
theorem X8_listStrings_j86_ok {E : Ev}  {N : Nat} {kr : Int32 → Int32 → Int32 → Sg → Option (Int32 × Sg)}  (hkr : ∀ (v1 : Int32) (v2 : Int32) (v3 : Int32) (σ : Sg) (r : Int32 × Sg), kr v1 v2 v3 σ = some r → Gp E RX8 cX8_listStrings (some .int) 6 (1) SH0 r.2 (some (.int r.1)) σ 4 [(0, .ref 0), (1, .int v1), (2, .int v2), (3, .int v3)] []) {v1 : Int32} {v2 : Int32} {v3 : Int32} {σ : Sg} {r : Int32 × Sg} (h : X8_listStrings_j86 N  kr v1 v2 v3 σ = some r) : Gp E RX8 cX8_listStrings (some .int) 6 (1) SH0 r.2 (some (.int r.1)) σ 86 [(0, .ref 0), (1, .int v1), (2, .int v2), (3, .int v3)] [] := by
  intro Z C hE
  unfold X8_listStrings_j86 at h
  refine r_iinc (pc' := 89) (v := v3 + 1) (lv2 := [(3, .int (v3 + 1)), (0, .ref 0), (1, .int v1), (2, .int v2)]) C dX8_listStrings_86 rfl 3 rfl rfl (Nat.le_of_ble_eq_true rfl) rfl ?_
  refine r_goto (tgt := 4) C dX8_listStrings_89 rfl ?_
  refine r_sub [1, 2, 3, 0] rfl ?_
  exact hkr _ _ _ _ _ h Z C hE
def X8_listStrings_l4 (N : Nat)    : Nat → Int32 → Int32 → Int32 → Sg → Option (Int32 × Sg)
  | 0, _, _, _, _ => none
  | n + 1, v1, v2, v3, σ =>
    if 8 ≤ v3 then (some (v2, σ)) else (X8_listStrings_l15 N (fun v1 v2 v3 σ => X8_listStrings_j86 N (fun v1 v2 v3 σ => X8_listStrings_l4 N n v1 v2 v3 σ) v1 v2 v3 σ) N v1 v2 v3 (v3 + 1) σ)
set_option maxRecDepth 100000 in
set_option maxHeartbeats 4000000 in
theorem X8_listStrings_l4_ok {E : Ev}  {N : Nat}    : ∀ (n : Nat) (v1 : Int32) (v2 : Int32) (v3 : Int32) (σ : Sg) (r : Int32 × Sg), X8_listStrings_l4 N n v1 v2 v3 σ = some r → Gp E RX8 cX8_listStrings (some .int) 6 (1) SH0 r.2 (some (.int r.1)) σ 4 [(0, .ref 0), (1, .int v1), (2, .int v2), (3, .int v3)] [] := by
  intro n
  induction n with
  | zero => intro v1 v2 v3 σ r h; cases h
  | succ n ih =>
    intro v1 v2 v3 σ r h Z C hE
    unfold X8_listStrings_l4 at h
    refine r_iload_n (pc' := 5) C dX8_listStrings_4 rfl 3 rfl ?_
    refine r_bipush (pc' := 7) C dX8_listStrings_5 rfl kb_8 ?_
    refine r_icmp_ge (tgt := 92) (pc' := 10) C dX8_listStrings_7 rfl rfl (fun c1 => ?_) (fun c1 => ?_)
    · rw [if_pos c1] at h
      refine r_iload_n (pc' := 93) C dX8_listStrings_92 rfl 2 rfl ?_
      have h := Option.some.inj h
      subst h
      exact r_ret C rfl dX8_listStrings_93 hE
    · rw [if_neg c1] at h
      refine r_iload_n (pc' := 11) C dX8_listStrings_10 rfl 3 rfl ?_
      refine r_iconst (pc' := 12) C dX8_listStrings_11 rfl kc_1 ?_
      refine r_iadd (pc' := 13) C dX8_listStrings_12 rfl ?_
      refine r_istore (pc' := 15) (lv2 := [(4, .int (v3 + 1)), (0, .ref 0), (1, .int v1), (2, .int v2), (3, .int v3)]) C dX8_listStrings_13 rfl (Nat.le_of_ble_eq_true rfl) rfl ?_
      refine r_sub [1, 2, 3, 4, 0] rfl ?_
      exact X8_listStrings_l15_ok  (fun _ _ _ _ _ h Z C hE => by exact X8_listStrings_j86_ok  ih h Z C hE) N _ _ _ _ _ _ h Z C hE
def X8_listStrings (N : Nat)  (v1 : Int32) (σ : Sg) : Option (Int32 × Sg) :=
  X8_listStrings_l4 N N v1 0 0 σ
set_option maxRecDepth 100000 in
set_option maxHeartbeats 4000000 in
theorem X8_listStrings_ok {E : Ev}  {N : Nat} {v1 : Int32} {σ : Sg} {r : Int32 × Sg} (h : X8_listStrings N  v1 σ = some r) : Cm E (1) yX8_listStrings cX8_listStrings 6 (some .int) [.ref 0, .int v1] SH0 SH0 σ r.2 (some (.int r.1)) 0 0 := by
  refine Cm.intro (by decide +kernel) (Nat.le_of_ble_eq_true rfl) (fun _ h => by obtain ⟨_, _, _, _, _, _, h⟩ := h; exact h) (fun Z C hE => ?_)
  show Wm E Z 0 0 SH0 σ 0 [(0, .ref 0), (1, .int v1)] []
  unfold X8_listStrings at h
  refine r_iconst (pc' := 1) C dX8_listStrings_0 rfl kc_0 ?_
  refine r_istore_n (pc' := 2) (lv2 := [(2, .int 0), (0, .ref 0), (1, .int v1)]) C dX8_listStrings_1 rfl rfl (Nat.le_of_ble_eq_true rfl) rfl ?_
  refine r_iconst (pc' := 3) C dX8_listStrings_2 rfl kc_0 ?_
  refine r_istore_n (pc' := 4) (lv2 := [(3, .int 0), (2, .int 0), (0, .ref 0), (1, .int v1)]) C dX8_listStrings_3 rfl rfl (Nat.le_of_ble_eq_true rfl) rfl ?_
  refine r_sub [2, 3, 1, 0] rfl ?_
  exact X8_listStrings_l4_ok  N _ _ _ _ _ h Z C hE

/-! BorrowedWeight$State.cutAll()V -/
def X5_cutAll_l2 (N : Nat) (k0 : Nat)   : Nat → Int32 → Sg → Option (Sg)
  | 0, _, _ => none
  | n + 1, v1, σ =>
    if 8 ≤ v1 then (some σ) else (if inb v1 8 = true then bnS (wi σ (k0 + 4) v1.toNatClampNeg 0) fun σ3 => X5_cutAll_l2 N k0 n (v1 + 1) σ3 else none)
set_option maxRecDepth 100000 in
set_option maxHeartbeats 4000000 in
theorem X5_cutAll_l2_ok {E : Ev} {k0 : Nat} (hk0 : StAt SH0 k0) {N : Nat}    : ∀ (n : Nat) (v1 : Int32) (σ : Sg) (r : Sg), X5_cutAll_l2 N k0 n v1 σ = some r → Gp E RX5 cX5_cutAll none 2 (0) SH0 r (none) σ 2 [(0, .ref k0), (1, .int v1)] [] := by
  intro n
  induction n with
  | zero => intro v1 σ r h; cases h
  | succ n ih =>
    intro v1 σ r h Z C hE
    unfold X5_cutAll_l2 at h
    refine r_iload_n (pc' := 3) C dX5_cutAll_2 rfl 1 rfl ?_
    refine r_bipush (pc' := 5) C dX5_cutAll_3 rfl kb_8 ?_
    refine r_icmp_ge (tgt := 21) (pc' := 8) C dX5_cutAll_5 rfl rfl (fun c1 => ?_) (fun c1 => ?_)
    · rw [if_pos c1] at h
      have h := Option.some.inj h
      subst h
      exact r_vret C dX5_cutAll_21 hE
    · rw [if_neg c1] at h
      refine r_aload_n (pc' := 9) C dX5_cutAll_8 rfl 0 rfl ?_
      refine r_getR (pc' := 12) C flX5_21 (st0 hk0) rfl dX5_cutAll_9 rfl ?_
      refine r_iload_n (pc' := 13) C dX5_cutAll_12 rfl 1 rfl ?_
      refine r_iconst (pc' := 14) C dX5_cutAll_13 rfl kc_0 ?_
      obtain ⟨q2, h⟩ := ck h
      obtain ⟨σ3, e4, h⟩ := bs h
      refine r_iast (pc' := 15) (σ1 := σ3) C (st4 hk0) (vin q2) dX5_cutAll_14 rfl e4 ?_
      refine r_iinc (pc' := 18) (v := v1 + 1) (lv2 := [(1, .int (v1 + 1)), (0, .ref k0)]) C dX5_cutAll_15 rfl 1 rfl rfl (Nat.le_of_ble_eq_true rfl) rfl ?_
      refine r_goto (tgt := 2) C dX5_cutAll_18 rfl ?_
      refine r_sub [1, 0] rfl ?_
      exact ih _ _ _ h Z C hE
def X5_cutAll (N : Nat) (k0 : Nat)  (σ : Sg) : Option (Sg) :=
  X5_cutAll_l2 N k0 N 0 σ
set_option maxRecDepth 100000 in
set_option maxHeartbeats 4000000 in
theorem X5_cutAll_ok {E : Ev} {k0 : Nat} (hk0 : StAt SH0 k0) {N : Nat}  {σ : Sg} {r : Sg} (h : X5_cutAll N k0  σ = some r) : Cm E (0) yX5_cutAll cX5_cutAll 2 none [.ref k0] SH0 SH0 σ r (none) 0 0 := by
  refine Cm.intro (by decide +kernel) (Nat.le_of_ble_eq_true rfl) (fun _ h => by obtain ⟨_, _, _, _, _, _, h⟩ := h; exact h) (fun Z C hE => ?_)
  show Wm E Z 0 0 SH0 σ 0 [(0, .ref k0)] []
  unfold X5_cutAll at h
  refine r_iconst (pc' := 1) C dX5_cutAll_0 rfl kc_0 ?_
  refine r_istore_n (pc' := 2) (lv2 := [(1, .int 0), (0, .ref k0)]) C dX5_cutAll_1 rfl rfl (Nat.le_of_ble_eq_true rfl) rfl ?_
  refine r_sub [1, 0] rfl ?_
  exact X5_cutAll_l2_ok hk0 N _ _ _ h Z C hE

/-! BorrowedWeight.tallyStorm(I)I -/
def X8_tallyStorm_l15 (N : Nat)  (k33 : Int32 → Int32 → Sg → Option (Int32 × Sg))  : Nat → Int32 → Int32 → Int32 → Sg → Option (Int32 × Sg)
  | 0, _, _, _, _ => none
  | n + 1, v1, v2, v3, σ =>
    if v2 < v3 then (k33 v1 v2 σ) else (if inb v3 13 = true then bnS (wi σ 145 v3.toNatClampNeg 0) fun σ7 => X8_tallyStorm_l15 N k33 n v1 v2 (v3 + 1) σ7 else none)
set_option maxRecDepth 100000 in
set_option maxHeartbeats 4000000 in
theorem X8_tallyStorm_l15_ok {E : Ev}  {N : Nat} {k33 : Int32 → Int32 → Sg → Option (Int32 × Sg)}  (hk33 : ∀ (v1 : Int32) (v2 : Int32) (σ : Sg) (r : Int32 × Sg), k33 v1 v2 σ = some r → Gp E RX8 cX8_tallyStorm (some .int) 5 (2) SH0 r.2 (some (.int r.1)) σ 33 [(0, .ref 0), (1, .int v1), (2, .int v2)] []) : ∀ (n : Nat) (v1 : Int32) (v2 : Int32) (v3 : Int32) (σ : Sg) (r : Int32 × Sg), X8_tallyStorm_l15 N k33 n v1 v2 v3 σ = some r → Gp E RX8 cX8_tallyStorm (some .int) 5 (2) SH0 r.2 (some (.int r.1)) σ 15 [(0, .ref 0), (1, .int v1), (2, .int v2), (3, .int v3)] [] := by
  intro n
  induction n with
  | zero => intro v1 v2 v3 σ r h; cases h
  | succ n ih =>
    intro v1 v2 v3 σ r h Z C hE
    unfold X8_tallyStorm_l15 at h
    refine r_iload_n (pc' := 16) C dX8_tallyStorm_15 rfl 3 rfl ?_
    refine r_iload_n (pc' := 17) C dX8_tallyStorm_16 rfl 2 rfl ?_
    refine r_icmp_gt (tgt := 33) (pc' := 20) C dX8_tallyStorm_17 rfl rfl (fun c5 => ?_) (fun c5 => ?_)
    · rw [if_pos c5] at h
      refine r_sub [0, 1, 2] rfl ?_
      exact hk33 _ _ _ _ h Z C hE
    · rw [if_neg c5] at h
      refine r_aload_n (pc' := 21) C dX8_tallyStorm_20 rfl 0 rfl ?_
      refine r_getR (pc' := 24) C flX8_71 sh_0 rfl dX8_tallyStorm_21 rfl ?_
      refine r_iload_n (pc' := 25) C dX8_tallyStorm_24 rfl 3 rfl ?_
      refine r_iconst (pc' := 26) C dX8_tallyStorm_25 rfl kc_0 ?_
      obtain ⟨q6, h⟩ := ck h
      obtain ⟨σ7, e8, h⟩ := bs h
      refine r_iast (pc' := 27) (σ1 := σ7) C sh_145 (vin q6) dX8_tallyStorm_26 rfl e8 ?_
      refine r_iinc (pc' := 30) (v := v3 + 1) (lv2 := [(3, .int (v3 + 1)), (0, .ref 0), (1, .int v1), (2, .int v2)]) C dX8_tallyStorm_27 rfl 3 rfl rfl (Nat.le_of_ble_eq_true rfl) rfl ?_
      refine r_goto (tgt := 15) C dX8_tallyStorm_30 rfl ?_
      refine r_sub [1, 2, 3, 0] rfl ?_
      exact ih _ _ _ _ _ h Z C hE
def X8_tallyStorm_l52 (N : Nat)  (k95 : Int32 → Int32 → Int32 → Sg → Option (Int32 × Sg))  : Nat → Int32 → Int32 → Int32 → Int32 → Sg → Option (Int32 × Sg)
  | 0, _, _, _, _, _ => none
  | n + 1, v1, v2, v3, v4, σ =>
    if v2 ≤ v4 then (k95 v1 v2 v3 σ) else (if ((v3 >>> (v4 &&& 31)) &&& 1) = 1 then (if inb v4 12 = true then if inb v4 12 = true then (X5_toggle N 24 (gi σ 146 v4.toNatClampNeg) (gi σ 147 v4.toNatClampNeg) σ).bind fun r16 => (X8_tallyStorm_l52 N k95 n v1 v2 v3 (v4 + 1) r16) else none else none) else (X8_tallyStorm_l52 N k95 n v1 v2 v3 (v4 + 1) σ))
set_option maxRecDepth 100000 in
set_option maxHeartbeats 4000000 in
theorem X8_tallyStorm_l52_ok {E : Ev}  {N : Nat} {k95 : Int32 → Int32 → Int32 → Sg → Option (Int32 × Sg)}  (hk95 : ∀ (v1 : Int32) (v2 : Int32) (v3 : Int32) (σ : Sg) (r : Int32 × Sg), k95 v1 v2 v3 σ = some r → Gp E RX8 cX8_tallyStorm (some .int) 5 (2) SH0 r.2 (some (.int r.1)) σ 95 [(0, .ref 0), (1, .int v1), (2, .int v2), (3, .int v3)] []) : ∀ (n : Nat) (v1 : Int32) (v2 : Int32) (v3 : Int32) (v4 : Int32) (σ : Sg) (r : Int32 × Sg), X8_tallyStorm_l52 N k95 n v1 v2 v3 v4 σ = some r → Gp E RX8 cX8_tallyStorm (some .int) 5 (2) SH0 r.2 (some (.int r.1)) σ 52 [(0, .ref 0), (1, .int v1), (2, .int v2), (3, .int v3), (4, .int v4)] [] := by
  intro n
  induction n with
  | zero => intro v1 v2 v3 v4 σ r h; cases h
  | succ n ih =>
    intro v1 v2 v3 v4 σ r h Z C hE
    unfold X8_tallyStorm_l52 at h
    refine r_iload (pc' := 54) C dX8_tallyStorm_52 rfl 4 rfl ?_
    refine r_iload_n (pc' := 55) C dX8_tallyStorm_54 rfl 2 rfl ?_
    refine r_icmp_ge (tgt := 95) (pc' := 58) C dX8_tallyStorm_55 rfl rfl (fun c12 => ?_) (fun c12 => ?_)
    · rw [if_pos c12] at h
      refine r_sub [0, 1, 2, 3] rfl ?_
      exact hk95 _ _ _ _ _ h Z C hE
    · rw [if_neg c12] at h
      refine r_iload_n (pc' := 59) C dX8_tallyStorm_58 rfl 3 rfl ?_
      refine r_iload (pc' := 61) C dX8_tallyStorm_59 rfl 4 rfl ?_
      refine r_ishr (pc' := 62) C dX8_tallyStorm_61 rfl ?_
      refine r_iconst (pc' := 63) C dX8_tallyStorm_62 rfl kc_1 ?_
      refine r_iand (pc' := 64) C dX8_tallyStorm_63 rfl ?_
      refine r_iconst (pc' := 65) C dX8_tallyStorm_64 rfl kc_1 ?_
      refine r_icmp_ne (tgt := 89) (pc' := 68) C dX8_tallyStorm_65 rfl rfl (fun c13 => ?_) (fun c13 => ?_)
      · rw [if_neg c13] at h
        refine r_iinc (pc' := 92) (v := v4 + 1) (lv2 := [(4, .int (v4 + 1)), (0, .ref 0), (1, .int v1), (2, .int v2), (3, .int v3)]) C dX8_tallyStorm_89 rfl 4 rfl rfl (Nat.le_of_ble_eq_true rfl) rfl ?_
        refine r_goto (tgt := 52) C dX8_tallyStorm_92 rfl ?_
        refine r_sub [1, 2, 3, 4, 0] rfl ?_
        exact ih _ _ _ _ _ _ h Z C hE
      · rw [if_pos c13] at h
        refine r_aload_n (pc' := 69) C dX8_tallyStorm_68 rfl 0 rfl ?_
        refine r_getR (pc' := 72) C flX8_37 sh_0 rfl dX8_tallyStorm_69 rfl ?_
        refine r_aload_n (pc' := 73) C dX8_tallyStorm_72 rfl 0 rfl ?_
        refine r_getR (pc' := 76) C flX8_74 sh_0 rfl dX8_tallyStorm_73 rfl ?_
        refine r_iload (pc' := 78) C dX8_tallyStorm_76 rfl 4 rfl ?_
        obtain ⟨q14, h⟩ := ck h
        refine r_iald (pc' := 79) C sh_146 (vin q14) dX8_tallyStorm_78 rfl ?_
        refine r_aload_n (pc' := 80) C dX8_tallyStorm_79 rfl 0 rfl ?_
        refine r_getR (pc' := 83) C flX8_77 sh_0 rfl dX8_tallyStorm_80 rfl ?_
        refine r_iload (pc' := 85) C dX8_tallyStorm_83 rfl 4 rfl ?_
        obtain ⟨q15, h⟩ := ck h
        refine r_iald (pc' := 86) C sh_147 (vin q15) dX8_tallyStorm_85 rfl ?_
        obtain ⟨r16, e17, h⟩ := bd h
        refine r_cV0 (pc' := 89) C (X5_toggle_ok stc_24 e17) mlX8_437 ceX5_toggle cvX5_toggle sh_24 rfl rfl rfl (Nat.le_of_ble_eq_true rfl) rfl (Nat.le_of_ble_eq_true rfl) dX8_tallyStorm_86 rfl (kk := ?_)
        refine r_iinc (pc' := 92) (v := v4 + 1) (lv2 := [(4, .int (v4 + 1)), (0, .ref 0), (1, .int v1), (2, .int v2), (3, .int v3)]) C dX8_tallyStorm_89 rfl 4 rfl rfl (Nat.le_of_ble_eq_true rfl) rfl ?_
        refine r_goto (tgt := 52) C dX8_tallyStorm_92 rfl ?_
        refine r_sub [1, 2, 3, 4, 0] rfl ?_
        exact ih _ _ _ _ _ _ h Z C hE
def X8_tallyStorm_j95 (N : Nat)  (kr : Int32 → Int32 → Int32 → Sg → Option (Int32 × Sg)) (v1 : Int32) (v2 : Int32) (v3 : Int32) (σ : Sg) : Option (Int32 × Sg) :=
  (X5_bundleOf N 24 v1 σ).bind fun r18 => ((X0_excess N 19 r18 σ).bind fun r20 => (if r20 < 0 then (kr v1 v2 (v3 + 1) σ) else ((J6_bitCount_0f7a4 N v3 σ).bind fun r23 => (if inb (v2 - r23) 13 = true then if inb (v2 - r23) 13 = true then bnS (wi σ 145 (v2 - r23).toNatClampNeg ((gi σ 145 (v2 - r23).toNatClampNeg) + 1)) fun σ27 => kr v1 v2 (v3 + 1) σ27 else none else none))))
set_option maxRecDepth 100000 in
set_option maxHeartbeats 4000000 in
theorem X8_tallyStorm_j95_ok {E : Ev}  {N : Nat} {kr : Int32 → Int32 → Int32 → Sg → Option (Int32 × Sg)}  (hkr : ∀ (v1 : Int32) (v2 : Int32) (v3 : Int32) (σ : Sg) (r : Int32 × Sg), kr v1 v2 v3 σ = some r → Gp E RX8 cX8_tallyStorm (some .int) 5 (2) SH0 r.2 (some (.int r.1)) σ 35 [(0, .ref 0), (1, .int v1), (2, .int v2), (3, .int v3)] []) {v1 : Int32} {v2 : Int32} {v3 : Int32} {σ : Sg} {r : Int32 × Sg} (h : X8_tallyStorm_j95 N  kr v1 v2 v3 σ = some r) : Gp E RX8 cX8_tallyStorm (some .int) 5 (2) SH0 r.2 (some (.int r.1)) σ 95 [(0, .ref 0), (1, .int v1), (2, .int v2), (3, .int v3)] [] := by
  intro Z C hE
  unfold X8_tallyStorm_j95 at h
  refine r_aload_n (pc' := 96) C dX8_tallyStorm_95 rfl 0 rfl ?_
  refine r_getR (pc' := 99) C flX8_26 sh_0 rfl dX8_tallyStorm_96 rfl ?_
  refine r_aload_n (pc' := 100) C dX8_tallyStorm_99 rfl 0 rfl ?_
  refine r_getR (pc' := 103) C flX8_33 sh_0 rfl dX8_tallyStorm_100 rfl ?_
  refine r_aload_n (pc' := 104) C dX8_tallyStorm_103 rfl 0 rfl ?_
  refine r_getR (pc' := 107) C flX8_37 sh_0 rfl dX8_tallyStorm_104 rfl ?_
  refine r_iload_n (pc' := 108) C dX8_tallyStorm_107 rfl 1 rfl ?_
  obtain ⟨r18, e19, h⟩ := bd h
  refine r_cV1 (pc' := 111) C (X5_bundleOf_ok stc_24 e19) mlX8_177 ceX5_bundleOf cvX5_bundleOf sh_24 rfl rfl rfl (Nat.le_of_ble_eq_true rfl) rfl (Nat.le_of_ble_eq_true rfl) dX8_tallyStorm_108 rfl (kk := ?_)
  obtain ⟨r20, e21, h⟩ := bd h
  refine r_cV1 (pc' := 114) C (X0_excess_ok stc_19 e21) mlX8_273 ceX0_excess cvX0_excess sh_5 rfl rfl rfl (Nat.le_of_ble_eq_true rfl) rfl (Nat.le_of_ble_eq_true rfl) dX8_tallyStorm_111 rfl (kk := ?_)
  refine r_if_lt (tgt := 132) (pc' := 117) C dX8_tallyStorm_114 rfl rfl (fun c22 => ?_) (fun c22 => ?_)
  · rw [if_pos c22] at h
    refine r_iinc (pc' := 135) (v := v3 + 1) (lv2 := [(3, .int (v3 + 1)), (0, .ref 0), (1, .int v1), (2, .int v2)]) C dX8_tallyStorm_132 rfl 3 rfl rfl (Nat.le_of_ble_eq_true rfl) rfl ?_
    refine r_goto (tgt := 35) C dX8_tallyStorm_135 rfl ?_
    refine r_sub [1, 2, 3, 0] rfl ?_
    exact hkr _ _ _ _ _ h Z C hE
  · rw [if_neg c22] at h
    refine r_aload_n (pc' := 118) C dX8_tallyStorm_117 rfl 0 rfl ?_
    refine r_getR (pc' := 121) C flX8_71 sh_0 rfl dX8_tallyStorm_118 rfl ?_
    refine r_iload_n (pc' := 122) C dX8_tallyStorm_121 rfl 2 rfl ?_
    refine r_iload_n (pc' := 123) C dX8_tallyStorm_122 rfl 3 rfl ?_
    obtain ⟨r23, e24, h⟩ := bd h
    refine r_cS1 (pc' := 126) C (J6_bitCount_0f7a4_ok  e24) mlX8_189 ceJ6_bitCount_0f7a4 csJ6_bitCount_0f7a4 rfl (Nat.le_of_ble_eq_true rfl) rfl (Nat.le_of_ble_eq_true rfl) dX8_tallyStorm_123 rfl (kk := ?_)
    refine r_isub (pc' := 127) C dX8_tallyStorm_126 rfl ?_
    refine r_dup2 (pc' := 128) C dX8_tallyStorm_127 rfl rfl rfl ?_
    obtain ⟨q25, h⟩ := ck h
    refine r_iald (pc' := 129) C sh_145 (vin q25) dX8_tallyStorm_128 rfl ?_
    refine r_iconst (pc' := 130) C dX8_tallyStorm_129 rfl kc_1 ?_
    refine r_iadd (pc' := 131) C dX8_tallyStorm_130 rfl ?_
    obtain ⟨q26, h⟩ := ck h
    obtain ⟨σ27, e28, h⟩ := bs h
    refine r_iast (pc' := 132) (σ1 := σ27) C sh_145 (vin q26) dX8_tallyStorm_131 rfl e28 ?_
    refine r_iinc (pc' := 135) (v := v3 + 1) (lv2 := [(3, .int (v3 + 1)), (0, .ref 0), (1, .int v1), (2, .int v2)]) C dX8_tallyStorm_132 rfl 3 rfl rfl (Nat.le_of_ble_eq_true rfl) rfl ?_
    refine r_goto (tgt := 35) C dX8_tallyStorm_135 rfl ?_
    refine r_sub [1, 2, 3, 0] rfl ?_
    exact hkr _ _ _ _ _ h Z C hE
def X8_tallyStorm_l35 (N : Nat)    : Nat → Int32 → Int32 → Int32 → Sg → Option (Int32 × Sg)
  | 0, _, _, _, _ => none
  | n + 1, v1, v2, v3, σ =>
    if (1 <<< (v2 &&& 31)) ≤ v3 then (some (v2, σ)) else ((X5_cutAll N 24 σ).bind fun r10 => (X8_tallyStorm_l52 N (fun v1 v2 v3 σ => X8_tallyStorm_j95 N (fun v1 v2 v3 σ => X8_tallyStorm_l35 N n v1 v2 v3 σ) v1 v2 v3 σ) N v1 v2 v3 0 r10))
set_option maxRecDepth 100000 in
set_option maxHeartbeats 4000000 in
theorem X8_tallyStorm_l35_ok {E : Ev}  {N : Nat}    : ∀ (n : Nat) (v1 : Int32) (v2 : Int32) (v3 : Int32) (σ : Sg) (r : Int32 × Sg), X8_tallyStorm_l35 N n v1 v2 v3 σ = some r → Gp E RX8 cX8_tallyStorm (some .int) 5 (2) SH0 r.2 (some (.int r.1)) σ 35 [(0, .ref 0), (1, .int v1), (2, .int v2), (3, .int v3)] [] := by
  intro n
  induction n with
  | zero => intro v1 v2 v3 σ r h; cases h
  | succ n ih =>
    intro v1 v2 v3 σ r h Z C hE
    unfold X8_tallyStorm_l35 at h
    refine r_iload_n (pc' := 36) C dX8_tallyStorm_35 rfl 3 rfl ?_
    refine r_iconst (pc' := 37) C dX8_tallyStorm_36 rfl kc_1 ?_
    refine r_iload_n (pc' := 38) C dX8_tallyStorm_37 rfl 2 rfl ?_
    refine r_ishl (pc' := 39) C dX8_tallyStorm_38 rfl ?_
    refine r_icmp_ge (tgt := 138) (pc' := 42) C dX8_tallyStorm_39 rfl rfl (fun c9 => ?_) (fun c9 => ?_)
    · rw [if_pos c9] at h
      refine r_iload_n (pc' := 139) C dX8_tallyStorm_138 rfl 2 rfl ?_
      have h := Option.some.inj h
      subst h
      exact r_ret C rfl dX8_tallyStorm_139 hE
    · rw [if_neg c9] at h
      refine r_aload_n (pc' := 43) C dX8_tallyStorm_42 rfl 0 rfl ?_
      refine r_getR (pc' := 46) C flX8_37 sh_0 rfl dX8_tallyStorm_43 rfl ?_
      obtain ⟨r10, e11, h⟩ := bd h
      refine r_cV0 (pc' := 49) C (X5_cutAll_ok stc_24 e11) mlX8_446 ceX5_cutAll cvX5_cutAll sh_24 rfl rfl rfl (Nat.le_of_ble_eq_true rfl) rfl (Nat.le_of_ble_eq_true rfl) dX8_tallyStorm_46 rfl (kk := ?_)
      refine r_iconst (pc' := 50) C dX8_tallyStorm_49 rfl kc_0 ?_
      refine r_istore (pc' := 52) (lv2 := [(4, .int 0), (0, .ref 0), (1, .int v1), (2, .int v2), (3, .int v3)]) C dX8_tallyStorm_50 rfl (Nat.le_of_ble_eq_true rfl) rfl ?_
      refine r_sub [1, 2, 3, 4, 0] rfl ?_
      exact X8_tallyStorm_l52_ok  (fun _ _ _ _ _ h Z C hE => by exact X8_tallyStorm_j95_ok  ih h Z C hE) N _ _ _ _ _ _ h Z C hE
def X8_tallyStorm_j33 (N : Nat)   (v1 : Int32) (v2 : Int32) (σ : Sg) : Option (Int32 × Sg) :=
  X8_tallyStorm_l35 N N v1 v2 0 σ
set_option maxRecDepth 100000 in
set_option maxHeartbeats 4000000 in
theorem X8_tallyStorm_j33_ok {E : Ev}  {N : Nat}    {v1 : Int32} {v2 : Int32} {σ : Sg} {r : Int32 × Sg} (h : X8_tallyStorm_j33 N   v1 v2 σ = some r) : Gp E RX8 cX8_tallyStorm (some .int) 5 (2) SH0 r.2 (some (.int r.1)) σ 33 [(0, .ref 0), (1, .int v1), (2, .int v2)] [] := by
  intro Z C hE
  unfold X8_tallyStorm_j33 at h
  refine r_iconst (pc' := 34) C dX8_tallyStorm_33 rfl kc_0 ?_
  refine r_istore_n (pc' := 35) (lv2 := [(3, .int 0), (0, .ref 0), (1, .int v1), (2, .int v2)]) C dX8_tallyStorm_34 rfl rfl (Nat.le_of_ble_eq_true rfl) rfl ?_
  refine r_sub [1, 2, 3, 0] rfl ?_
  exact X8_tallyStorm_l35_ok  N _ _ _ _ _ h Z C hE
def X8_tallyStorm (N : Nat)  (v1 : Int32) (σ : Sg) : Option (Int32 × Sg) :=
  (X5_bundleOf N 19 v1 σ).bind fun r1 => ((X8_listStrings N r1 σ).bind fun r3 => (X8_tallyStorm_l15 N (fun v1 v2 σ => X8_tallyStorm_j33 N v1 v2 σ) N v1 r3.1 0 r3.2))
set_option maxRecDepth 100000 in
set_option maxHeartbeats 4000000 in
theorem X8_tallyStorm_ok {E : Ev}  {N : Nat} {v1 : Int32} {σ : Sg} {r : Int32 × Sg} (h : X8_tallyStorm N  v1 σ = some r) : Cm E (2) yX8_tallyStorm cX8_tallyStorm 5 (some .int) [.ref 0, .int v1] SH0 SH0 σ r.2 (some (.int r.1)) 0 0 := by
  refine Cm.intro (by decide +kernel) (Nat.le_of_ble_eq_true rfl) (fun _ h => by obtain ⟨_, _, _, _, _, _, h⟩ := h; exact h) (fun Z C hE => ?_)
  show Wm E Z 0 0 SH0 σ 0 [(0, .ref 0), (1, .int v1)] []
  unfold X8_tallyStorm at h
  refine r_aload_n (pc' := 1) C dX8_tallyStorm_0 rfl 0 rfl ?_
  refine r_aload_n (pc' := 2) C dX8_tallyStorm_1 rfl 0 rfl ?_
  refine r_getR (pc' := 5) C flX8_33 sh_0 rfl dX8_tallyStorm_2 rfl ?_
  refine r_iload_n (pc' := 6) C dX8_tallyStorm_5 rfl 1 rfl ?_
  obtain ⟨r1, e2, h⟩ := bd h
  refine r_cV1 (pc' := 9) C (X5_bundleOf_ok stc_19 e2) mlX8_177 ceX5_bundleOf cvX5_bundleOf sh_19 rfl rfl rfl (Nat.le_of_ble_eq_true rfl) rfl (Nat.le_of_ble_eq_true rfl) dX8_tallyStorm_6 rfl (kk := ?_)
  obtain ⟨r3, e4, h⟩ := bd h
  refine r_cV1 (pc' := 12) C (X8_listStrings_ok  e4) mlX8_443 ceX8_listStrings cvX8_listStrings sh_0 rfl rfl rfl (Nat.le_of_ble_eq_true rfl) rfl (Nat.le_of_ble_eq_true rfl) dX8_tallyStorm_9 rfl (kk := ?_)
  refine r_istore_n (pc' := 13) (lv2 := [(2, .int r3.1), (0, .ref 0), (1, .int v1)]) C dX8_tallyStorm_12 rfl rfl (Nat.le_of_ble_eq_true rfl) rfl ?_
  refine r_iconst (pc' := 14) C dX8_tallyStorm_13 rfl kc_0 ?_
  refine r_istore_n (pc' := 15) (lv2 := [(3, .int 0), (2, .int r3.1), (0, .ref 0), (1, .int v1)]) C dX8_tallyStorm_14 rfl rfl (Nat.le_of_ble_eq_true rfl) rfl ?_
  refine r_sub [2, 3, 1, 0] rfl ?_
  exact X8_tallyStorm_l15_ok  (fun _ _ _ _ h Z C hE => by exact X8_tallyStorm_j33_ok  h Z C hE) N _ _ _ _ _ h Z C hE

/-! BorrowedWeight.power(II)J -/
def X8_power_l5 (N : Nat)   (σ : Sg) : Nat → Int32 → Int32 → Int64 → Int32 → Option (Int64)
  | 0, _, _, _, _ => none
  | n + 1, v0, v1, v2, v4 =>
    if v1 ≤ v4 then (some v2) else (X8_power_l5 N σ n v0 v1 (v2 * v0.toInt64) (v4 + 1))
set_option maxRecDepth 100000 in
set_option maxHeartbeats 4000000 in
theorem X8_power_l5_ok {E : Ev}  {N : Nat}  {σ : Sg}  : ∀ (n : Nat) (v0 : Int32) (v1 : Int32) (v2 : Int64) (v4 : Int32) (r : Int64), X8_power_l5 N σ n v0 v1 v2 v4 = some r → Gp E RX8 cX8_power (some .long) 5 (0) SH0 σ (some (.long r)) σ 5 [(0, .int v0), (1, .int v1), (2, .long v2), (4, .int v4)] [] := by
  intro n
  induction n with
  | zero => intro v0 v1 v2 v4 r h; cases h
  | succ n ih =>
    intro v0 v1 v2 v4 r h Z C hE
    unfold X8_power_l5 at h
    refine r_iload (pc' := 7) C dX8_power_5 rfl 3 rfl ?_
    refine r_iload_n (pc' := 8) C dX8_power_7 rfl 1 rfl ?_
    refine r_icmp_ge (tgt := 22) (pc' := 11) C dX8_power_8 rfl rfl (fun c1 => ?_) (fun c1 => ?_)
    · rw [if_pos c1] at h
      refine r_lload_n (pc' := 23) C dX8_power_22 rfl 2 rfl ?_
      have h := Option.some.inj h
      subst h
      exact r_lret C dX8_power_23 hE
    · rw [if_neg c1] at h
      refine r_lload_n (pc' := 12) C dX8_power_11 rfl 2 rfl ?_
      refine r_iload_n (pc' := 13) C dX8_power_12 rfl 0 rfl ?_
      refine r_i2l (pc' := 14) C dX8_power_13 rfl rfl ?_
      refine r_lmul (pc' := 15) C dX8_power_14 rfl ?_
      refine r_lstore_n (pc' := 16) (lv2 := [(2, .long (v2 * v0.toInt64)), (0, .int v0), (1, .int v1), (4, .int v4)]) C dX8_power_15 rfl rfl (Nat.le_of_ble_eq_true rfl) rfl ?_
      refine r_iinc (pc' := 19) (v := v4 + 1) (lv2 := [(4, .int (v4 + 1)), (2, .long (v2 * v0.toInt64)), (0, .int v0), (1, .int v1)]) C dX8_power_16 rfl 3 rfl rfl (Nat.le_of_ble_eq_true rfl) rfl ?_
      refine r_goto (tgt := 5) C dX8_power_19 rfl ?_
      refine r_sub [2, 3, 1, 0] rfl ?_
      exact ih _ _ _ _ _ h Z C hE
def X8_power (N : Nat)  (v0 : Int32) (v1 : Int32) (σ : Sg) : Option (Int64) :=
  X8_power_l5 N σ N v0 v1 1 0
set_option maxRecDepth 100000 in
set_option maxHeartbeats 4000000 in
theorem X8_power_ok {E : Ev}  {N : Nat} {v0 : Int32} {v1 : Int32} {σ : Sg} {r : Int64} (h : X8_power N  v0 v1 σ = some r) : Cm E (0) yX8_power cX8_power 5 (some .long) [.int v0, .int v1] SH0 SH0 σ σ (some (.long r)) 0 0 := by
  refine Cm.intro (by decide +kernel) (Nat.le_of_ble_eq_true rfl) (fun _ h => by obtain ⟨_, _, _, _, _, _, h⟩ := h; exact h) (fun Z C hE => ?_)
  show Wm E Z 0 0 SH0 σ 0 [(0, .int v0), (1, .int v1)] []
  unfold X8_power at h
  refine r_lconst (pc' := 1) C dX8_power_0 rfl kl_1 ?_
  refine r_lstore_n (pc' := 2) (lv2 := [(2, .long 1), (0, .int v0), (1, .int v1)]) C dX8_power_1 rfl rfl (Nat.le_of_ble_eq_true rfl) rfl ?_
  refine r_iconst (pc' := 3) C dX8_power_2 rfl kc_0 ?_
  refine r_istore (pc' := 5) (lv2 := [(4, .int 0), (2, .long 1), (0, .int v0), (1, .int v1)]) C dX8_power_3 rfl (Nat.le_of_ble_eq_true rfl) rfl ?_
  refine r_sub [2, 3, 1, 0] rfl ?_
  exact X8_power_l5_ok  N _ _ _ _ _ h Z C hE

/-! BorrowedWeight.commonDivisor(JJ)J -/
def X8_commonDivisor_l9 (N : Nat)   (σ : Sg) : Nat → Int64 → Int64 → Int32 → Option (Int64)
  | 0, _, _, _ => none
  | n + 1, v4, v6, v8 =>
    if 1000 ≤ v8 then (some v4) else (if (lg_cmp v6 0) = 0 then (some v4) else (if v6 = 0 then none else X8_commonDivisor_l9 N σ n v6 (v4 - v4 / v6 * v6) (v8 + 1)))
set_option maxRecDepth 100000 in
set_option maxHeartbeats 4000000 in
theorem X8_commonDivisor_l9_ok {E : Ev}  {N : Nat}  {σ : Sg}  : ∀ (n : Nat) (v4 : Int64) (v6 : Int64) (v8 : Int32) (r : Int64), X8_commonDivisor_l9 N σ n v4 v6 v8 = some r → Gp E RX8 cX8_commonDivisor (some .long) 11 (0) SH0 σ (some (.long r)) σ 9 [(4, .long v4), (6, .long v6), (8, .int v8)] [] := by
  intro n
  induction n with
  | zero => intro v4 v6 v8 r h; cases h
  | succ n ih =>
    intro v4 v6 v8 r h Z C hE
    unfold X8_commonDivisor_l9 at h
    refine r_iload (pc' := 11) C dX8_commonDivisor_9 rfl 2 rfl ?_
    refine r_sipush (pc' := 14) C dX8_commonDivisor_11 rfl ks_1000 ?_
    refine r_icmp_ge (tgt := 45) (pc' := 17) C dX8_commonDivisor_14 rfl rfl (fun c1 => ?_) (fun c1 => ?_)
    · rw [if_pos c1] at h
      refine r_lload (pc' := 47) C dX8_commonDivisor_45 rfl 0 rfl ?_
      have h := Option.some.inj h
      subst h
      exact r_lret C dX8_commonDivisor_47 hE
    · rw [if_neg c1] at h
      refine r_lload (pc' := 19) C dX8_commonDivisor_17 rfl 1 rfl ?_
      refine r_lconst (pc' := 20) C dX8_commonDivisor_19 rfl kl_0 ?_
      refine r_lcmp (pc' := 21) C dX8_commonDivisor_20 rfl ?_
      refine r_if_eq (tgt := 45) (pc' := 24) C dX8_commonDivisor_21 rfl rfl (fun c2 => ?_) (fun c2 => ?_)
      · rw [if_pos c2] at h
        refine r_lload (pc' := 47) C dX8_commonDivisor_45 rfl 0 rfl ?_
        have h := Option.some.inj h
        subst h
        exact r_lret C dX8_commonDivisor_47 hE
      · rw [if_neg c2] at h
        refine r_lload (pc' := 26) C dX8_commonDivisor_24 rfl 0 rfl ?_
        refine r_lload (pc' := 28) C dX8_commonDivisor_26 rfl 1 rfl ?_
        obtain ⟨q3, h⟩ := ckl h
        refine r_lrem (pc' := 29) C dX8_commonDivisor_28 rfl q3 ?_
        refine r_lstore (pc' := 31) (lv2 := [(9, .long (v4 - v4 / v6 * v6)), (4, .long v4), (6, .long v6), (8, .int v8)]) C dX8_commonDivisor_29 rfl (Nat.le_of_ble_eq_true rfl) rfl ?_
        refine r_lload (pc' := 33) C dX8_commonDivisor_31 rfl 2 rfl ?_
        refine r_lstore (pc' := 35) (lv2 := [(4, .long v6), (9, .long (v4 - v4 / v6 * v6)), (6, .long v6), (8, .int v8)]) C dX8_commonDivisor_33 rfl (Nat.le_of_ble_eq_true rfl) rfl ?_
        refine r_lload (pc' := 37) C dX8_commonDivisor_35 rfl 1 rfl ?_
        refine r_lstore (pc' := 39) (lv2 := [(6, .long (v4 - v4 / v6 * v6)), (4, .long v6), (9, .long (v4 - v4 / v6 * v6)), (8, .int v8)]) C dX8_commonDivisor_37 rfl (Nat.le_of_ble_eq_true rfl) rfl ?_
        refine r_iinc (pc' := 42) (v := v8 + 1) (lv2 := [(8, .int (v8 + 1)), (6, .long (v4 - v4 / v6 * v6)), (4, .long v6), (9, .long (v4 - v4 / v6 * v6))]) C dX8_commonDivisor_39 rfl 3 rfl rfl (Nat.le_of_ble_eq_true rfl) rfl ?_
        refine r_goto (tgt := 9) C dX8_commonDivisor_42 rfl ?_
        refine r_sub [2, 1, 0] rfl ?_
        exact ih _ _ _ _ h Z C hE
def X8_commonDivisor (N : Nat)  (v0 : Int64) (v2 : Int64) (σ : Sg) : Option (Int64) :=
  X8_commonDivisor_l9 N σ N v0 v2 0
set_option maxRecDepth 100000 in
set_option maxHeartbeats 4000000 in
theorem X8_commonDivisor_ok {E : Ev}  {N : Nat} {v0 : Int64} {v2 : Int64} {σ : Sg} {r : Int64} (h : X8_commonDivisor N  v0 v2 σ = some r) : Cm E (0) yX8_commonDivisor cX8_commonDivisor 11 (some .long) [.long v0, .long v2] SH0 SH0 σ σ (some (.long r)) 0 0 := by
  refine Cm.intro (by decide +kernel) (Nat.le_of_ble_eq_true rfl) (fun _ h => by obtain ⟨_, _, _, _, _, _, h⟩ := h; exact h) (fun Z C hE => ?_)
  show Wm E Z 0 0 SH0 σ 0 [(0, .long v0), (2, .long v2)] []
  unfold X8_commonDivisor at h
  refine r_lload_n (pc' := 1) C dX8_commonDivisor_0 rfl 0 rfl ?_
  refine r_lstore (pc' := 3) (lv2 := [(4, .long v0), (0, .long v0), (2, .long v2)]) C dX8_commonDivisor_1 rfl (Nat.le_of_ble_eq_true rfl) rfl ?_
  refine r_lload_n (pc' := 4) C dX8_commonDivisor_3 rfl 2 rfl ?_
  refine r_lstore (pc' := 6) (lv2 := [(6, .long v2), (4, .long v0), (0, .long v0), (2, .long v2)]) C dX8_commonDivisor_4 rfl (Nat.le_of_ble_eq_true rfl) rfl ?_
  refine r_iconst (pc' := 7) C dX8_commonDivisor_6 rfl kc_0 ?_
  refine r_istore (pc' := 9) (lv2 := [(8, .int 0), (6, .long v2), (4, .long v0), (0, .long v0), (2, .long v2)]) C dX8_commonDivisor_7 rfl (Nat.le_of_ble_eq_true rfl) rfl ?_
  refine r_sub [2, 1, 0] rfl ?_
  exact X8_commonDivisor_l9_ok  N _ _ _ _ h Z C hE

/-! BorrowedWeight.storm(II)I -/
def X8_storm_l79 (N : Nat)  (k123 : Int32 → Int64 → Sg → Option (Int32 × Sg))  : Nat → Int32 → Int32 → Int64 → Int32 → Sg → Option (Int32 × Sg)
  | 0, _, _, _, _, _ => none
  | n + 1, v2, v3, v4, v6, σ =>
    if v3 < v6 then (k123 v3 v4 σ) else (if inb v6 13 = true then (X8_power N v2 v6 σ).bind fun r19 => ((X8_power N (10 - v2) (v3 - v6) σ).bind fun r21 => (X8_storm_l79 N k123 n v2 v3 (v4 + ((((gi σ 145 v6.toNatClampNeg).toInt64) * r19) * r21)) (v6 + 1) σ)) else none)
set_option maxRecDepth 100000 in
set_option maxHeartbeats 4000000 in
theorem X8_storm_l79_ok {E : Ev}  {N : Nat} {k123 : Int32 → Int64 → Sg → Option (Int32 × Sg)}  (hk123 : ∀ (v3 : Int32) (v4 : Int64) (σ : Sg) (r : Int32 × Sg), k123 v3 v4 σ = some r → Gp E RX8 cX8_storm (some .int) 10 (3) SH0 r.2 (some (.int r.1)) σ 123 [(0, .ref 0), (3, .int v3), (4, .long v4)] []) : ∀ (n : Nat) (v2 : Int32) (v3 : Int32) (v4 : Int64) (v6 : Int32) (σ : Sg) (r : Int32 × Sg), X8_storm_l79 N k123 n v2 v3 v4 v6 σ = some r → Gp E RX8 cX8_storm (some .int) 10 (3) SH0 r.2 (some (.int r.1)) σ 79 [(0, .ref 0), (2, .int v2), (3, .int v3), (4, .long v4), (6, .int v6)] [] := by
  intro n
  induction n with
  | zero => intro v2 v3 v4 v6 σ r h; cases h
  | succ n ih =>
    intro v2 v3 v4 v6 σ r h Z C hE
    unfold X8_storm_l79 at h
    refine r_iload (pc' := 81) C dX8_storm_79 rfl 4 rfl ?_
    refine r_iload_n (pc' := 82) C dX8_storm_81 rfl 2 rfl ?_
    refine r_icmp_gt (tgt := 123) (pc' := 85) C dX8_storm_82 rfl rfl (fun c17 => ?_) (fun c17 => ?_)
    · rw [if_pos c17] at h
      refine r_sub [0, 2, 3] rfl ?_
      exact hk123 _ _ _ _ h Z C hE
    · rw [if_neg c17] at h
      refine r_lload (pc' := 87) C dX8_storm_85 rfl 3 rfl ?_
      refine r_aload_n (pc' := 88) C dX8_storm_87 rfl 0 rfl ?_
      refine r_getR (pc' := 91) C flX8_71 sh_0 rfl dX8_storm_88 rfl ?_
      refine r_iload (pc' := 93) C dX8_storm_91 rfl 4 rfl ?_
      obtain ⟨q18, h⟩ := ck h
      refine r_iald (pc' := 94) C sh_145 (vin q18) dX8_storm_93 rfl ?_
      refine r_i2l (pc' := 95) C dX8_storm_94 rfl rfl ?_
      refine r_iload_n (pc' := 96) C dX8_storm_95 rfl 1 rfl ?_
      refine r_iload (pc' := 98) C dX8_storm_96 rfl 4 rfl ?_
      obtain ⟨r19, e20, h⟩ := bd h
      refine r_cS1 (pc' := 101) C (X8_power_ok  e20) mlX8_366 ceX8_power csX8_power rfl (Nat.le_of_ble_eq_true rfl) rfl (Nat.le_of_ble_eq_true rfl) dX8_storm_98 rfl (kk := ?_)
      refine r_lmul (pc' := 102) C dX8_storm_101 rfl ?_
      refine r_bipush (pc' := 104) C dX8_storm_102 rfl kb_10 ?_
      refine r_iload_n (pc' := 105) C dX8_storm_104 rfl 1 rfl ?_
      refine r_isub (pc' := 106) C dX8_storm_105 rfl ?_
      refine r_iload_n (pc' := 107) C dX8_storm_106 rfl 2 rfl ?_
      refine r_iload (pc' := 109) C dX8_storm_107 rfl 4 rfl ?_
      refine r_isub (pc' := 110) C dX8_storm_109 rfl ?_
      obtain ⟨r21, e22, h⟩ := bd h
      refine r_cS1 (pc' := 113) C (X8_power_ok  e22) mlX8_366 ceX8_power csX8_power rfl (Nat.le_of_ble_eq_true rfl) rfl (Nat.le_of_ble_eq_true rfl) dX8_storm_110 rfl (kk := ?_)
      refine r_lmul (pc' := 114) C dX8_storm_113 rfl ?_
      refine r_ladd (pc' := 115) C dX8_storm_114 rfl ?_
      refine r_lstore (pc' := 117) (lv2 := [(4, .long (v4 + ((((gi σ 145 v6.toNatClampNeg).toInt64) * r19) * r21))), (0, .ref 0), (2, .int v2), (3, .int v3), (6, .int v6)]) C dX8_storm_115 rfl (Nat.le_of_ble_eq_true rfl) rfl ?_
      refine r_iinc (pc' := 120) (v := v6 + 1) (lv2 := [(6, .int (v6 + 1)), (4, .long (v4 + ((((gi σ 145 v6.toNatClampNeg).toInt64) * r19) * r21))), (0, .ref 0), (2, .int v2), (3, .int v3)]) C dX8_storm_117 rfl 4 rfl rfl (Nat.le_of_ble_eq_true rfl) rfl ?_
      refine r_goto (tgt := 79) C dX8_storm_120 rfl ?_
      refine r_sub [2, 3, 4, 1, 0] rfl ?_
      exact ih _ _ _ _ _ _ h Z C hE
def X8_storm_j150 (N : Nat)   (v4 : Int64) (v6 : Int64) (v8 : Int64) (σ : Sg) : Option (Int32 × Sg) :=
  if v8 = 0 then none else if v8 = 0 then none else (X2_tell_ N (v4 / v8) (v6 / v8) σ).bind fun r30 => (some (0, r30))
set_option maxRecDepth 100000 in
set_option maxHeartbeats 4000000 in
theorem X8_storm_j150_ok {E : Ev}  {N : Nat}    {v4 : Int64} {v6 : Int64} {v8 : Int64} {σ : Sg} {r : Int32 × Sg} (h : X8_storm_j150 N   v4 v6 v8 σ = some r) : Gp E RX8 cX8_storm (some .int) 10 (3) SH0 r.2 (some (.int r.1)) σ 150 [(0, .ref 0), (4, .long v4), (6, .long v6), (8, .long v8)] [] := by
  intro Z C hE
  unfold X8_storm_j150 at h
  refine r_aload_n (pc' := 151) C dX8_storm_150 rfl 0 rfl ?_
  refine r_getR (pc' := 154) C flX8_19 sh_0 rfl dX8_storm_151 rfl ?_
  refine r_lload (pc' := 156) C dX8_storm_154 rfl 1 rfl ?_
  refine r_lload (pc' := 158) C dX8_storm_156 rfl 3 rfl ?_
  obtain ⟨q28, h⟩ := ckl h
  refine r_ldiv (pc' := 159) C dX8_storm_158 rfl q28 ?_
  refine r_lload (pc' := 161) C dX8_storm_159 rfl 2 rfl ?_
  refine r_lload (pc' := 163) C dX8_storm_161 rfl 3 rfl ?_
  obtain ⟨q29, h⟩ := ckl h
  refine r_ldiv (pc' := 164) C dX8_storm_163 rfl q29 ?_
  obtain ⟨r30, e31, h⟩ := bd h
  refine r_cV0 (pc' := 167) C (X2_tell__ok  e31) mlX8_198 ceX2_tell_ cvX2_tell_ sh_3 rfl rfl rfl (Nat.le_of_ble_eq_true rfl) rfl (Nat.le_of_ble_eq_true rfl) dX8_storm_164 rfl (kk := ?_)
  refine r_iconst (pc' := 168) C dX8_storm_167 rfl kc_0 ?_
  have h := Option.some.inj h
  subst h
  exact r_ret C rfl dX8_storm_168 hE
def X8_storm_j123 (N : Nat)   (v3 : Int32) (v4 : Int64) (σ : Sg) : Option (Int32 × Sg) :=
  (X8_power N 10 v3 σ).bind fun r23 => ((X8_commonDivisor N v4 r23 σ).bind fun r25 => (if 0 ≤ (lg_cmp r25 1) then (X8_storm_j150 N v4 r23 r25 σ) else (X8_storm_j150 N v4 r23 1 σ)))
set_option maxRecDepth 100000 in
set_option maxHeartbeats 4000000 in
theorem X8_storm_j123_ok {E : Ev}  {N : Nat}    {v3 : Int32} {v4 : Int64} {σ : Sg} {r : Int32 × Sg} (h : X8_storm_j123 N   v3 v4 σ = some r) : Gp E RX8 cX8_storm (some .int) 10 (3) SH0 r.2 (some (.int r.1)) σ 123 [(0, .ref 0), (3, .int v3), (4, .long v4)] [] := by
  intro Z C hE
  unfold X8_storm_j123 at h
  refine r_bipush (pc' := 125) C dX8_storm_123 rfl kb_10 ?_
  refine r_iload_n (pc' := 126) C dX8_storm_125 rfl 1 rfl ?_
  obtain ⟨r23, e24, h⟩ := bd h
  refine r_cS1 (pc' := 129) C (X8_power_ok  e24) mlX8_366 ceX8_power csX8_power rfl (Nat.le_of_ble_eq_true rfl) rfl (Nat.le_of_ble_eq_true rfl) dX8_storm_126 rfl (kk := ?_)
  refine r_lstore (pc' := 131) (lv2 := [(6, .long r23), (0, .ref 0), (3, .int v3), (4, .long v4)]) C dX8_storm_129 rfl (Nat.le_of_ble_eq_true rfl) rfl ?_
  refine r_lload (pc' := 133) C dX8_storm_131 rfl 3 rfl ?_
  refine r_lload (pc' := 135) C dX8_storm_133 rfl 0 rfl ?_
  obtain ⟨r25, e26, h⟩ := bd h
  refine r_cS1 (pc' := 138) C (X8_commonDivisor_ok  e26) mlX8_370 ceX8_commonDivisor csX8_commonDivisor rfl (Nat.le_of_ble_eq_true rfl) rfl (Nat.le_of_ble_eq_true rfl) dX8_storm_135 rfl (kk := ?_)
  refine r_lstore (pc' := 140) (lv2 := [(8, .long r25), (6, .long r23), (0, .ref 0), (3, .int v3), (4, .long v4)]) C dX8_storm_138 rfl (Nat.le_of_ble_eq_true rfl) rfl ?_
  refine r_lload (pc' := 142) C dX8_storm_140 rfl 0 rfl ?_
  refine r_lconst (pc' := 143) C dX8_storm_142 rfl kl_1 ?_
  refine r_lcmp (pc' := 144) C dX8_storm_143 rfl ?_
  refine r_if_ge (tgt := 150) (pc' := 147) C dX8_storm_144 rfl rfl (fun c27 => ?_) (fun c27 => ?_)
  · rw [if_pos c27] at h
    refine r_sub [2, 4, 1, 0] rfl ?_
    exact X8_storm_j150_ok  h Z C hE
  · rw [if_neg c27] at h
    refine r_lconst (pc' := 148) C dX8_storm_147 rfl kl_1 ?_
    refine r_lstore (pc' := 150) (lv2 := [(8, .long 1), (6, .long r23), (0, .ref 0), (3, .int v3), (4, .long v4)]) C dX8_storm_148 rfl (Nat.le_of_ble_eq_true rfl) rfl ?_
    refine r_sub [2, 4, 1, 0] rfl ?_
    exact X8_storm_j150_ok  h Z C hE
def X8_storm (N : Nat)  (v1 : Int32) (v2 : Int32) (σ : Sg) : Option (Int32 × Sg) :=
  (X0_isThing N v1 σ).bind fun r1 => (if r1 = 0 then (some ((-1), σ)) else (if v2 < 0 then (some ((-1), σ)) else (if v2 ≤ 10 then ((X5_isGone N 19 v1 σ).bind fun r6 => (if r6 = 0 then ((X5_stringCount N 19 σ).bind fun r9 => (if r9 ≤ 12 then (if isRule ((gi σ 5 2).toNatClampNeg) = true then (X0_weigh N 19 ((gi σ 5 2).toNatClampNeg) σ).bind fun r13 => ((X8_tallyStorm N v1 r13).bind fun r15 => (X8_storm_l79 N (fun v3 v4 σ => X8_storm_j123 N v3 v4 σ) N v2 r15.1 0 0 r15.2)) else none) else (some ((-2), σ)))) else (some ((-2), σ)))) else (some ((-1), σ)))))
set_option maxRecDepth 100000 in
set_option maxHeartbeats 4000000 in
theorem X8_storm_ok {E : Ev}  {N : Nat} {v1 : Int32} {v2 : Int32} {σ : Sg} {r : Int32 × Sg} (h : X8_storm N  v1 v2 σ = some r) : Cm E (3) yX8_storm cX8_storm 10 (some .int) [.ref 0, .int v1, .int v2] SH0 SH0 σ r.2 (some (.int r.1)) 0 0 := by
  refine Cm.intro (by decide +kernel) (Nat.le_of_ble_eq_true rfl) (fun _ h => by obtain ⟨_, _, _, _, _, _, h⟩ := h; exact h) (fun Z C hE => ?_)
  show Wm E Z 0 0 SH0 σ 0 [(0, .ref 0), (1, .int v1), (2, .int v2)] []
  unfold X8_storm at h
  refine r_aload_n (pc' := 1) C dX8_storm_0 rfl 0 rfl ?_
  refine r_getR (pc' := 4) C flX8_26 sh_0 rfl dX8_storm_1 rfl ?_
  refine r_iload_n (pc' := 5) C dX8_storm_4 rfl 1 rfl ?_
  obtain ⟨r1, e2, h⟩ := bd h
  refine r_cV1 (pc' := 8) C (X0_isThing_ok  e2) mlX8_138 ceX0_isThing cvX0_isThing sh_5 rfl rfl rfl (Nat.le_of_ble_eq_true rfl) rfl (Nat.le_of_ble_eq_true rfl) dX8_storm_5 rfl (kk := ?_)
  refine r_if_eq (tgt := 21) (pc' := 11) C dX8_storm_8 rfl rfl (fun c3 => ?_) (fun c3 => ?_)
  · rw [if_pos c3] at h
    refine r_iconst (pc' := 22) C dX8_storm_21 rfl kc_m1 ?_
    have h := Option.some.inj h
    subst h
    exact r_ret C rfl dX8_storm_22 hE
  · rw [if_neg c3] at h
    refine r_iload_n (pc' := 12) C dX8_storm_11 rfl 2 rfl ?_
    refine r_if_lt (tgt := 21) (pc' := 15) C dX8_storm_12 rfl rfl (fun c4 => ?_) (fun c4 => ?_)
    · rw [if_pos c4] at h
      refine r_iconst (pc' := 22) C dX8_storm_21 rfl kc_m1 ?_
      have h := Option.some.inj h
      subst h
      exact r_ret C rfl dX8_storm_22 hE
    · rw [if_neg c4] at h
      refine r_iload_n (pc' := 16) C dX8_storm_15 rfl 2 rfl ?_
      refine r_bipush (pc' := 18) C dX8_storm_16 rfl kb_10 ?_
      refine r_icmp_le (tgt := 23) (pc' := 21) C dX8_storm_18 rfl rfl (fun c5 => ?_) (fun c5 => ?_)
      · rw [if_pos c5] at h
        refine r_aload_n (pc' := 24) C dX8_storm_23 rfl 0 rfl ?_
        refine r_getR (pc' := 27) C flX8_33 sh_0 rfl dX8_storm_24 rfl ?_
        refine r_iload_n (pc' := 28) C dX8_storm_27 rfl 1 rfl ?_
        obtain ⟨r6, e7, h⟩ := bd h
        refine r_cV1 (pc' := 31) C (X5_isGone_ok stc_19 e7) mlX8_160 ceX5_isGone cvX5_isGone sh_19 rfl rfl rfl (Nat.le_of_ble_eq_true rfl) rfl (Nat.le_of_ble_eq_true rfl) dX8_storm_28 rfl (kk := ?_)
        refine r_if_ne (tgt := 46) (pc' := 34) C dX8_storm_31 rfl rfl (fun c8 => ?_) (fun c8 => ?_)
        · rw [if_neg c8] at h
          refine r_bipush (pc' := 48) C dX8_storm_46 rfl kb_m2 ?_
          have h := Option.some.inj h
          subst h
          exact r_ret C rfl dX8_storm_48 hE
        · rw [if_pos c8] at h
          refine r_aload_n (pc' := 35) C dX8_storm_34 rfl 0 rfl ?_
          refine r_getR (pc' := 38) C flX8_33 sh_0 rfl dX8_storm_35 rfl ?_
          obtain ⟨r9, e10, h⟩ := bd h
          refine r_cV1 (pc' := 41) C (X5_stringCount_ok stc_19 e10) mlX8_289 ceX5_stringCount cvX5_stringCount sh_19 rfl rfl rfl (Nat.le_of_ble_eq_true rfl) rfl (Nat.le_of_ble_eq_true rfl) dX8_storm_38 rfl (kk := ?_)
          refine r_bipush (pc' := 43) C dX8_storm_41 rfl kb_12 ?_
          refine r_icmp_le (tgt := 49) (pc' := 46) C dX8_storm_43 rfl rfl (fun c11 => ?_) (fun c11 => ?_)
          · rw [if_pos c11] at h
            refine r_aload_n (pc' := 50) C dX8_storm_49 rfl 0 rfl ?_
            refine r_getR (pc' := 53) C flX8_26 sh_0 rfl dX8_storm_50 rfl ?_
            refine r_aload_n (pc' := 54) C dX8_storm_53 rfl 0 rfl ?_
            refine r_getR (pc' := 57) C flX8_33 sh_0 rfl dX8_storm_54 rfl ?_
            refine r_aload_n (pc' := 58) C dX8_storm_57 rfl 0 rfl ?_
            refine r_getR (pc' := 61) C flX8_26 sh_0 rfl dX8_storm_58 rfl ?_
            refine r_getD (pc' := 64) C flX8_163 sh_5 rfl dX8_storm_61 rfl ?_
            obtain ⟨q12, h⟩ := ck h
            obtain ⟨r13, e14, h⟩ := bd h
            refine r_cV0 (pc' := 67) C (X0_weigh_ok stc_19 (ruof q12) e14) mlX8_167 ceX0_weigh cvX0_weigh sh_5 rfl rfl rfl (Nat.le_of_ble_eq_true rfl) rfl (Nat.le_of_ble_eq_true rfl) dX8_storm_64 rfl (kk := ?_)
            refine r_aload_n (pc' := 68) C dX8_storm_67 rfl 0 rfl ?_
            refine r_iload_n (pc' := 69) C dX8_storm_68 rfl 1 rfl ?_
            obtain ⟨r15, e16, h⟩ := bd h
            refine r_cV1 (pc' := 72) C (X8_tallyStorm_ok  e16) mlX8_363 ceX8_tallyStorm cvX8_tallyStorm sh_0 rfl rfl rfl (Nat.le_of_ble_eq_true rfl) rfl (Nat.le_of_ble_eq_true rfl) dX8_storm_69 rfl (kk := ?_)
            refine r_istore_n (pc' := 73) (lv2 := [(3, .int r15.1), (0, .ref 0), (1, .int v1), (2, .int v2)]) C dX8_storm_72 rfl rfl (Nat.le_of_ble_eq_true rfl) rfl ?_
            refine r_lconst (pc' := 74) C dX8_storm_73 rfl kl_0 ?_
            refine r_lstore (pc' := 76) (lv2 := [(4, .long 0), (3, .int r15.1), (0, .ref 0), (1, .int v1), (2, .int v2)]) C dX8_storm_74 rfl (Nat.le_of_ble_eq_true rfl) rfl ?_
            refine r_iconst (pc' := 77) C dX8_storm_76 rfl kc_0 ?_
            refine r_istore (pc' := 79) (lv2 := [(6, .int 0), (4, .long 0), (3, .int r15.1), (0, .ref 0), (1, .int v1), (2, .int v2)]) C dX8_storm_77 rfl (Nat.le_of_ble_eq_true rfl) rfl ?_
            refine r_sub [3, 5, 2, 1, 0] rfl ?_
            exact X8_storm_l79_ok  (fun _ _ _ _ h Z C hE => by exact X8_storm_j123_ok  h Z C hE) N _ _ _ _ _ _ h Z C hE
          · rw [if_neg c11] at h
            refine r_bipush (pc' := 48) C dX8_storm_46 rfl kb_m2 ?_
            have h := Option.some.inj h
            subst h
            exact r_ret C rfl dX8_storm_48 hE
      · rw [if_neg c5] at h
        refine r_iconst (pc' := 22) C dX8_storm_21 rfl kc_m1 ?_
        have h := Option.some.inj h
        subst h
        exact r_ret C rfl dX8_storm_22 hE

/-! BorrowedWeight.winningMove(II)I -/
def X8_winningMove_l2 (N : Nat)   (σ : Sg) : Nat → Int32 → Int32 → Int32 → Option (Int32)
  | 0, _, _, _ => none
  | n + 1, v1, v2, v3 =>
    if 5 ≤ v3 then (some (-1)) else (if inb v3 5 = true then if inb v3 5 = true then if (v1 - (oC2.getD v3.toNatClampNeg 0)) < 0 then (X8_winningMove_l2 N σ n v1 v2 (v3 + 1)) else (if (v2 - (oC3.getD v3.toNatClampNeg 0)) < 0 then (X8_winningMove_l2 N σ n v1 v2 (v3 + 1)) else (if inb (((v1 - (oC2.getD v3.toNatClampNeg 0)) * 21) + (v2 - (oC3.getD v3.toNatClampNeg 0))) 441 = true then if (gi σ 148 (((v1 - (oC2.getD v3.toNatClampNeg 0)) * 21) + (v2 - (oC3.getD v3.toNatClampNeg 0))).toNatClampNeg) = 0 then (X8_winningMove_l2 N σ n v1 v2 (v3 + 1)) else (some v3) else none)) else none else none)
set_option maxRecDepth 100000 in
set_option maxHeartbeats 4000000 in
theorem X8_winningMove_l2_ok {E : Ev}  {N : Nat}  {σ : Sg}  : ∀ (n : Nat) (v1 : Int32) (v2 : Int32) (v3 : Int32) (r : Int32), X8_winningMove_l2 N σ n v1 v2 v3 = some r → Gp E RX8 cX8_winningMove (some .int) 6 (0) SH0 σ (some (.int r)) σ 2 [(0, .ref 0), (1, .int v1), (2, .int v2), (3, .int v3)] [] := by
  intro n
  induction n with
  | zero => intro v1 v2 v3 r h; cases h
  | succ n ih =>
    intro v1 v2 v3 r h Z C hE
    unfold X8_winningMove_l2 at h
    refine r_iload_n (pc' := 3) C dX8_winningMove_2 rfl 3 rfl ?_
    refine r_gets (pc' := 6) C rfl gsX8_377 dX8_winningMove_3 rfl ?_
    refine r_oldL (pc' := 7) (a := (.int, oC2)) (v := 5) C rfl rfl dX8_winningMove_6 rfl ?_
    refine r_icmp_ge (tgt := 62) (pc' := 10) C dX8_winningMove_7 rfl rfl (fun c1 => ?_) (fun c1 => ?_)
    · rw [if_pos c1] at h
      refine r_iconst (pc' := 63) C dX8_winningMove_62 rfl kc_m1 ?_
      have h := Option.some.inj h
      subst h
      exact r_ret C rfl dX8_winningMove_63 hE
    · rw [if_neg c1] at h
      refine r_iload_n (pc' := 11) C dX8_winningMove_10 rfl 1 rfl ?_
      refine r_gets (pc' := 14) C rfl gsX8_377 dX8_winningMove_11 rfl ?_
      refine r_iload_n (pc' := 15) C dX8_winningMove_14 rfl 3 rfl ?_
      obtain ⟨q2, h⟩ := ck h
      refine r_oldI (pc' := 16) (l := oC2) C rfl (vin q2) rfl dX8_winningMove_15 rfl ?_
      refine r_isub (pc' := 17) C dX8_winningMove_16 rfl ?_
      refine r_istore (pc' := 19) (lv2 := [(4, .int (v1 - (oC2.getD v3.toNatClampNeg 0))), (0, .ref 0), (1, .int v1), (2, .int v2), (3, .int v3)]) C dX8_winningMove_17 rfl (Nat.le_of_ble_eq_true rfl) rfl ?_
      refine r_iload_n (pc' := 20) C dX8_winningMove_19 rfl 3 rfl ?_
      refine r_gets (pc' := 23) C rfl gsX8_380 dX8_winningMove_20 rfl ?_
      refine r_iload_n (pc' := 24) C dX8_winningMove_23 rfl 4 rfl ?_
      obtain ⟨q3, h⟩ := ck h
      refine r_oldI (pc' := 25) (l := oC3) C rfl (vin q3) rfl dX8_winningMove_24 rfl ?_
      refine r_isub (pc' := 26) C dX8_winningMove_25 rfl ?_
      refine r_istore (pc' := 28) (lv2 := [(5, .int (v2 - (oC3.getD v3.toNatClampNeg 0))), (4, .int (v1 - (oC2.getD v3.toNatClampNeg 0))), (0, .ref 0), (1, .int v1), (2, .int v2), (3, .int v3)]) C dX8_winningMove_26 rfl (Nat.le_of_ble_eq_true rfl) rfl ?_
      refine r_iload (pc' := 30) C dX8_winningMove_28 rfl 1 rfl ?_
      refine r_if_lt (tgt := 56) (pc' := 33) C dX8_winningMove_30 rfl rfl (fun c4 => ?_) (fun c4 => ?_)
      · rw [if_pos c4] at h
        refine r_iinc (pc' := 59) (v := v3 + 1) (lv2 := [(3, .int (v3 + 1)), (5, .int (v2 - (oC3.getD v3.toNatClampNeg 0))), (4, .int (v1 - (oC2.getD v3.toNatClampNeg 0))), (0, .ref 0), (1, .int v1), (2, .int v2)]) C dX8_winningMove_56 rfl 5 rfl rfl (Nat.le_of_ble_eq_true rfl) rfl ?_
        refine r_goto (tgt := 2) C dX8_winningMove_59 rfl ?_
        refine r_sub [3, 4, 5, 0] rfl ?_
        exact ih _ _ _ _ h Z C hE
      · rw [if_neg c4] at h
        refine r_iload (pc' := 35) C dX8_winningMove_33 rfl 0 rfl ?_
        refine r_if_lt (tgt := 56) (pc' := 38) C dX8_winningMove_35 rfl rfl (fun c5 => ?_) (fun c5 => ?_)
        · rw [if_pos c5] at h
          refine r_iinc (pc' := 59) (v := v3 + 1) (lv2 := [(3, .int (v3 + 1)), (5, .int (v2 - (oC3.getD v3.toNatClampNeg 0))), (4, .int (v1 - (oC2.getD v3.toNatClampNeg 0))), (0, .ref 0), (1, .int v1), (2, .int v2)]) C dX8_winningMove_56 rfl 5 rfl rfl (Nat.le_of_ble_eq_true rfl) rfl ?_
          refine r_goto (tgt := 2) C dX8_winningMove_59 rfl ?_
          refine r_sub [3, 4, 5, 0] rfl ?_
          exact ih _ _ _ _ h Z C hE
        · rw [if_neg c5] at h
          refine r_aload_n (pc' := 39) C dX8_winningMove_38 rfl 2 rfl ?_
          refine r_getR (pc' := 42) C flX8_80 sh_0 rfl dX8_winningMove_39 rfl ?_
          refine r_iload (pc' := 44) C dX8_winningMove_42 rfl 1 rfl ?_
          refine r_bipush (pc' := 46) C dX8_winningMove_44 rfl kb_21 ?_
          refine r_imul (pc' := 47) C dX8_winningMove_46 rfl ?_
          refine r_iload (pc' := 49) C dX8_winningMove_47 rfl 0 rfl ?_
          refine r_iadd (pc' := 50) C dX8_winningMove_49 rfl ?_
          obtain ⟨q6, h⟩ := ck h
          refine r_zald (pc' := 51) C sh_148 (vin q6) dX8_winningMove_50 rfl ?_
          refine r_if_eq (tgt := 56) (pc' := 54) C dX8_winningMove_51 rfl rfl (fun c7 => ?_) (fun c7 => ?_)
          · rw [if_pos c7] at h
            refine r_iinc (pc' := 59) (v := v3 + 1) (lv2 := [(3, .int (v3 + 1)), (5, .int (v2 - (oC3.getD v3.toNatClampNeg 0))), (4, .int (v1 - (oC2.getD v3.toNatClampNeg 0))), (0, .ref 0), (1, .int v1), (2, .int v2)]) C dX8_winningMove_56 rfl 5 rfl rfl (Nat.le_of_ble_eq_true rfl) rfl ?_
            refine r_goto (tgt := 2) C dX8_winningMove_59 rfl ?_
            refine r_sub [3, 4, 5, 0] rfl ?_
            exact ih _ _ _ _ h Z C hE
          · rw [if_neg c7] at h
            refine r_iload_n (pc' := 55) C dX8_winningMove_54 rfl 5 rfl ?_
            have h := Option.some.inj h
            subst h
            exact r_ret C rfl dX8_winningMove_55 hE
def X8_winningMove (N : Nat)  (v1 : Int32) (v2 : Int32) (σ : Sg) : Option (Int32) :=
  X8_winningMove_l2 N σ N v1 v2 0
set_option maxRecDepth 100000 in
set_option maxHeartbeats 4000000 in
theorem X8_winningMove_ok {E : Ev}  {N : Nat} {v1 : Int32} {v2 : Int32} {σ : Sg} {r : Int32} (h : X8_winningMove N  v1 v2 σ = some r) : Cm E (0) yX8_winningMove cX8_winningMove 6 (some .int) [.ref 0, .int v1, .int v2] SH0 SH0 σ σ (some (.int r)) 0 0 := by
  refine Cm.intro (by decide +kernel) (Nat.le_of_ble_eq_true rfl) (fun _ h => by obtain ⟨_, _, _, _, _, _, h⟩ := h; exact h) (fun Z C hE => ?_)
  show Wm E Z 0 0 SH0 σ 0 [(0, .ref 0), (1, .int v1), (2, .int v2)] []
  unfold X8_winningMove at h
  refine r_iconst (pc' := 1) C dX8_winningMove_0 rfl kc_0 ?_
  refine r_istore_n (pc' := 2) (lv2 := [(3, .int 0), (0, .ref 0), (1, .int v1), (2, .int v2)]) C dX8_winningMove_1 rfl rfl (Nat.le_of_ble_eq_true rfl) rfl ?_
  refine r_sub [1, 2, 3, 0] rfl ?_
  exact X8_winningMove_l2_ok  N _ _ _ _ h Z C hE

/-! BorrowedWeight.run(II)I -/
def X8_run_l36 (N : Nat)  (k79 : Int32 → Int32 → Int32 → Int32 → Sg → Option (Int32 × Sg))  : Nat → Int32 → Int32 → Int32 → Int32 → Int32 → Sg → Option (Int32 × Sg)
  | 0, _, _, _, _, _, _ => none
  | n + 1, v1, v2, v3, v4, v5, σ =>
    if v2 < v5 then (k79 v1 v2 v3 v4 σ) else ((X8_winningMove N v4 v5 σ).bind fun r7 => (if 0 ≤ r7 then (if inb ((v4 * 21) + v5) 441 = true then bnS (wi σ 148 ((v4 * 21) + v5).toNatClampNeg (vp_nar .boolean 0)) fun σ11 => X8_run_l36 N k79 n v1 v2 r7 v4 (v5 + 1) σ11 else none) else (if inb ((v4 * 21) + v5) 441 = true then bnS (wi σ 148 ((v4 * 21) + v5).toNatClampNeg (vp_nar .boolean 1)) fun σ14 => X8_run_l36 N k79 n v1 v2 r7 v4 (v5 + 1) σ14 else none)))
set_option maxRecDepth 100000 in
set_option maxHeartbeats 4000000 in
theorem X8_run_l36_ok {E : Ev}  {N : Nat} {k79 : Int32 → Int32 → Int32 → Int32 → Sg → Option (Int32 × Sg)}  (hk79 : ∀ (v1 : Int32) (v2 : Int32) (v3 : Int32) (v4 : Int32) (σ : Sg) (r : Int32 × Sg), k79 v1 v2 v3 v4 σ = some r → Gp E RX8 cX8_run (some .int) 6 (2) SH0 r.2 (some (.int r.1)) σ 79 [(0, .ref 0), (1, .int v1), (2, .int v2), (3, .int v3), (4, .int v4)] []) : ∀ (n : Nat) (v1 : Int32) (v2 : Int32) (v3 : Int32) (v4 : Int32) (v5 : Int32) (σ : Sg) (r : Int32 × Sg), X8_run_l36 N k79 n v1 v2 v3 v4 v5 σ = some r → Gp E RX8 cX8_run (some .int) 6 (2) SH0 r.2 (some (.int r.1)) σ 36 [(0, .ref 0), (1, .int v1), (2, .int v2), (3, .int v3), (4, .int v4), (5, .int v5)] [] := by
  intro n
  induction n with
  | zero => intro v1 v2 v3 v4 v5 σ r h; cases h
  | succ n ih =>
    intro v1 v2 v3 v4 v5 σ r h Z C hE
    unfold X8_run_l36 at h
    refine r_iload (pc' := 38) C dX8_run_36 rfl 5 rfl ?_
    refine r_iload_n (pc' := 39) C dX8_run_38 rfl 2 rfl ?_
    refine r_icmp_gt (tgt := 79) (pc' := 42) C dX8_run_39 rfl rfl (fun c6 => ?_) (fun c6 => ?_)
    · rw [if_pos c6] at h
      refine r_sub [0, 1, 2, 3, 4] rfl ?_
      exact hk79 _ _ _ _ _ _ h Z C hE
    · rw [if_neg c6] at h
      refine r_aload_n (pc' := 43) C dX8_run_42 rfl 0 rfl ?_
      refine r_iload (pc' := 45) C dX8_run_43 rfl 4 rfl ?_
      refine r_iload (pc' := 47) C dX8_run_45 rfl 5 rfl ?_
      obtain ⟨r7, e8, h⟩ := bd h
      refine r_cV1 (pc' := 50) C (X8_winningMove_ok  e8) mlX8_374 ceX8_winningMove cvX8_winningMove sh_0 rfl rfl rfl (Nat.le_of_ble_eq_true rfl) rfl (Nat.le_of_ble_eq_true rfl) dX8_run_47 rfl (kk := ?_)
      refine r_istore_n (pc' := 51) (lv2 := [(3, .int r7), (0, .ref 0), (1, .int v1), (2, .int v2), (4, .int v4), (5, .int v5)]) C dX8_run_50 rfl rfl (Nat.le_of_ble_eq_true rfl) rfl ?_
      refine r_aload_n (pc' := 52) C dX8_run_51 rfl 1 rfl ?_
      refine r_getR (pc' := 55) C flX8_80 sh_0 rfl dX8_run_52 rfl ?_
      refine r_iload (pc' := 57) C dX8_run_55 rfl 4 rfl ?_
      refine r_bipush (pc' := 59) C dX8_run_57 rfl kb_21 ?_
      refine r_imul (pc' := 60) C dX8_run_59 rfl ?_
      refine r_iload (pc' := 62) C dX8_run_60 rfl 5 rfl ?_
      refine r_iadd (pc' := 63) C dX8_run_62 rfl ?_
      refine r_iload_n (pc' := 64) C dX8_run_63 rfl 0 rfl ?_
      refine r_if_ge (tgt := 71) (pc' := 67) C dX8_run_64 rfl rfl (fun c9 => ?_) (fun c9 => ?_)
      · rw [if_pos c9] at h
        refine r_iconst (pc' := 72) C dX8_run_71 rfl kc_0 ?_
        obtain ⟨q10, h⟩ := ck h
        obtain ⟨σ11, e12, h⟩ := bs h
        refine r_zast (pc' := 73) (σ1 := σ11) C sh_148 (vin q10) dX8_run_72 rfl e12 ?_
        refine r_iinc (pc' := 76) (v := v5 + 1) (lv2 := [(5, .int (v5 + 1)), (3, .int r7), (0, .ref 0), (1, .int v1), (2, .int v2), (4, .int v4)]) C dX8_run_73 rfl 5 rfl rfl (Nat.le_of_ble_eq_true rfl) rfl ?_
        refine r_goto (tgt := 36) C dX8_run_76 rfl ?_
        refine r_sub [2, 3, 4, 1, 5, 0] rfl ?_
        exact ih _ _ _ _ _ _ _ h Z C hE
      · rw [if_neg c9] at h
        refine r_iconst (pc' := 68) C dX8_run_67 rfl kc_1 ?_
        refine r_goto (tgt := 72) C dX8_run_68 rfl ?_
        obtain ⟨q13, h⟩ := ck h
        obtain ⟨σ14, e15, h⟩ := bs h
        refine r_zast (pc' := 73) (σ1 := σ14) C sh_148 (vin q13) dX8_run_72 rfl e15 ?_
        refine r_iinc (pc' := 76) (v := v5 + 1) (lv2 := [(5, .int (v5 + 1)), (3, .int r7), (0, .ref 0), (1, .int v1), (2, .int v2), (4, .int v4)]) C dX8_run_73 rfl 5 rfl rfl (Nat.le_of_ble_eq_true rfl) rfl ?_
        refine r_goto (tgt := 36) C dX8_run_76 rfl ?_
        refine r_sub [2, 3, 4, 1, 5, 0] rfl ?_
        exact ih _ _ _ _ _ _ _ h Z C hE
def X8_run_j79 (N : Nat)  (kr : Int32 → Int32 → Int32 → Int32 → Sg → Option (Int32 × Sg)) (v1 : Int32) (v2 : Int32) (v3 : Int32) (v4 : Int32) (σ : Sg) : Option (Int32 × Sg) :=
  kr v1 v2 v3 (v4 + 1) σ
set_option maxRecDepth 100000 in
set_option maxHeartbeats 4000000 in
theorem X8_run_j79_ok {E : Ev}  {N : Nat} {kr : Int32 → Int32 → Int32 → Int32 → Sg → Option (Int32 × Sg)}  (hkr : ∀ (v1 : Int32) (v2 : Int32) (v3 : Int32) (v4 : Int32) (σ : Sg) (r : Int32 × Sg), kr v1 v2 v3 v4 σ = some r → Gp E RX8 cX8_run (some .int) 6 (2) SH0 r.2 (some (.int r.1)) σ 27 [(0, .ref 0), (1, .int v1), (2, .int v2), (3, .int v3), (4, .int v4)] []) {v1 : Int32} {v2 : Int32} {v3 : Int32} {v4 : Int32} {σ : Sg} {r : Int32 × Sg} (h : X8_run_j79 N  kr v1 v2 v3 v4 σ = some r) : Gp E RX8 cX8_run (some .int) 6 (2) SH0 r.2 (some (.int r.1)) σ 79 [(0, .ref 0), (1, .int v1), (2, .int v2), (3, .int v3), (4, .int v4)] [] := by
  intro Z C hE
  unfold X8_run_j79 at h
  refine r_iinc (pc' := 82) (v := v4 + 1) (lv2 := [(4, .int (v4 + 1)), (0, .ref 0), (1, .int v1), (2, .int v2), (3, .int v3)]) C dX8_run_79 rfl 4 rfl rfl (Nat.le_of_ble_eq_true rfl) rfl ?_
  refine r_goto (tgt := 27) C dX8_run_82 rfl ?_
  refine r_sub [1, 2, 3, 4, 0] rfl ?_
  exact hkr _ _ _ _ _ _ h Z C hE
def X8_run_l27 (N : Nat)  (k85 : Int32 → Sg → Option (Int32 × Sg))  : Nat → Int32 → Int32 → Int32 → Int32 → Sg → Option (Int32 × Sg)
  | 0, _, _, _, _, _ => none
  | n + 1, v1, v2, v3, v4, σ =>
    if v1 < v4 then (k85 v3 σ) else (X8_run_l36 N (fun v1 v2 v3 v4 σ => X8_run_j79 N (fun v1 v2 v3 v4 σ => X8_run_l27 N k85 n v1 v2 v3 v4 σ) v1 v2 v3 v4 σ) N v1 v2 v3 v4 0 σ)
set_option maxRecDepth 100000 in
set_option maxHeartbeats 4000000 in
theorem X8_run_l27_ok {E : Ev}  {N : Nat} {k85 : Int32 → Sg → Option (Int32 × Sg)}  (hk85 : ∀ (v3 : Int32) (σ : Sg) (r : Int32 × Sg), k85 v3 σ = some r → Gp E RX8 cX8_run (some .int) 6 (2) SH0 r.2 (some (.int r.1)) σ 85 [(0, .ref 0), (3, .int v3)] []) : ∀ (n : Nat) (v1 : Int32) (v2 : Int32) (v3 : Int32) (v4 : Int32) (σ : Sg) (r : Int32 × Sg), X8_run_l27 N k85 n v1 v2 v3 v4 σ = some r → Gp E RX8 cX8_run (some .int) 6 (2) SH0 r.2 (some (.int r.1)) σ 27 [(0, .ref 0), (1, .int v1), (2, .int v2), (3, .int v3), (4, .int v4)] [] := by
  intro n
  induction n with
  | zero => intro v1 v2 v3 v4 σ r h; cases h
  | succ n ih =>
    intro v1 v2 v3 v4 σ r h Z C hE
    unfold X8_run_l27 at h
    refine r_iload (pc' := 29) C dX8_run_27 rfl 4 rfl ?_
    refine r_iload_n (pc' := 30) C dX8_run_29 rfl 1 rfl ?_
    refine r_icmp_gt (tgt := 85) (pc' := 33) C dX8_run_30 rfl rfl (fun c5 => ?_) (fun c5 => ?_)
    · rw [if_pos c5] at h
      refine r_sub [0, 3] rfl ?_
      exact hk85 _ _ _ h Z C hE
    · rw [if_neg c5] at h
      refine r_iconst (pc' := 34) C dX8_run_33 rfl kc_0 ?_
      refine r_istore (pc' := 36) (lv2 := [(5, .int 0), (0, .ref 0), (1, .int v1), (2, .int v2), (3, .int v3), (4, .int v4)]) C dX8_run_34 rfl (Nat.le_of_ble_eq_true rfl) rfl ?_
      refine r_sub [1, 2, 3, 4, 5, 0] rfl ?_
      exact X8_run_l36_ok  (fun _ _ _ _ _ _ h Z C hE => by exact X8_run_j79_ok  ih h Z C hE) N _ _ _ _ _ _ _ h Z C hE
def X8_run_j85 (N : Nat)   (v3 : Int32) (σ : Sg) : Option (Int32 × Sg) :=
  (X2_clear N σ).bind fun r16 => (if 0 ≤ v3 then (if inb v3 5 = true then if inb v3 5 = true then (X2_tell_ N ((oC2.getD v3.toNatClampNeg 0).toInt64) ((oC3.getD v3.toNatClampNeg 0).toInt64) r16).bind fun r21 => (some (1, r21)) else none else none) else (some (0, r16)))
set_option maxRecDepth 100000 in
set_option maxHeartbeats 4000000 in
theorem X8_run_j85_ok {E : Ev}  {N : Nat}    {v3 : Int32} {σ : Sg} {r : Int32 × Sg} (h : X8_run_j85 N   v3 σ = some r) : Gp E RX8 cX8_run (some .int) 6 (2) SH0 r.2 (some (.int r.1)) σ 85 [(0, .ref 0), (3, .int v3)] [] := by
  intro Z C hE
  unfold X8_run_j85 at h
  refine r_aload_n (pc' := 86) C dX8_run_85 rfl 0 rfl ?_
  refine r_getR (pc' := 89) C flX8_19 sh_0 rfl dX8_run_86 rfl ?_
  obtain ⟨r16, e17, h⟩ := bd h
  refine r_cV0 (pc' := 92) C (X2_clear_ok  e17) mlX8_264 ceX2_clear cvX2_clear sh_3 rfl rfl rfl (Nat.le_of_ble_eq_true rfl) rfl (Nat.le_of_ble_eq_true rfl) dX8_run_89 rfl (kk := ?_)
  refine r_iload_n (pc' := 93) C dX8_run_92 rfl 1 rfl ?_
  refine r_if_ge (tgt := 98) (pc' := 96) C dX8_run_93 rfl rfl (fun c18 => ?_) (fun c18 => ?_)
  · rw [if_pos c18] at h
    refine r_aload_n (pc' := 99) C dX8_run_98 rfl 0 rfl ?_
    refine r_getR (pc' := 102) C flX8_19 sh_0 rfl dX8_run_99 rfl ?_
    refine r_gets (pc' := 105) C rfl gsX8_377 dX8_run_102 rfl ?_
    refine r_iload_n (pc' := 106) C dX8_run_105 rfl 1 rfl ?_
    obtain ⟨q19, h⟩ := ck h
    refine r_oldI (pc' := 107) (l := oC2) C rfl (vin q19) rfl dX8_run_106 rfl ?_
    refine r_i2l (pc' := 108) C dX8_run_107 rfl rfl ?_
    refine r_gets (pc' := 111) C rfl gsX8_380 dX8_run_108 rfl ?_
    refine r_iload_n (pc' := 112) C dX8_run_111 rfl 1 rfl ?_
    obtain ⟨q20, h⟩ := ck h
    refine r_oldI (pc' := 113) (l := oC3) C rfl (vin q20) rfl dX8_run_112 rfl ?_
    refine r_i2l (pc' := 114) C dX8_run_113 rfl rfl ?_
    obtain ⟨r21, e22, h⟩ := bd h
    refine r_cV0 (pc' := 117) C (X2_tell__ok  e22) mlX8_198 ceX2_tell_ cvX2_tell_ sh_3 rfl rfl rfl (Nat.le_of_ble_eq_true rfl) rfl (Nat.le_of_ble_eq_true rfl) dX8_run_114 rfl (kk := ?_)
    refine r_iconst (pc' := 118) C dX8_run_117 rfl kc_1 ?_
    have h := Option.some.inj h
    subst h
    exact r_ret C rfl dX8_run_118 hE
  · rw [if_neg c18] at h
    refine r_iconst (pc' := 97) C dX8_run_96 rfl kc_0 ?_
    have h := Option.some.inj h
    subst h
    exact r_ret C rfl dX8_run_97 hE
def X8_run (N : Nat)  (v1 : Int32) (v2 : Int32) (σ : Sg) : Option (Int32 × Sg) :=
  if v1 < 0 then (some ((-1), σ)) else (if 20 < v1 then (some ((-1), σ)) else (if v2 < 0 then (some ((-1), σ)) else (if v2 ≤ 20 then (X8_run_l27 N (fun v3 σ => X8_run_j85 N v3 σ) N v1 v2 (-1) 0 σ) else (some ((-1), σ)))))
set_option maxRecDepth 100000 in
set_option maxHeartbeats 4000000 in
theorem X8_run_ok {E : Ev}  {N : Nat} {v1 : Int32} {v2 : Int32} {σ : Sg} {r : Int32 × Sg} (h : X8_run N  v1 v2 σ = some r) : Cm E (2) yX8_run cX8_run 6 (some .int) [.ref 0, .int v1, .int v2] SH0 SH0 σ r.2 (some (.int r.1)) 0 0 := by
  refine Cm.intro (by decide +kernel) (Nat.le_of_ble_eq_true rfl) (fun _ h => by obtain ⟨_, _, _, _, _, _, h⟩ := h; exact h) (fun Z C hE => ?_)
  show Wm E Z 0 0 SH0 σ 0 [(0, .ref 0), (1, .int v1), (2, .int v2)] []
  unfold X8_run at h
  refine r_iload_n (pc' := 1) C dX8_run_0 rfl 1 rfl ?_
  refine r_if_lt (tgt := 20) (pc' := 4) C dX8_run_1 rfl rfl (fun c1 => ?_) (fun c1 => ?_)
  · rw [if_pos c1] at h
    refine r_iconst (pc' := 21) C dX8_run_20 rfl kc_m1 ?_
    have h := Option.some.inj h
    subst h
    exact r_ret C rfl dX8_run_21 hE
  · rw [if_neg c1] at h
    refine r_iload_n (pc' := 5) C dX8_run_4 rfl 1 rfl ?_
    refine r_bipush (pc' := 7) C dX8_run_5 rfl kb_20 ?_
    refine r_icmp_gt (tgt := 20) (pc' := 10) C dX8_run_7 rfl rfl (fun c2 => ?_) (fun c2 => ?_)
    · rw [if_pos c2] at h
      refine r_iconst (pc' := 21) C dX8_run_20 rfl kc_m1 ?_
      have h := Option.some.inj h
      subst h
      exact r_ret C rfl dX8_run_21 hE
    · rw [if_neg c2] at h
      refine r_iload_n (pc' := 11) C dX8_run_10 rfl 2 rfl ?_
      refine r_if_lt (tgt := 20) (pc' := 14) C dX8_run_11 rfl rfl (fun c3 => ?_) (fun c3 => ?_)
      · rw [if_pos c3] at h
        refine r_iconst (pc' := 21) C dX8_run_20 rfl kc_m1 ?_
        have h := Option.some.inj h
        subst h
        exact r_ret C rfl dX8_run_21 hE
      · rw [if_neg c3] at h
        refine r_iload_n (pc' := 15) C dX8_run_14 rfl 2 rfl ?_
        refine r_bipush (pc' := 17) C dX8_run_15 rfl kb_20 ?_
        refine r_icmp_le (tgt := 22) (pc' := 20) C dX8_run_17 rfl rfl (fun c4 => ?_) (fun c4 => ?_)
        · rw [if_pos c4] at h
          refine r_iconst (pc' := 23) C dX8_run_22 rfl kc_m1 ?_
          refine r_istore_n (pc' := 24) (lv2 := [(3, .int (-1)), (0, .ref 0), (1, .int v1), (2, .int v2)]) C dX8_run_23 rfl rfl (Nat.le_of_ble_eq_true rfl) rfl ?_
          refine r_iconst (pc' := 25) C dX8_run_24 rfl kc_0 ?_
          refine r_istore (pc' := 27) (lv2 := [(4, .int 0), (3, .int (-1)), (0, .ref 0), (1, .int v1), (2, .int v2)]) C dX8_run_25 rfl (Nat.le_of_ble_eq_true rfl) rfl ?_
          refine r_sub [2, 3, 4, 1, 0] rfl ?_
          exact X8_run_l27_ok  (fun _ _ _ h Z C hE => by exact X8_run_j85_ok  h Z C hE) N _ _ _ _ _ _ h Z C hE
        · rw [if_neg c4] at h
          refine r_iconst (pc' := 21) C dX8_run_20 rfl kc_m1 ?_
          have h := Option.some.inj h
          subst h
          exact r_ret C rfl dX8_run_21 hE

/-! BorrowedWeight.law()I -/
def X8_law_l74 (N : Nat)    : Nat → Int32 → Int32 → Int32 → Sg → Option (Int32 × Sg)
  | 0, _, _, _, _ => none
  | n + 1, v2, v3, v4, σ =>
    if (gi σ 5 1) ≤ v4 then (some (v3 - v2, σ)) else (if inb v4 8 = true then (X2_add N ((gi σ 15 v4.toNatClampNeg).toInt64) σ).bind fun r18 => (X8_law_l74 N n v2 v3 (v4 + 1) r18) else none)
set_option maxRecDepth 100000 in
set_option maxHeartbeats 4000000 in
theorem X8_law_l74_ok {E : Ev}  {N : Nat}    : ∀ (n : Nat) (v2 : Int32) (v3 : Int32) (v4 : Int32) (σ : Sg) (r : Int32 × Sg), X8_law_l74 N n v2 v3 v4 σ = some r → Gp E RX8 cX8_law (some .int) 5 (6) SH0 r.2 (some (.int r.1)) σ 74 [(0, .ref 0), (2, .int v2), (3, .int v3), (4, .int v4)] [] := by
  intro n
  induction n with
  | zero => intro v2 v3 v4 σ r h; cases h
  | succ n ih =>
    intro v2 v3 v4 σ r h Z C hE
    unfold X8_law_l74 at h
    refine r_iload (pc' := 76) C dX8_law_74 rfl 3 rfl ?_
    refine r_aload_n (pc' := 77) C dX8_law_76 rfl 0 rfl ?_
    refine r_getR (pc' := 80) C flX8_26 sh_0 rfl dX8_law_77 rfl ?_
    refine r_getI (pc' := 83) C flX8_265 sh_5 rfl dX8_law_80 rfl ?_
    refine r_icmp_ge (tgt := 110) (pc' := 86) C dX8_law_83 rfl rfl (fun c16 => ?_) (fun c16 => ?_)
    · rw [if_pos c16] at h
      refine r_iload_n (pc' := 111) C dX8_law_110 rfl 2 rfl ?_
      refine r_iload_n (pc' := 112) C dX8_law_111 rfl 1 rfl ?_
      refine r_isub (pc' := 113) C dX8_law_112 rfl ?_
      have h := Option.some.inj h
      subst h
      exact r_ret C rfl dX8_law_113 hE
    · rw [if_neg c16] at h
      refine r_aload_n (pc' := 87) C dX8_law_86 rfl 0 rfl ?_
      refine r_getR (pc' := 90) C flX8_19 sh_0 rfl dX8_law_87 rfl ?_
      refine r_aload_n (pc' := 91) C dX8_law_90 rfl 0 rfl ?_
      refine r_getR (pc' := 94) C flX8_26 sh_0 rfl dX8_law_91 rfl ?_
      refine r_getR (pc' := 97) C flX8_171 sh_5 rfl dX8_law_94 rfl ?_
      refine r_iload (pc' := 99) C dX8_law_97 rfl 3 rfl ?_
      obtain ⟨q17, h⟩ := ck h
      refine r_iald (pc' := 100) C sh_15 (vin q17) dX8_law_99 rfl ?_
      refine r_i2l (pc' := 101) C dX8_law_100 rfl rfl ?_
      obtain ⟨r18, e19, h⟩ := bd h
      refine r_cV0 (pc' := 104) C (X2_add_ok  e19) mlX8_268 ceX2_add cvX2_add sh_3 rfl rfl rfl (Nat.le_of_ble_eq_true rfl) rfl (Nat.le_of_ble_eq_true rfl) dX8_law_101 rfl (kk := ?_)
      refine r_iinc (pc' := 107) (v := v4 + 1) (lv2 := [(4, .int (v4 + 1)), (0, .ref 0), (2, .int v2), (3, .int v3)]) C dX8_law_104 rfl 3 rfl rfl (Nat.le_of_ble_eq_true rfl) rfl ?_
      refine r_goto (tgt := 74) C dX8_law_107 rfl ?_
      refine r_sub [1, 2, 3, 0] rfl ?_
      exact ih _ _ _ _ _ h Z C hE
def X8_law (N : Nat)   (σ : Sg) : Option (Int32 × Sg) :=
  (X8_readDraft N σ).bind fun r1 => (if r1.1 = (-1) then (if isRule ((gi r1.2 5 2).toNatClampNeg) = true then (X0_floating N 19 ((gi r1.2 5 2).toNatClampNeg) r1.2).bind fun r5 => ((J6_bitCount_0f7a4 N r5.1 r5.2).bind fun r7 => (if isRule ((gi r5.2 5 3).toNatClampNeg) = true then (X0_floating N 19 ((gi r5.2 5 3).toNatClampNeg) r5.2).bind fun r10 => ((J6_bitCount_0f7a4 N r10.1 r10.2).bind fun r12 => ((X2_tell_ N r12.toInt64 r7.toInt64 r10.2).bind fun r14 => (X8_law_l74 N N r7 r12 0 r14))) else none)) else none) else (some ((-10000) - r1.1, r1.2)))
set_option maxRecDepth 100000 in
set_option maxHeartbeats 4000000 in
theorem X8_law_ok {E : Ev}  {N : Nat}  {σ : Sg} {r : Int32 × Sg} (h : X8_law N   σ = some r) : Cm E (6) yX8_law cX8_law 5 (some .int) [.ref 0] SH0 SH0 σ r.2 (some (.int r.1)) 0 0 := by
  refine Cm.intro (by decide +kernel) (Nat.le_of_ble_eq_true rfl) (fun _ h => by obtain ⟨_, _, _, _, _, _, h⟩ := h; exact h) (fun Z C hE => ?_)
  show Wm E Z 0 0 SH0 σ 0 [(0, .ref 0)] []
  unfold X8_law at h
  refine r_aload_n (pc' := 1) C dX8_law_0 rfl 0 rfl ?_
  obtain ⟨r1, e2, h⟩ := bd h
  refine r_cV1 (pc' := 4) C (X8_readDraft_ok  e2) mlX8_132 ceX8_readDraft cvX8_readDraft sh_0 rfl rfl rfl (Nat.le_of_ble_eq_true rfl) rfl (Nat.le_of_ble_eq_true rfl) dX8_law_1 rfl (kk := ?_)
  refine r_istore_n (pc' := 5) (lv2 := [(1, .int r1.1), (0, .ref 0)]) C dX8_law_4 rfl rfl (Nat.le_of_ble_eq_true rfl) rfl ?_
  refine r_iload_n (pc' := 6) C dX8_law_5 rfl 0 rfl ?_
  refine r_iconst (pc' := 7) C dX8_law_6 rfl kc_m1 ?_
  refine r_icmp_eq (tgt := 16) (pc' := 10) C dX8_law_7 rfl rfl (fun c3 => ?_) (fun c3 => ?_)
  · rw [if_pos c3] at h
    refine r_aload_n (pc' := 17) C dX8_law_16 rfl 1 rfl ?_
    refine r_getR (pc' := 20) C flX8_26 sh_0 rfl dX8_law_17 rfl ?_
    refine r_aload_n (pc' := 21) C dX8_law_20 rfl 1 rfl ?_
    refine r_getR (pc' := 24) C flX8_33 sh_0 rfl dX8_law_21 rfl ?_
    refine r_aload_n (pc' := 25) C dX8_law_24 rfl 1 rfl ?_
    refine r_getR (pc' := 28) C flX8_26 sh_0 rfl dX8_law_25 rfl ?_
    refine r_getD (pc' := 31) C flX8_163 sh_5 rfl dX8_law_28 rfl ?_
    obtain ⟨q4, h⟩ := ck h
    obtain ⟨r5, e6, h⟩ := bd h
    refine r_cV1 (pc' := 34) C (X0_floating_ok stc_19 (ruof q4) e6) mlX8_242 ceX0_floating cvX0_floating sh_5 rfl rfl rfl (Nat.le_of_ble_eq_true rfl) rfl (Nat.le_of_ble_eq_true rfl) dX8_law_31 rfl (kk := ?_)
    obtain ⟨r7, e8, h⟩ := bd h
    refine r_cS1 (pc' := 37) C (J6_bitCount_0f7a4_ok  e8) mlX8_189 ceJ6_bitCount_0f7a4 csJ6_bitCount_0f7a4 rfl (Nat.le_of_ble_eq_true rfl) rfl (Nat.le_of_ble_eq_true rfl) dX8_law_34 rfl (kk := ?_)
    refine r_istore_n (pc' := 38) (lv2 := [(2, .int r7), (1, .int r1.1), (0, .ref 0)]) C dX8_law_37 rfl rfl (Nat.le_of_ble_eq_true rfl) rfl ?_
    refine r_aload_n (pc' := 39) C dX8_law_38 rfl 2 rfl ?_
    refine r_getR (pc' := 42) C flX8_26 sh_0 rfl dX8_law_39 rfl ?_
    refine r_aload_n (pc' := 43) C dX8_law_42 rfl 2 rfl ?_
    refine r_getR (pc' := 46) C flX8_33 sh_0 rfl dX8_law_43 rfl ?_
    refine r_aload_n (pc' := 47) C dX8_law_46 rfl 2 rfl ?_
    refine r_getR (pc' := 50) C flX8_26 sh_0 rfl dX8_law_47 rfl ?_
    refine r_getD (pc' := 53) C flX8_383 sh_5 rfl dX8_law_50 rfl ?_
    obtain ⟨q9, h⟩ := ck h
    obtain ⟨r10, e11, h⟩ := bd h
    refine r_cV1 (pc' := 56) C (X0_floating_ok stc_19 (ruof q9) e11) mlX8_242 ceX0_floating cvX0_floating sh_5 rfl rfl rfl (Nat.le_of_ble_eq_true rfl) rfl (Nat.le_of_ble_eq_true rfl) dX8_law_53 rfl (kk := ?_)
    obtain ⟨r12, e13, h⟩ := bd h
    refine r_cS1 (pc' := 59) C (J6_bitCount_0f7a4_ok  e13) mlX8_189 ceJ6_bitCount_0f7a4 csJ6_bitCount_0f7a4 rfl (Nat.le_of_ble_eq_true rfl) rfl (Nat.le_of_ble_eq_true rfl) dX8_law_56 rfl (kk := ?_)
    refine r_istore_n (pc' := 60) (lv2 := [(3, .int r12), (2, .int r7), (1, .int r1.1), (0, .ref 0)]) C dX8_law_59 rfl rfl (Nat.le_of_ble_eq_true rfl) rfl ?_
    refine r_aload_n (pc' := 61) C dX8_law_60 rfl 3 rfl ?_
    refine r_getR (pc' := 64) C flX8_19 sh_0 rfl dX8_law_61 rfl ?_
    refine r_iload_n (pc' := 65) C dX8_law_64 rfl 0 rfl ?_
    refine r_i2l (pc' := 66) C dX8_law_65 rfl rfl ?_
    refine r_iload_n (pc' := 67) C dX8_law_66 rfl 1 rfl ?_
    refine r_i2l (pc' := 68) C dX8_law_67 rfl rfl ?_
    obtain ⟨r14, e15, h⟩ := bd h
    refine r_cV0 (pc' := 71) C (X2_tell__ok  e15) mlX8_198 ceX2_tell_ cvX2_tell_ sh_3 rfl rfl rfl (Nat.le_of_ble_eq_true rfl) rfl (Nat.le_of_ble_eq_true rfl) dX8_law_68 rfl (kk := ?_)
    refine r_iconst (pc' := 72) C dX8_law_71 rfl kc_0 ?_
    refine r_istore (pc' := 74) (lv2 := [(4, .int 0), (3, .int r12), (2, .int r7), (1, .int r1.1), (0, .ref 0)]) C dX8_law_72 rfl (Nat.le_of_ble_eq_true rfl) rfl ?_
    refine r_sub [4, 2, 1, 0] rfl ?_
    exact X8_law_l74_ok  N _ _ _ _ _ h Z C hE
  · rw [if_neg c3] at h
    refine r_sipush (pc' := 13) C dX8_law_10 rfl ks_m10000 ?_
    refine r_iload_n (pc' := 14) C dX8_law_13 rfl 0 rfl ?_
    refine r_isub (pc' := 15) C dX8_law_14 rfl ?_
    have h := Option.some.inj h
    subst h
    exact r_ret C rfl dX8_law_15 hE

/-! BorrowedWeight.gainOf(III)I -/
def X8_gainOf (N : Nat)  (v0 : Int32) (v1 : Int32) (v2 : Int32) (σ : Sg) : Option (Int32) :=
  if v1 = v2 then (some (v0 / 3)) else (if v1 ≤ v2 then (some 0) else (some (v0 - ((v1 + v2) / 2))))
set_option maxRecDepth 100000 in
set_option maxHeartbeats 4000000 in
theorem X8_gainOf_ok {E : Ev}  {N : Nat} {v0 : Int32} {v1 : Int32} {v2 : Int32} {σ : Sg} {r : Int32} (h : X8_gainOf N  v0 v1 v2 σ = some r) : Cm E (0) yX8_gainOf cX8_gainOf 3 (some .int) [.int v0, .int v1, .int v2] SH0 SH0 σ σ (some (.int r)) 0 0 := by
  refine Cm.intro (by decide +kernel) (Nat.le_of_ble_eq_true rfl) (fun _ h => by obtain ⟨_, _, _, _, _, _, h⟩ := h; exact h) (fun Z C hE => ?_)
  show Wm E Z 0 0 SH0 σ 0 [(0, .int v0), (1, .int v1), (2, .int v2)] []
  unfold X8_gainOf at h
  refine r_iload_n (pc' := 1) C dX8_gainOf_0 rfl 1 rfl ?_
  refine r_iload_n (pc' := 2) C dX8_gainOf_1 rfl 2 rfl ?_
  refine r_icmp_ne (tgt := 9) (pc' := 5) C dX8_gainOf_2 rfl rfl (fun c1 => ?_) (fun c1 => ?_)
  · rw [if_neg c1] at h
    refine r_iload_n (pc' := 10) C dX8_gainOf_9 rfl 1 rfl ?_
    refine r_iload_n (pc' := 11) C dX8_gainOf_10 rfl 2 rfl ?_
    refine r_icmp_le (tgt := 24) (pc' := 14) C dX8_gainOf_11 rfl rfl (fun c2 => ?_) (fun c2 => ?_)
    · rw [if_pos c2] at h
      refine r_iconst (pc' := 25) C dX8_gainOf_24 rfl kc_0 ?_
      have h := Option.some.inj h
      subst h
      exact r_ret C rfl dX8_gainOf_25 hE
    · rw [if_neg c2] at h
      refine r_iload_n (pc' := 15) C dX8_gainOf_14 rfl 0 rfl ?_
      refine r_iload_n (pc' := 16) C dX8_gainOf_15 rfl 1 rfl ?_
      refine r_iload_n (pc' := 17) C dX8_gainOf_16 rfl 2 rfl ?_
      refine r_iadd (pc' := 18) C dX8_gainOf_17 rfl ?_
      refine r_iconst (pc' := 19) C dX8_gainOf_18 rfl kc_2 ?_
      refine r_idiv (pc' := 20) C dX8_gainOf_19 rfl (by decide) ?_
      refine r_isub (pc' := 21) C dX8_gainOf_20 rfl ?_
      refine r_goto (tgt := 25) C dX8_gainOf_21 rfl ?_
      have h := Option.some.inj h
      subst h
      exact r_ret C rfl dX8_gainOf_25 hE
  · rw [if_pos c1] at h
    refine r_iload_n (pc' := 6) C dX8_gainOf_5 rfl 0 rfl ?_
    refine r_iconst (pc' := 7) C dX8_gainOf_6 rfl kc_3 ?_
    refine r_idiv (pc' := 8) C dX8_gainOf_7 rfl (by decide) ?_
    have h := Option.some.inj h
    subst h
    exact r_ret C rfl dX8_gainOf_8 hE

/-! BorrowedWeight.isBest(III)Z -/
def X8_isBest_l10 (N : Nat)   (σ : Sg) : Nat → Int32 → Int32 → Int32 → Int32 → Option (Int32)
  | 0, _, _, _, _ => none
  | n + 1, v0, v2, v3, v4 =>
    if 9 < v4 then (some 1) else ((X8_gainOf N v0 v4 v2 σ).bind fun r4 => (if r4 ≤ v3 then (X8_isBest_l10 N σ n v0 v2 v3 (v4 + 1)) else (some 0)))
set_option maxRecDepth 100000 in
set_option maxHeartbeats 4000000 in
theorem X8_isBest_l10_ok {E : Ev}  {N : Nat}  {σ : Sg}  : ∀ (n : Nat) (v0 : Int32) (v2 : Int32) (v3 : Int32) (v4 : Int32) (r : Int32), X8_isBest_l10 N σ n v0 v2 v3 v4 = some r → Gp E RX8 cX8_isBest (some .boolean) 5 (1) SH0 σ (some (.int r)) σ 10 [(0, .int v0), (2, .int v2), (3, .int v3), (4, .int v4)] [] := by
  intro n
  induction n with
  | zero => intro v0 v2 v3 v4 r h; cases h
  | succ n ih =>
    intro v0 v2 v3 v4 r h Z C hE
    unfold X8_isBest_l10 at h
    refine r_iload (pc' := 12) C dX8_isBest_10 rfl 3 rfl ?_
    refine r_bipush (pc' := 14) C dX8_isBest_12 rfl kb_9 ?_
    refine r_icmp_gt (tgt := 36) (pc' := 17) C dX8_isBest_14 rfl rfl (fun c3 => ?_) (fun c3 => ?_)
    · rw [if_pos c3] at h
      refine r_iconst (pc' := 37) C dX8_isBest_36 rfl kc_1 ?_
      have h := Option.some.inj h
      subst h
      exact r_ret C rfl dX8_isBest_37 hE
    · rw [if_neg c3] at h
      refine r_iload_n (pc' := 18) C dX8_isBest_17 rfl 0 rfl ?_
      refine r_iload (pc' := 20) C dX8_isBest_18 rfl 3 rfl ?_
      refine r_iload_n (pc' := 21) C dX8_isBest_20 rfl 1 rfl ?_
      obtain ⟨r4, e5, h⟩ := bd h
      refine r_cS1 (pc' := 24) C (X8_gainOf_ok  e5) mlX8_449 ceX8_gainOf csX8_gainOf rfl (Nat.le_of_ble_eq_true rfl) rfl (Nat.le_of_ble_eq_true rfl) dX8_isBest_21 rfl (kk := ?_)
      refine r_iload_n (pc' := 25) C dX8_isBest_24 rfl 2 rfl ?_
      refine r_icmp_le (tgt := 30) (pc' := 28) C dX8_isBest_25 rfl rfl (fun c6 => ?_) (fun c6 => ?_)
      · rw [if_pos c6] at h
        refine r_iinc (pc' := 33) (v := v4 + 1) (lv2 := [(4, .int (v4 + 1)), (0, .int v0), (2, .int v2), (3, .int v3)]) C dX8_isBest_30 rfl 3 rfl rfl (Nat.le_of_ble_eq_true rfl) rfl ?_
        refine r_goto (tgt := 10) C dX8_isBest_33 rfl ?_
        refine r_sub [1, 2, 3, 0] rfl ?_
        exact ih _ _ _ _ _ h Z C hE
      · rw [if_neg c6] at h
        refine r_iconst (pc' := 29) C dX8_isBest_28 rfl kc_0 ?_
        have h := Option.some.inj h
        subst h
        exact r_ret C rfl dX8_isBest_29 hE
def X8_isBest (N : Nat)  (v0 : Int32) (v1 : Int32) (v2 : Int32) (σ : Sg) : Option (Int32) :=
  (X8_gainOf N v0 v1 v2 σ).bind fun r1 => (X8_isBest_l10 N σ N v0 v2 r1 0)
set_option maxRecDepth 100000 in
set_option maxHeartbeats 4000000 in
theorem X8_isBest_ok {E : Ev}  {N : Nat} {v0 : Int32} {v1 : Int32} {v2 : Int32} {σ : Sg} {r : Int32} (h : X8_isBest N  v0 v1 v2 σ = some r) : Cm E (1) yX8_isBest cX8_isBest 5 (some .boolean) [.int v0, .int v1, .int v2] SH0 SH0 σ σ (some (.int r)) 0 0 := by
  refine Cm.intro (by decide +kernel) (Nat.le_of_ble_eq_true rfl) (fun _ h => by obtain ⟨_, _, _, _, _, _, h⟩ := h; exact h) (fun Z C hE => ?_)
  show Wm E Z 0 0 SH0 σ 0 [(0, .int v0), (1, .int v1), (2, .int v2)] []
  unfold X8_isBest at h
  refine r_iload_n (pc' := 1) C dX8_isBest_0 rfl 0 rfl ?_
  refine r_iload_n (pc' := 2) C dX8_isBest_1 rfl 1 rfl ?_
  refine r_iload_n (pc' := 3) C dX8_isBest_2 rfl 2 rfl ?_
  obtain ⟨r1, e2, h⟩ := bd h
  refine r_cS1 (pc' := 6) C (X8_gainOf_ok  e2) mlX8_449 ceX8_gainOf csX8_gainOf rfl (Nat.le_of_ble_eq_true rfl) rfl (Nat.le_of_ble_eq_true rfl) dX8_isBest_3 rfl (kk := ?_)
  refine r_istore_n (pc' := 7) (lv2 := [(3, .int r1), (0, .int v0), (1, .int v1), (2, .int v2)]) C dX8_isBest_6 rfl rfl (Nat.le_of_ble_eq_true rfl) rfl ?_
  refine r_iconst (pc' := 8) C dX8_isBest_7 rfl kc_0 ?_
  refine r_istore (pc' := 10) (lv2 := [(4, .int 0), (3, .int r1), (0, .int v0), (1, .int v1), (2, .int v2)]) C dX8_isBest_8 rfl (Nat.le_of_ble_eq_true rfl) rfl ?_
  refine r_sub [2, 4, 1, 0] rfl ?_
  exact X8_isBest_l10_ok  N _ _ _ _ _ h Z C hE
