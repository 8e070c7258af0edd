/-! BorrowedWeightModel.order()I -/
def X9_order_l27 (N : Nat)  (k84 : Int32 → Int32 → Sg → Option (Int32 × Sg))  : Nat → Int32 → Int32 → Int32 → Sg → Option (Int32 × Sg)
  | 0, _, _, _, _ => none
  | n + 1, v1, v2, v3, σ =>
    if (gi σ 149 3) ≤ v3 then (k84 v1 v2 σ) else ((X9_has N v1 v3 σ).bind fun r9 => (if r9 = 0 then (X9_order_l27 N k84 n v1 v2 (v3 + 1) σ) else (if v2 < 0 then (X9_order_l27 N k84 n v1 v3 (v3 + 1) σ) else ((X9_above N 153 (1 <<< (v3 &&& 31)) σ).bind fun r13 => ((X9_above N 153 (1 <<< (v2 &&& 31)) r13.2).bind fun r15 => (if r13.1 ≤ r15.1 then (X9_order_l27 N k84 n v1 v2 (v3 + 1) r15.2) else (X9_order_l27 N k84 n v1 v3 (v3 + 1) r15.2)))))))
set_option maxRecDepth 100000 in
set_option maxHeartbeats 4000000 in
theorem X9_order_l27_ok {E : Ev}  {N : Nat} {k84 : Int32 → Int32 → Sg → Option (Int32 × Sg)}  (hk84 : ∀ (v1 : Int32) (v2 : Int32) (σ : Sg) (r : Int32 × Sg), k84 v1 v2 σ = some r → Gp E RX9 cX9_order (some .int) 4 6 SH0 r.2 (some (.int r.1)) σ 84 [(0, .ref 149), (1, .int v1), (2, .int v2)] []) : ∀ (n : Nat) (v1 : Int32) (v2 : Int32) (v3 : Int32) (σ : Sg) (r : Int32 × Sg), X9_order_l27 N k84 n v1 v2 v3 σ = some r → Gp E RX9 cX9_order (some .int) 4 6 SH0 r.2 (some (.int r.1)) σ 27 [(0, .ref 149), (1, .int v1), (2, .int v2), (3, .int v3)] [] := by
  intro n
  induction n with
  | zero => intro v1 v2 v3 σ r h; cases h
  | succ n ih =>
    intro v1 v2 v3 σ r h Z C hE
    unfold X9_order_l27 at h
    refine r_iload_n (pc' := 28) C dX9_order_27 rfl 3 rfl ?_
    refine r_aload_n (pc' := 29) C dX9_order_28 rfl 0 rfl ?_
    refine r_getI (pc' := 32) C flX9_116 sh_149 rfl dX9_order_29 rfl ?_
    refine r_icmp_ge (tgt := 84) (pc' := 35) C dX9_order_32 rfl rfl (fun c8 => ?_) (fun c8 => ?_)
    · rw [if_pos c8] at h
      refine r_sub [0, 1, 2] rfl ?_
      exact hk84 _ _ _ _ h Z C hE
    · rw [if_neg c8] at h
      refine r_iload_n (pc' := 36) C dX9_order_35 rfl 1 rfl ?_
      refine r_iload_n (pc' := 37) C dX9_order_36 rfl 3 rfl ?_
      obtain ⟨r9, e10, h⟩ := bd h
      refine r_cS1 (pc' := 40) C (X9_has_ok  e10) mlX9_127 ceX9_has csX9_has rfl (Nat.le_of_ble_eq_true rfl) rfl (Nat.le_of_ble_eq_true rfl) dX9_order_37 rfl (kk := ?_)
      refine r_if_eq (tgt := 76) (pc' := 43) C dX9_order_40 rfl rfl (fun c11 => ?_) (fun c11 => ?_)
      · rw [if_pos c11] at h
        refine r_iload_n (pc' := 77) C dX9_order_76 rfl 2 rfl ?_
        refine r_istore_n (pc' := 78) (lv2 := [(2, .int v2), (0, .ref 149), (1, .int v1), (3, .int v3)]) C dX9_order_77 rfl rfl (Nat.le_of_ble_eq_true rfl) rfl ?_
        refine r_iinc (pc' := 81) (v := v3 + 1) (lv2 := [(3, .int (v3 + 1)), (2, .int v2), (0, .ref 149), (1, .int v1)]) C dX9_order_78 rfl 3 rfl rfl (Nat.le_of_ble_eq_true rfl) rfl ?_
        refine r_goto (tgt := 27) C dX9_order_81 rfl ?_
        refine r_sub [2, 3, 1, 0] rfl ?_
        exact ih _ _ _ _ _ h Z C hE
      · rw [if_neg c11] at h
        refine r_iload_n (pc' := 44) C dX9_order_43 rfl 2 rfl ?_
        refine r_if_lt (tgt := 72) (pc' := 47) C dX9_order_44 rfl rfl (fun c12 => ?_) (fun c12 => ?_)
        · rw [if_pos c12] at h
          refine r_iload_n (pc' := 73) C dX9_order_72 rfl 3 rfl ?_
          refine r_goto (tgt := 77) C dX9_order_73 rfl ?_
          refine r_istore_n (pc' := 78) (lv2 := [(2, .int v3), (0, .ref 149), (1, .int v1), (3, .int v3)]) C dX9_order_77 rfl rfl (Nat.le_of_ble_eq_true rfl) rfl ?_
          refine r_iinc (pc' := 81) (v := v3 + 1) (lv2 := [(3, .int (v3 + 1)), (2, .int v3), (0, .ref 149), (1, .int v1)]) C dX9_order_78 rfl 3 rfl rfl (Nat.le_of_ble_eq_true rfl) rfl ?_
          refine r_goto (tgt := 27) C dX9_order_81 rfl ?_
          refine r_sub [2, 3, 1, 0] rfl ?_
          exact ih _ _ _ _ _ h Z C hE
        · rw [if_neg c12] at h
          refine r_aload_n (pc' := 48) C dX9_order_47 rfl 0 rfl ?_
          refine r_aload_n (pc' := 49) C dX9_order_48 rfl 0 rfl ?_
          refine r_getR (pc' := 52) C flX9_34 sh_149 rfl dX9_order_49 rfl ?_
          refine r_iconst (pc' := 53) C dX9_order_52 rfl kc_1 ?_
          refine r_iload_n (pc' := 54) C dX9_order_53 rfl 3 rfl ?_
          refine r_ishl (pc' := 55) C dX9_order_54 rfl ?_
          obtain ⟨r13, e14, h⟩ := bd h
          refine r_cV1 (pc' := 58) C (X9_above_ok mac_153 e14) mlX9_287 ceX9_above cvX9_above sh_149 rfl rfl rfl (Nat.le_of_ble_eq_true rfl) rfl (Nat.le_of_ble_eq_true rfl) dX9_order_55 rfl (kk := ?_)
          refine r_aload_n (pc' := 59) C dX9_order_58 rfl 0 rfl ?_
          refine r_aload_n (pc' := 60) C dX9_order_59 rfl 0 rfl ?_
          refine r_getR (pc' := 63) C flX9_34 sh_149 rfl dX9_order_60 rfl ?_
          refine r_iconst (pc' := 64) C dX9_order_63 rfl kc_1 ?_
          refine r_iload_n (pc' := 65) C dX9_order_64 rfl 2 rfl ?_
          refine r_ishl (pc' := 66) C dX9_order_65 rfl ?_
          obtain ⟨r15, e16, h⟩ := bd h
          refine r_cV1 (pc' := 69) C (X9_above_ok mac_153 e16) mlX9_287 ceX9_above cvX9_above sh_149 rfl rfl rfl (Nat.le_of_ble_eq_true rfl) rfl (Nat.le_of_ble_eq_true rfl) dX9_order_66 rfl (kk := ?_)
          refine r_icmp_le (tgt := 76) (pc' := 72) C dX9_order_69 rfl rfl (fun c17 => ?_) (fun c17 => ?_)
          · rw [if_pos c17] at h
            refine r_iload_n (pc' := 77) C dX9_order_76 rfl 2 rfl ?_
            refine r_istore_n (pc' := 78) (lv2 := [(2, .int v2), (0, .ref 149), (1, .int v1), (3, .int v3)]) C dX9_order_77 rfl rfl (Nat.le_of_ble_eq_true rfl) rfl ?_
            refine r_iinc (pc' := 81) (v := v3 + 1) (lv2 := [(3, .int (v3 + 1)), (2, .int v2), (0, .ref 149), (1, .int v1)]) C dX9_order_78 rfl 3 rfl rfl (Nat.le_of_ble_eq_true rfl) rfl ?_
            refine r_goto (tgt := 27) C dX9_order_81 rfl ?_
            refine r_sub [2, 3, 1, 0] rfl ?_
            exact ih _ _ _ _ _ h Z C hE
          · rw [if_neg c17] at h
            refine r_iload_n (pc' := 73) C dX9_order_72 rfl 3 rfl ?_
            refine r_goto (tgt := 77) C dX9_order_73 rfl ?_
            refine r_istore_n (pc' := 78) (lv2 := [(2, .int v3), (0, .ref 149), (1, .int v1), (3, .int v3)]) C dX9_order_77 rfl rfl (Nat.le_of_ble_eq_true rfl) rfl ?_
            refine r_iinc (pc' := 81) (v := v3 + 1) (lv2 := [(3, .int (v3 + 1)), (2, .int v3), (0, .ref 149), (1, .int v1)]) C dX9_order_78 rfl 3 rfl rfl (Nat.le_of_ble_eq_true rfl) rfl ?_
            refine r_goto (tgt := 27) C dX9_order_81 rfl ?_
            refine r_sub [2, 3, 1, 0] rfl ?_
            exact ih _ _ _ _ _ h Z C hE
def X9_order_j84 (N : Nat)  (kr : Int32 → Sg → Option (Int32 × Sg)) (v1 : Int32) (v2 : Int32) (σ : Sg) : Option (Int32 × Sg) :=
  (X9_enters N v2.toInt64 σ).bind fun r18 => (kr (v1 &&& ((1 <<< (v2 &&& 31)) ^^^ (-1))) r18)
set_option maxRecDepth 100000 in
set_option maxHeartbeats 4000000 in
theorem X9_order_j84_ok {E : Ev}  {N : Nat} {kr : Int32 → Sg → Option (Int32 × Sg)}  (hkr : ∀ (v1 : Int32) (σ : Sg) (r : Int32 × Sg), kr v1 σ = some r → Gp E RX9 cX9_order (some .int) 4 6 SH0 r.2 (some (.int r.1)) σ 19 [(0, .ref 149), (1, .int v1)] []) {v1 : Int32} {v2 : Int32} {σ : Sg} {r : Int32 × Sg} (h : X9_order_j84 N  kr v1 v2 σ = some r) : Gp E RX9 cX9_order (some .int) 4 6 SH0 r.2 (some (.int r.1)) σ 84 [(0, .ref 149), (1, .int v1), (2, .int v2)] [] := by
  intro Z C hE
  unfold X9_order_j84 at h
  refine r_iload_n (pc' := 85) C dX9_order_84 rfl 1 rfl ?_
  refine r_iconst (pc' := 86) C dX9_order_85 rfl kc_1 ?_
  refine r_iload_n (pc' := 87) C dX9_order_86 rfl 2 rfl ?_
  refine r_ishl (pc' := 88) C dX9_order_87 rfl ?_
  refine r_iconst (pc' := 89) C dX9_order_88 rfl kc_m1 ?_
  refine r_ixor (pc' := 90) C dX9_order_89 rfl ?_
  refine r_iand (pc' := 91) C dX9_order_90 rfl ?_
  refine r_istore_n (pc' := 92) (lv2 := [(1, .int (v1 &&& ((1 <<< (v2 &&& 31)) ^^^ (-1)))), (0, .ref 149), (2, .int v2)]) C dX9_order_91 rfl rfl (Nat.le_of_ble_eq_true rfl) rfl ?_
  refine r_aload_n (pc' := 93) C dX9_order_92 rfl 1 rfl ?_
  refine r_iload_n (pc' := 94) C dX9_order_93 rfl 2 rfl ?_
  refine r_i2l (pc' := 95) C dX9_order_94 rfl rfl ?_
  obtain ⟨r18, e19, h⟩ := bd h
  refine r_cV0 (pc' := 98) C (X9_enters_ok  e19) mlX9_327 ceX9_enters cvX9_enters sh_149 rfl rfl rfl (Nat.le_of_ble_eq_true rfl) rfl (Nat.le_of_ble_eq_true rfl) dX9_order_95 rfl (kk := ?_)
  refine r_goto (tgt := 19) C dX9_order_98 rfl ?_
  refine r_sub [1, 0] rfl ?_
  exact hkr _ _ _ h Z C hE
def X9_order_l19 (N : Nat)    : Nat → Int32 → Sg → Option (Int32 × Sg)
  | 0, _, _ => none
  | n + 1, v1, σ =>
    if v1 = 0 then (some (gi σ 149 1, σ)) else (X9_order_l27 N (fun v1 v2 σ => X9_order_j84 N (fun v1 σ => X9_order_l19 N n v1 σ) v1 v2 σ) N v1 (-1) 0 σ)
set_option maxRecDepth 100000 in
set_option maxHeartbeats 4000000 in
theorem X9_order_l19_ok {E : Ev}  {N : Nat}    : ∀ (n : Nat) (v1 : Int32) (σ : Sg) (r : Int32 × Sg), X9_order_l19 N n v1 σ = some r → Gp E RX9 cX9_order (some .int) 4 6 SH0 r.2 (some (.int r.1)) σ 19 [(0, .ref 149), (1, .int v1)] [] := by
  intro n
  induction n with
  | zero => intro v1 σ r h; cases h
  | succ n ih =>
    intro v1 σ r h Z C hE
    unfold X9_order_l19 at h
    refine r_iload_n (pc' := 20) C dX9_order_19 rfl 1 rfl ?_
    refine r_if_eq (tgt := 101) (pc' := 23) C dX9_order_20 rfl rfl (fun c7 => ?_) (fun c7 => ?_)
    · rw [if_pos c7] at h
      refine r_aload_n (pc' := 102) C dX9_order_101 rfl 0 rfl ?_
      refine r_getI (pc' := 105) C flX9_15 sh_149 rfl dX9_order_102 rfl ?_
      have h := Option.some.inj h
      subst h
      exact r_ret C rfl dX9_order_105 hE
    · rw [if_neg c7] at h
      refine r_iconst (pc' := 24) C dX9_order_23 rfl kc_m1 ?_
      refine r_istore_n (pc' := 25) (lv2 := [(2, .int (-1)), (0, .ref 149), (1, .int v1)]) C dX9_order_24 rfl rfl (Nat.le_of_ble_eq_true rfl) rfl ?_
      refine r_iconst (pc' := 26) C dX9_order_25 rfl kc_0 ?_
      refine r_istore_n (pc' := 27) (lv2 := [(3, .int 0), (2, .int (-1)), (0, .ref 149), (1, .int v1)]) C dX9_order_26 rfl rfl (Nat.le_of_ble_eq_true rfl) rfl ?_
      refine r_sub [2, 3, 1, 0] rfl ?_
      exact X9_order_l27_ok  (fun _ _ _ _ h Z C hE => by exact X9_order_j84_ok  ih h Z C hE) N _ _ _ _ _ h Z C hE
def X9_order (N : Nat)   (σ : Sg) : Option (Int32 × Sg) :=
  bnS (wi σ 149 0 0) fun σ1 => (X9_here N 153 σ1).bind fun r3 => (bnS (wi σ1 149 1 0) fun σ5 => X9_order_l19 N N r3 σ5)
set_option maxRecDepth 100000 in
set_option maxHeartbeats 4000000 in
theorem X9_order_ok {E : Ev}  {N : Nat}  {σ : Sg} {r : Int32 × Sg} (h : X9_order N   σ = some r) : Cm E 6 yX9_order cX9_order 4 (some .int) [.ref 149] SH0 SH0 σ r.2 (some (.int r.1)) 0 0 := by
  refine Cm.intro (by decide +kernel) (Nat.le_of_ble_eq_true rfl) (fun _ h => by obtain ⟨_, _, _, _, _, _, h⟩ := h; exact h) (fun Z C hE => ?_)
  show Wm E Z 0 0 SH0 σ 0 [(0, .ref 149)] []
  unfold X9_order at h
  refine r_aload_n (pc' := 1) C dX9_order_0 rfl 0 rfl ?_
  refine r_iconst (pc' := 2) C dX9_order_1 rfl kc_0 ?_
  obtain ⟨σ1, e2, h⟩ := bs h
  refine r_putI (pc' := 5) (σ1 := σ1) C fpX9_3 sh_149 rfl rfl rfl dX9_order_2 rfl e2 ?_
  refine r_aload_n (pc' := 6) C dX9_order_5 rfl 0 rfl ?_
  refine r_aload_n (pc' := 7) C dX9_order_6 rfl 0 rfl ?_
  refine r_getR (pc' := 10) C flX9_34 sh_149 rfl dX9_order_7 rfl ?_
  obtain ⟨r3, e4, h⟩ := bd h
  refine r_cV1 (pc' := 13) C (X9_here_ok mac_153 e4) mlX9_307 ceX9_here cvX9_here sh_149 rfl rfl rfl (Nat.le_of_ble_eq_true rfl) rfl (Nat.le_of_ble_eq_true rfl) dX9_order_10 rfl (kk := ?_)
  refine r_istore_n (pc' := 14) (lv2 := [(1, .int r3), (0, .ref 149)]) C dX9_order_13 rfl rfl (Nat.le_of_ble_eq_true rfl) rfl ?_
  refine r_aload_n (pc' := 15) C dX9_order_14 rfl 1 rfl ?_
  refine r_iconst (pc' := 16) C dX9_order_15 rfl kc_0 ?_
  obtain ⟨σ5, e6, h⟩ := bs h
  refine r_putI (pc' := 19) (σ1 := σ5) C fpX9_15 sh_149 rfl rfl rfl dX9_order_16 rfl e6 ?_
  refine r_sub [1, 0] rfl ?_
  exact X9_order_l19_ok  N _ _ _ h Z C hE

/-! BorrowedWeightModel.pile(II)I -/
def X9_pile (N : Nat)  (v0 : Int32) (v1 : Int32) (σ : Sg) : Option (Int32) :=
  some ((21 * v0) + v1)
set_option maxRecDepth 100000 in
set_option maxHeartbeats 4000000 in
theorem X9_pile_ok {E : Ev}  {N : Nat} {v0 : Int32} {v1 : Int32} {σ : Sg} {r : Int32} (h : X9_pile N  v0 v1 σ = some r) : Cm E 0 yX9_pile cX9_pile 2 (some .int) [.int v0, .int v1] SH0 SH0 σ σ (some (.int r)) 0 0 := by
  refine Cm.intro (by decide +kernel) (Nat.le_of_ble_eq_true rfl) (fun _ h => by obtain ⟨_, _, _, _, _, _, h⟩ := h; exact h) (fun Z C hE => ?_)
  show Wm E Z 0 0 SH0 σ 0 [(0, .int v0), (1, .int v1)] []
  unfold X9_pile at h
  refine r_bipush (pc' := 2) C dX9_pile_0 rfl kb_21 ?_
  refine r_iload_n (pc' := 3) C dX9_pile_2 rfl 0 rfl ?_
  refine r_imul (pc' := 4) C dX9_pile_3 rfl ?_
  refine r_iload_n (pc' := 5) C dX9_pile_4 rfl 1 rfl ?_
  refine r_iadd (pc' := 6) C dX9_pile_5 rfl ?_
  have h := Option.some.inj h
  subst h
  exact r_ret C rfl dX9_pile_6 hE

/-! BorrowedWeightModel.isGood(IIII)Z -/
def X9_isGood (N : Nat)  (v1 : Int32) (v2 : Int32) (v3 : Int32) (v4 : Int32) (σ : Sg) : Option (Int32) :=
  if (v3 + v4) ≤ 0 then (some 0) else (if 3 ≤ (v3 + v4) then (some 0) else (if v1 < v3 then (some 0) else (if v2 < v4 then (some 0) else ((X9_pile N (v1 - v3) (v2 - v4) σ).bind fun r5 => (if inb r5 441 = true then if (gi σ 175 r5.toNatClampNeg) = 0 then (some 1) else (some 0) else none)))))
set_option maxRecDepth 100000 in
set_option maxHeartbeats 4000000 in
theorem X9_isGood_ok {E : Ev}  {N : Nat} {v1 : Int32} {v2 : Int32} {v3 : Int32} {v4 : Int32} {σ : Sg} {r : Int32} (h : X9_isGood N  v1 v2 v3 v4 σ = some r) : Cm E 1 yX9_isGood cX9_isGood 5 (some .boolean) [.ref 149, .int v1, .int v2, .int v3, .int v4] SH0 SH0 σ σ (some (.int r)) 0 0 := by
  refine Cm.intro (by decide +kernel) (Nat.le_of_ble_eq_true rfl) (fun _ h => by obtain ⟨_, _, _, _, _, _, h⟩ := h; exact h) (fun Z C hE => ?_)
  show Wm E Z 0 0 SH0 σ 0 [(0, .ref 149), (1, .int v1), (2, .int v2), (3, .int v3), (4, .int v4)] []
  unfold X9_isGood at h
  refine r_iload_n (pc' := 1) C dX9_isGood_0 rfl 3 rfl ?_
  refine r_iload (pc' := 3) C dX9_isGood_1 rfl 4 rfl ?_
  refine r_iadd (pc' := 4) C dX9_isGood_3 rfl ?_
  refine r_if_le (tgt := 48) (pc' := 7) C dX9_isGood_4 rfl rfl (fun c1 => ?_) (fun c1 => ?_)
  · rw [if_pos c1] at h
    refine r_iconst (pc' := 49) C dX9_isGood_48 rfl kc_0 ?_
    have h := Option.some.inj h
    subst h
    exact r_ret C rfl dX9_isGood_49 hE
  · rw [if_neg c1] at h
    refine r_iload_n (pc' := 8) C dX9_isGood_7 rfl 3 rfl ?_
    refine r_iload (pc' := 10) C dX9_isGood_8 rfl 4 rfl ?_
    refine r_iadd (pc' := 11) C dX9_isGood_10 rfl ?_
    refine r_iconst (pc' := 12) C dX9_isGood_11 rfl kc_3 ?_
    refine r_icmp_ge (tgt := 48) (pc' := 15) C dX9_isGood_12 rfl rfl (fun c2 => ?_) (fun c2 => ?_)
    · rw [if_pos c2] at h
      refine r_iconst (pc' := 49) C dX9_isGood_48 rfl kc_0 ?_
      have h := Option.some.inj h
      subst h
      exact r_ret C rfl dX9_isGood_49 hE
    · rw [if_neg c2] at h
      refine r_iload_n (pc' := 16) C dX9_isGood_15 rfl 3 rfl ?_
      refine r_iload_n (pc' := 17) C dX9_isGood_16 rfl 1 rfl ?_
      refine r_icmp_gt (tgt := 48) (pc' := 20) C dX9_isGood_17 rfl rfl (fun c3 => ?_) (fun c3 => ?_)
      · rw [if_pos c3] at h
        refine r_iconst (pc' := 49) C dX9_isGood_48 rfl kc_0 ?_
        have h := Option.some.inj h
        subst h
        exact r_ret C rfl dX9_isGood_49 hE
      · rw [if_neg c3] at h
        refine r_iload (pc' := 22) C dX9_isGood_20 rfl 4 rfl ?_
        refine r_iload_n (pc' := 23) C dX9_isGood_22 rfl 2 rfl ?_
        refine r_icmp_gt (tgt := 48) (pc' := 26) C dX9_isGood_23 rfl rfl (fun c4 => ?_) (fun c4 => ?_)
        · rw [if_pos c4] at h
          refine r_iconst (pc' := 49) C dX9_isGood_48 rfl kc_0 ?_
          have h := Option.some.inj h
          subst h
          exact r_ret C rfl dX9_isGood_49 hE
        · rw [if_neg c4] at h
          refine r_aload_n (pc' := 27) C dX9_isGood_26 rfl 0 rfl ?_
          refine r_getR (pc' := 30) C flX9_100 sh_149 rfl dX9_isGood_27 rfl ?_
          refine r_iload_n (pc' := 31) C dX9_isGood_30 rfl 1 rfl ?_
          refine r_iload_n (pc' := 32) C dX9_isGood_31 rfl 3 rfl ?_
          refine r_isub (pc' := 33) C dX9_isGood_32 rfl ?_
          refine r_iload_n (pc' := 34) C dX9_isGood_33 rfl 2 rfl ?_
          refine r_iload (pc' := 36) C dX9_isGood_34 rfl 4 rfl ?_
          refine r_isub (pc' := 37) C dX9_isGood_36 rfl ?_
          obtain ⟨r5, e6, h⟩ := bd h
          refine r_cS1 (pc' := 40) C (X9_pile_ok  e6) mlX9_403 ceX9_pile csX9_pile rfl (Nat.le_of_ble_eq_true rfl) rfl (Nat.le_of_ble_eq_true rfl) dX9_isGood_37 rfl (kk := ?_)
          obtain ⟨q7, h⟩ := ck h
          refine r_zald (pc' := 41) C sh_175 (vin q7) dX9_isGood_40 rfl ?_
          refine r_if_ne (tgt := 48) (pc' := 44) C dX9_isGood_41 rfl rfl (fun c8 => ?_) (fun c8 => ?_)
          · rw [if_neg c8] at h
            refine r_iconst (pc' := 49) C dX9_isGood_48 rfl kc_0 ?_
            have h := Option.some.inj h
            subst h
            exact r_ret C rfl dX9_isGood_49 hE
          · rw [if_pos c8] at h
            refine r_iconst (pc' := 45) C dX9_isGood_44 rfl kc_1 ?_
            refine r_goto (tgt := 49) C dX9_isGood_45 rfl ?_
            have h := Option.some.inj h
            subst h
            exact r_ret C rfl dX9_isGood_49 hE

/-! BorrowedWeightModel.run(II)I -/
def X9_run_l62 (N : Nat)  (k100 : Int32 → Int32 → Int32 → Int32 → Int32 → Int32 → Sg → Option (Int32 × Sg))  : Nat → Int32 → Int32 → Int32 → Int32 → Int32 → Int32 → Int32 → Sg → Option (Int32 × Sg)
  | 0, _, _, _, _, _, _, _, _ => none
  | n + 1, v1, v2, v3, v4, v5, v6, v7, σ =>
    if 3 ≤ v7 then (k100 v1 v2 v3 v4 v5 v6 σ) else (if v5 = 0 then ((X9_isGood N v3 v4 v6 v7 σ).bind fun r14 => (if r14 = 0 then (X9_run_l62 N k100 n v1 v2 v3 v4 0 v6 (v7 + 1) σ) else (X9_run_l62 N k100 n v1 v2 v3 v4 1 v6 (v7 + 1) σ))) else (X9_run_l62 N k100 n v1 v2 v3 v4 1 v6 (v7 + 1) σ))
set_option maxRecDepth 100000 in
set_option maxHeartbeats 4000000 in
theorem X9_run_l62_ok {E : Ev}  {N : Nat} {k100 : Int32 → Int32 → Int32 → Int32 → Int32 → Int32 → Sg → Option (Int32 × Sg)}  (hk100 : ∀ (v1 : Int32) (v2 : Int32) (v3 : Int32) (v4 : Int32) (v5 : Int32) (v6 : Int32) (σ : Sg) (r : Int32 × Sg), k100 v1 v2 v3 v4 v5 v6 σ = some r → Gp E RX9 cX9_run (some .int) 8 2 SH0 r.2 (some (.int r.1)) σ 100 [(0, .ref 149), (1, .int v1), (2, .int v2), (3, .int v3), (4, .int v4), (5, .int v5), (6, .int v6)] []) : ∀ (n : Nat) (v1 : Int32) (v2 : Int32) (v3 : Int32) (v4 : Int32) (v5 : Int32) (v6 : Int32) (v7 : Int32) (σ : Sg) (r : Int32 × Sg), X9_run_l62 N k100 n v1 v2 v3 v4 v5 v6 v7 σ = some r → Gp E RX9 cX9_run (some .int) 8 2 SH0 r.2 (some (.int r.1)) σ 62 [(0, .ref 149), (1, .int v1), (2, .int v2), (3, .int v3), (4, .int v4), (5, .int v5), (6, .int v6), (7, .int v7)] [] := by
  intro n
  induction n with
  | zero => intro v1 v2 v3 v4 v5 v6 v7 σ r h; cases h
  | succ n ih =>
    intro v1 v2 v3 v4 v5 v6 v7 σ r h Z C hE
    unfold X9_run_l62 at h
    refine r_iload (pc' := 64) C dX9_run_62 rfl 7 rfl ?_
    refine r_iconst (pc' := 65) C dX9_run_64 rfl kc_3 ?_
    refine r_icmp_ge (tgt := 100) (pc' := 68) C dX9_run_65 rfl rfl (fun c12 => ?_) (fun c12 => ?_)
    · rw [if_pos c12] at h
      refine r_sub [0, 1, 2, 3, 4, 5, 6] rfl ?_
      exact hk100 _ _ _ _ _ _ _ _ h Z C hE
    · rw [if_neg c12] at h
      refine r_iload (pc' := 70) C dX9_run_68 rfl 5 rfl ?_
      refine r_if_ne (tgt := 87) (pc' := 73) C dX9_run_70 rfl rfl (fun c13 => ?_) (fun c13 => ?_)
      · rw [if_neg c13] at h
        refine r_iconst (pc' := 88) C dX9_run_87 rfl kc_1 ?_
        refine r_goto (tgt := 92) C dX9_run_88 rfl ?_
        refine r_istore (pc' := 94) (lv2 := [(5, .int 1), (0, .ref 149), (1, .int v1), (2, .int v2), (3, .int v3), (4, .int v4), (6, .int v6), (7, .int v7)]) C dX9_run_92 rfl (Nat.le_of_ble_eq_true rfl) rfl ?_
        refine r_iinc (pc' := 97) (v := v7 + 1) (lv2 := [(7, .int (v7 + 1)), (5, .int 1), (0, .ref 149), (1, .int v1), (2, .int v2), (3, .int v3), (4, .int v4), (6, .int v6)]) C dX9_run_94 rfl 7 rfl rfl (Nat.le_of_ble_eq_true rfl) rfl ?_
        refine r_goto (tgt := 62) C dX9_run_97 rfl ?_
        refine r_sub [2, 3, 4, 5, 6, 1, 7, 0] rfl ?_
        exact ih _ _ _ _ _ _ _ _ _ h Z C hE
      · rw [if_pos c13] at h
        refine r_aload_n (pc' := 74) C dX9_run_73 rfl 0 rfl ?_
        refine r_iload_n (pc' := 75) C dX9_run_74 rfl 3 rfl ?_
        refine r_iload (pc' := 77) C dX9_run_75 rfl 4 rfl ?_
        refine r_iload (pc' := 79) C dX9_run_77 rfl 6 rfl ?_
        refine r_iload (pc' := 81) C dX9_run_79 rfl 7 rfl ?_
        obtain ⟨r14, e15, h⟩ := bd h
        refine r_cV1 (pc' := 84) C (X9_isGood_ok  e15) mlX9_406 ceX9_isGood cvX9_isGood sh_149 rfl rfl rfl (Nat.le_of_ble_eq_true rfl) rfl (Nat.le_of_ble_eq_true rfl) dX9_run_81 rfl (kk := ?_)
        refine r_if_eq (tgt := 91) (pc' := 87) C dX9_run_84 rfl rfl (fun c16 => ?_) (fun c16 => ?_)
        · rw [if_pos c16] at h
          refine r_iconst (pc' := 92) C dX9_run_91 rfl kc_0 ?_
          refine r_istore (pc' := 94) (lv2 := [(5, .int 0), (0, .ref 149), (1, .int v1), (2, .int v2), (3, .int v3), (4, .int v4), (6, .int v6), (7, .int v7)]) C dX9_run_92 rfl (Nat.le_of_ble_eq_true rfl) rfl ?_
          refine r_iinc (pc' := 97) (v := v7 + 1) (lv2 := [(7, .int (v7 + 1)), (5, .int 0), (0, .ref 149), (1, .int v1), (2, .int v2), (3, .int v3), (4, .int v4), (6, .int v6)]) C dX9_run_94 rfl 7 rfl rfl (Nat.le_of_ble_eq_true rfl) rfl ?_
          refine r_goto (tgt := 62) C dX9_run_97 rfl ?_
          refine r_sub [2, 3, 4, 5, 6, 1, 7, 0] rfl ?_
          exact ih _ _ _ _ _ _ _ _ _ h Z C hE
        · rw [if_neg c16] at h
          refine r_iconst (pc' := 88) C dX9_run_87 rfl kc_1 ?_
          refine r_goto (tgt := 92) C dX9_run_88 rfl ?_
          refine r_istore (pc' := 94) (lv2 := [(5, .int 1), (0, .ref 149), (1, .int v1), (2, .int v2), (3, .int v3), (4, .int v4), (6, .int v6), (7, .int v7)]) C dX9_run_92 rfl (Nat.le_of_ble_eq_true rfl) rfl ?_
          refine r_iinc (pc' := 97) (v := v7 + 1) (lv2 := [(7, .int (v7 + 1)), (5, .int 1), (0, .ref 149), (1, .int v1), (2, .int v2), (3, .int v3), (4, .int v4), (6, .int v6)]) C dX9_run_94 rfl 7 rfl rfl (Nat.le_of_ble_eq_true rfl) rfl ?_
          refine r_goto (tgt := 62) C dX9_run_97 rfl ?_
          refine r_sub [2, 3, 4, 5, 6, 1, 7, 0] rfl ?_
          exact ih _ _ _ _ _ _ _ _ _ h Z C hE
def X9_run_j100 (N : Nat)  (kr : Int32 → Int32 → Int32 → Int32 → Int32 → Int32 → Sg → Option (Int32 × Sg)) (v1 : Int32) (v2 : Int32) (v3 : Int32) (v4 : Int32) (v5 : Int32) (v6 : Int32) (σ : Sg) : Option (Int32 × Sg) :=
  kr v1 v2 v3 v4 v5 (v6 + 1) σ
set_option maxRecDepth 100000 in
set_option maxHeartbeats 4000000 in
theorem X9_run_j100_ok {E : Ev}  {N : Nat} {kr : Int32 → Int32 → Int32 → Int32 → Int32 → Int32 → Sg → Option (Int32 × Sg)}  (hkr : ∀ (v1 : Int32) (v2 : Int32) (v3 : Int32) (v4 : Int32) (v5 : Int32) (v6 : Int32) (σ : Sg) (r : Int32 × Sg), kr v1 v2 v3 v4 v5 v6 σ = some r → Gp E RX9 cX9_run (some .int) 8 2 SH0 r.2 (some (.int r.1)) σ 53 [(0, .ref 149), (1, .int v1), (2, .int v2), (3, .int v3), (4, .int v4), (5, .int v5), (6, .int v6)] []) {v1 : Int32} {v2 : Int32} {v3 : Int32} {v4 : Int32} {v5 : Int32} {v6 : Int32} {σ : Sg} {r : Int32 × Sg} (h : X9_run_j100 N  kr v1 v2 v3 v4 v5 v6 σ = some r) : Gp E RX9 cX9_run (some .int) 8 2 SH0 r.2 (some (.int r.1)) σ 100 [(0, .ref 149), (1, .int v1), (2, .int v2), (3, .int v3), (4, .int v4), (5, .int v5), (6, .int v6)] [] := by
  intro Z C hE
  unfold X9_run_j100 at h
  refine r_iinc (pc' := 103) (v := v6 + 1) (lv2 := [(6, .int (v6 + 1)), (0, .ref 149), (1, .int v1), (2, .int v2), (3, .int v3), (4, .int v4), (5, .int v5)]) C dX9_run_100 rfl 6 rfl rfl (Nat.le_of_ble_eq_true rfl) rfl ?_
  refine r_goto (tgt := 53) C dX9_run_103 rfl ?_
  refine r_sub [1, 2, 3, 4, 5, 6, 0] rfl ?_
  exact hkr _ _ _ _ _ _ _ _ h Z C hE
def X9_run_l53 (N : Nat)  (k106 : Int32 → Int32 → Int32 → Int32 → Int32 → Sg → Option (Int32 × Sg))  : Nat → Int32 → Int32 → Int32 → Int32 → Int32 → Int32 → Sg → Option (Int32 × Sg)
  | 0, _, _, _, _, _, _, _ => none
  | n + 1, v1, v2, v3, v4, v5, v6, σ =>
    if 3 ≤ v6 then (k106 v1 v2 v3 v4 v5 σ) else (X9_run_l62 N (fun v1 v2 v3 v4 v5 v6 σ => X9_run_j100 N (fun v1 v2 v3 v4 v5 v6 σ => X9_run_l53 N k106 n v1 v2 v3 v4 v5 v6 σ) v1 v2 v3 v4 v5 v6 σ) N v1 v2 v3 v4 v5 v6 0 σ)
set_option maxRecDepth 100000 in
set_option maxHeartbeats 4000000 in
theorem X9_run_l53_ok {E : Ev}  {N : Nat} {k106 : Int32 → Int32 → Int32 → Int32 → Int32 → Sg → Option (Int32 × Sg)}  (hk106 : ∀ (v1 : Int32) (v2 : Int32) (v3 : Int32) (v4 : Int32) (v5 : Int32) (σ : Sg) (r : Int32 × Sg), k106 v1 v2 v3 v4 v5 σ = some r → Gp E RX9 cX9_run (some .int) 8 2 SH0 r.2 (some (.int r.1)) σ 106 [(0, .ref 149), (1, .int v1), (2, .int v2), (3, .int v3), (4, .int v4), (5, .int v5)] []) : ∀ (n : Nat) (v1 : Int32) (v2 : Int32) (v3 : Int32) (v4 : Int32) (v5 : Int32) (v6 : Int32) (σ : Sg) (r : Int32 × Sg), X9_run_l53 N k106 n v1 v2 v3 v4 v5 v6 σ = some r → Gp E RX9 cX9_run (some .int) 8 2 SH0 r.2 (some (.int r.1)) σ 53 [(0, .ref 149), (1, .int v1), (2, .int v2), (3, .int v3), (4, .int v4), (5, .int v5), (6, .int v6)] [] := by
  intro n
  induction n with
  | zero => intro v1 v2 v3 v4 v5 v6 σ r h; cases h
  | succ n ih =>
    intro v1 v2 v3 v4 v5 v6 σ r h Z C hE
    unfold X9_run_l53 at h
    refine r_iload (pc' := 55) C dX9_run_53 rfl 6 rfl ?_
    refine r_iconst (pc' := 56) C dX9_run_55 rfl kc_3 ?_
    refine r_icmp_ge (tgt := 106) (pc' := 59) C dX9_run_56 rfl rfl (fun c11 => ?_) (fun c11 => ?_)
    · rw [if_pos c11] at h
      refine r_sub [0, 1, 2, 3, 4, 5] rfl ?_
      exact hk106 _ _ _ _ _ _ _ h Z C hE
    · rw [if_neg c11] at h
      refine r_iconst (pc' := 60) C dX9_run_59 rfl kc_0 ?_
      refine r_istore (pc' := 62) (lv2 := [(7, .int 0), (0, .ref 149), (1, .int v1), (2, .int v2), (3, .int v3), (4, .int v4), (5, .int v5), (6, .int v6)]) C dX9_run_60 rfl (Nat.le_of_ble_eq_true rfl) rfl ?_
      refine r_sub [1, 2, 3, 4, 5, 6, 7, 0] rfl ?_
      exact X9_run_l62_ok  (fun _ _ _ _ _ _ _ _ h Z C hE => by exact X9_run_j100_ok  ih h Z C hE) N _ _ _ _ _ _ _ _ _ h Z C hE
def X9_run_j106 (N : Nat)  (kr : Int32 → Int32 → Int32 → Int32 → Sg → Option (Int32 × Sg)) (v1 : Int32) (v2 : Int32) (v3 : Int32) (v4 : Int32) (v5 : Int32) (σ : Sg) : Option (Int32 × Sg) :=
  (X9_pile N v3 v4 σ).bind fun r17 => (if inb r17 441 = true then bnS (wi σ 175 r17.toNatClampNeg (vp_nar .boolean v5)) fun σ20 => kr v1 v2 v3 (v4 + 1) σ20 else none)
set_option maxRecDepth 100000 in
set_option maxHeartbeats 4000000 in
theorem X9_run_j106_ok {E : Ev}  {N : Nat} {kr : Int32 → Int32 → Int32 → Int32 → Sg → Option (Int32 × Sg)}  (hkr : ∀ (v1 : Int32) (v2 : Int32) (v3 : Int32) (v4 : Int32) (σ : Sg) (r : Int32 × Sg), kr v1 v2 v3 v4 σ = some r → Gp E RX9 cX9_run (some .int) 8 2 SH0 r.2 (some (.int r.1)) σ 41 [(0, .ref 149), (1, .int v1), (2, .int v2), (3, .int v3), (4, .int v4)] []) {v1 : Int32} {v2 : Int32} {v3 : Int32} {v4 : Int32} {v5 : Int32} {σ : Sg} {r : Int32 × Sg} (h : X9_run_j106 N  kr v1 v2 v3 v4 v5 σ = some r) : Gp E RX9 cX9_run (some .int) 8 2 SH0 r.2 (some (.int r.1)) σ 106 [(0, .ref 149), (1, .int v1), (2, .int v2), (3, .int v3), (4, .int v4), (5, .int v5)] [] := by
  intro Z C hE
  unfold X9_run_j106 at h
  refine r_aload_n (pc' := 107) C dX9_run_106 rfl 0 rfl ?_
  refine r_getR (pc' := 110) C flX9_100 sh_149 rfl dX9_run_107 rfl ?_
  refine r_iload_n (pc' := 111) C dX9_run_110 rfl 3 rfl ?_
  refine r_iload (pc' := 113) C dX9_run_111 rfl 4 rfl ?_
  obtain ⟨r17, e18, h⟩ := bd h
  refine r_cS1 (pc' := 116) C (X9_pile_ok  e18) mlX9_403 ceX9_pile csX9_pile rfl (Nat.le_of_ble_eq_true rfl) rfl (Nat.le_of_ble_eq_true rfl) dX9_run_113 rfl (kk := ?_)
  refine r_iload (pc' := 118) C dX9_run_116 rfl 5 rfl ?_
  obtain ⟨q19, h⟩ := ck h
  obtain ⟨σ20, e21, h⟩ := bs h
  refine r_zast (pc' := 119) (σ1 := σ20) C sh_175 (vin q19) dX9_run_118 rfl e21 ?_
  refine r_iinc (pc' := 122) (v := v4 + 1) (lv2 := [(4, .int (v4 + 1)), (0, .ref 149), (1, .int v1), (2, .int v2), (3, .int v3), (5, .int v5)]) C dX9_run_119 rfl 4 rfl rfl (Nat.le_of_ble_eq_true rfl) rfl ?_
  refine r_goto (tgt := 41) C dX9_run_122 rfl ?_
  refine r_sub [1, 2, 3, 4, 0] rfl ?_
  exact hkr _ _ _ _ _ _ h Z C hE
def X9_run_l41 (N : Nat)  (k125 : Int32 → Int32 → Int32 → Sg → Option (Int32 × Sg))  : Nat → Int32 → Int32 → Int32 → Int32 → Sg → Option (Int32 × Sg)
  | 0, _, _, _, _, _ => none
  | n + 1, v1, v2, v3, v4, σ =>
    if v2 < v4 then (k125 v1 v2 v3 σ) else (X9_run_l53 N (fun v1 v2 v3 v4 v5 σ => X9_run_j106 N (fun v1 v2 v3 v4 σ => X9_run_l41 N k125 n v1 v2 v3 v4 σ) v1 v2 v3 v4 v5 σ) N v1 v2 v3 v4 0 0 σ)
set_option maxRecDepth 100000 in
set_option maxHeartbeats 4000000 in
theorem X9_run_l41_ok {E : Ev}  {N : Nat} {k125 : Int32 → Int32 → Int32 → Sg → Option (Int32 × Sg)}  (hk125 : ∀ (v1 : Int32) (v2 : Int32) (v3 : Int32) (σ : Sg) (r : Int32 × Sg), k125 v1 v2 v3 σ = some r → Gp E RX9 cX9_run (some .int) 8 2 SH0 r.2 (some (.int r.1)) σ 125 [(0, .ref 149), (1, .int v1), (2, .int v2), (3, .int v3)] []) : ∀ (n : Nat) (v1 : Int32) (v2 : Int32) (v3 : Int32) (v4 : Int32) (σ : Sg) (r : Int32 × Sg), X9_run_l41 N k125 n v1 v2 v3 v4 σ = some r → Gp E RX9 cX9_run (some .int) 8 2 SH0 r.2 (some (.int r.1)) σ 41 [(0, .ref 149), (1, .int v1), (2, .int v2), (3, .int v3), (4, .int v4)] [] := by
  intro n
  induction n with
  | zero => intro v1 v2 v3 v4 σ r h; cases h
  | succ n ih =>
    intro v1 v2 v3 v4 σ r h Z C hE
    unfold X9_run_l41 at h
    refine r_iload (pc' := 43) C dX9_run_41 rfl 4 rfl ?_
    refine r_iload_n (pc' := 44) C dX9_run_43 rfl 2 rfl ?_
    refine r_icmp_gt (tgt := 125) (pc' := 47) C dX9_run_44 rfl rfl (fun c10 => ?_) (fun c10 => ?_)
    · rw [if_pos c10] at h
      refine r_sub [0, 1, 2, 3] rfl ?_
      exact hk125 _ _ _ _ _ h Z C hE
    · rw [if_neg c10] at h
      refine r_iconst (pc' := 48) C dX9_run_47 rfl kc_0 ?_
      refine r_istore (pc' := 50) (lv2 := [(5, .int 0), (0, .ref 149), (1, .int v1), (2, .int v2), (3, .int v3), (4, .int v4)]) C dX9_run_48 rfl (Nat.le_of_ble_eq_true rfl) rfl ?_
      refine r_iconst (pc' := 51) C dX9_run_50 rfl kc_0 ?_
      refine r_istore (pc' := 53) (lv2 := [(6, .int 0), (5, .int 0), (0, .ref 149), (1, .int v1), (2, .int v2), (3, .int v3), (4, .int v4)]) C dX9_run_51 rfl (Nat.le_of_ble_eq_true rfl) rfl ?_
      refine r_sub [2, 3, 4, 5, 6, 1, 0] rfl ?_
      exact X9_run_l53_ok  (fun _ _ _ _ _ _ _ h Z C hE => by exact X9_run_j106_ok  ih h Z C hE) N _ _ _ _ _ _ _ _ h Z C hE
def X9_run_j125 (N : Nat)  (kr : Int32 → Int32 → Int32 → Sg → Option (Int32 × Sg)) (v1 : Int32) (v2 : Int32) (v3 : Int32) (σ : Sg) : Option (Int32 × Sg) :=
  kr v1 v2 (v3 + 1) σ
set_option maxRecDepth 100000 in
set_option maxHeartbeats 4000000 in
theorem X9_run_j125_ok {E : Ev}  {N : Nat} {kr : Int32 → Int32 → Int32 → Sg → Option (Int32 × Sg)}  (hkr : ∀ (v1 : Int32) (v2 : Int32) (v3 : Int32) (σ : Sg) (r : Int32 × Sg), kr v1 v2 v3 σ = some r → Gp E RX9 cX9_run (some .int) 8 2 SH0 r.2 (some (.int r.1)) σ 33 [(0, .ref 149), (1, .int v1), (2, .int v2), (3, .int v3)] []) {v1 : Int32} {v2 : Int32} {v3 : Int32} {σ : Sg} {r : Int32 × Sg} (h : X9_run_j125 N  kr v1 v2 v3 σ = some r) : Gp E RX9 cX9_run (some .int) 8 2 SH0 r.2 (some (.int r.1)) σ 125 [(0, .ref 149), (1, .int v1), (2, .int v2), (3, .int v3)] [] := by
  intro Z C hE
  unfold X9_run_j125 at h
  refine r_iinc (pc' := 128) (v := v3 + 1) (lv2 := [(3, .int (v3 + 1)), (0, .ref 149), (1, .int v1), (2, .int v2)]) C dX9_run_125 rfl 3 rfl rfl (Nat.le_of_ble_eq_true rfl) rfl ?_
  refine r_goto (tgt := 33) C dX9_run_128 rfl ?_
  refine r_sub [1, 2, 3, 0] rfl ?_
  exact hkr _ _ _ _ _ h Z C hE
def X9_run_l33 (N : Nat)  (k131 : Int32 → Int32 → Sg → Option (Int32 × Sg))  : Nat → Int32 → Int32 → Int32 → Sg → Option (Int32 × Sg)
  | 0, _, _, _, _ => none
  | n + 1, v1, v2, v3, σ =>
    if v1 < v3 then (k131 v1 v2 σ) else (X9_run_l41 N (fun v1 v2 v3 σ => X9_run_j125 N (fun v1 v2 v3 σ => X9_run_l33 N k131 n v1 v2 v3 σ) v1 v2 v3 σ) N v1 v2 v3 0 σ)
set_option maxRecDepth 100000 in
set_option maxHeartbeats 4000000 in
theorem X9_run_l33_ok {E : Ev}  {N : Nat} {k131 : Int32 → Int32 → Sg → Option (Int32 × Sg)}  (hk131 : ∀ (v1 : Int32) (v2 : Int32) (σ : Sg) (r : Int32 × Sg), k131 v1 v2 σ = some r → Gp E RX9 cX9_run (some .int) 8 2 SH0 r.2 (some (.int r.1)) σ 131 [(0, .ref 149), (1, .int v1), (2, .int v2)] []) : ∀ (n : Nat) (v1 : Int32) (v2 : Int32) (v3 : Int32) (σ : Sg) (r : Int32 × Sg), X9_run_l33 N k131 n v1 v2 v3 σ = some r → Gp E RX9 cX9_run (some .int) 8 2 SH0 r.2 (some (.int r.1)) σ 33 [(0, .ref 149), (1, .int v1), (2, .int v2), (3, .int v3)] [] := by
  intro n
  induction n with
  | zero => intro v1 v2 v3 σ r h; cases h
  | succ n ih =>
    intro v1 v2 v3 σ r h Z C hE
    unfold X9_run_l33 at h
    refine r_iload_n (pc' := 34) C dX9_run_33 rfl 3 rfl ?_
    refine r_iload_n (pc' := 35) C dX9_run_34 rfl 1 rfl ?_
    refine r_icmp_gt (tgt := 131) (pc' := 38) C dX9_run_35 rfl rfl (fun c9 => ?_) (fun c9 => ?_)
    · rw [if_pos c9] at h
      refine r_sub [0, 1, 2] rfl ?_
      exact hk131 _ _ _ _ h Z C hE
    · rw [if_neg c9] at h
      refine r_iconst (pc' := 39) C dX9_run_38 rfl kc_0 ?_
      refine r_istore (pc' := 41) (lv2 := [(4, .int 0), (0, .ref 149), (1, .int v1), (2, .int v2), (3, .int v3)]) C dX9_run_39 rfl (Nat.le_of_ble_eq_true rfl) rfl ?_
      refine r_sub [1, 2, 3, 4, 0] rfl ?_
      exact X9_run_l41_ok  (fun _ _ _ _ _ h Z C hE => by exact X9_run_j125_ok  ih h Z C hE) N _ _ _ _ _ _ h Z C hE
def X9_run_l146 (N : Nat)  (k190 : Int32 → Int32 → Int32 → Sg → Option (Int32 × Sg))  : Nat → Int32 → Int32 → Int32 → Int32 → Sg → Option (Int32 × Sg)
  | 0, _, _, _, _, _ => none
  | n + 1, v1, v2, v3, v4, σ =>
    if 3 ≤ v4 then (k190 v1 v2 v3 σ) else (if (gi σ 149 1) = 0 then ((X9_isGood N v1 v2 v3 v4 σ).bind fun r27 => (if r27 = 0 then (X9_run_l146 N k190 n v1 v2 v3 (v4 + 1) σ) else ((X9_enters N v3.toInt64 σ).bind fun r30 => ((X9_enters N v4.toInt64 r30).bind fun r32 => (X9_run_l146 N k190 n v1 v2 v3 (v4 + 1) r32))))) else (X9_run_l146 N k190 n v1 v2 v3 (v4 + 1) σ))
set_option maxRecDepth 100000 in
set_option maxHeartbeats 4000000 in
theorem X9_run_l146_ok {E : Ev}  {N : Nat} {k190 : Int32 → Int32 → Int32 → Sg → Option (Int32 × Sg)}  (hk190 : ∀ (v1 : Int32) (v2 : Int32) (v3 : Int32) (σ : Sg) (r : Int32 × Sg), k190 v1 v2 v3 σ = some r → Gp E RX9 cX9_run (some .int) 8 2 SH0 r.2 (some (.int r.1)) σ 190 [(0, .ref 149), (1, .int v1), (2, .int v2), (3, .int v3)] []) : ∀ (n : Nat) (v1 : Int32) (v2 : Int32) (v3 : Int32) (v4 : Int32) (σ : Sg) (r : Int32 × Sg), X9_run_l146 N k190 n v1 v2 v3 v4 σ = some r → Gp E RX9 cX9_run (some .int) 8 2 SH0 r.2 (some (.int r.1)) σ 146 [(0, .ref 149), (1, .int v1), (2, .int v2), (3, .int v3), (4, .int v4)] [] := by
  intro n
  induction n with
  | zero => intro v1 v2 v3 v4 σ r h; cases h
  | succ n ih =>
    intro v1 v2 v3 v4 σ r h Z C hE
    unfold X9_run_l146 at h
    refine r_iload (pc' := 148) C dX9_run_146 rfl 4 rfl ?_
    refine r_iconst (pc' := 149) C dX9_run_148 rfl kc_3 ?_
    refine r_icmp_ge (tgt := 190) (pc' := 152) C dX9_run_149 rfl rfl (fun c25 => ?_) (fun c25 => ?_)
    · rw [if_pos c25] at h
      refine r_sub [0, 1, 2, 3] rfl ?_
      exact hk190 _ _ _ _ _ h Z C hE
    · rw [if_neg c25] at h
      refine r_aload_n (pc' := 153) C dX9_run_152 rfl 0 rfl ?_
      refine r_getI (pc' := 156) C flX9_15 sh_149 rfl dX9_run_153 rfl ?_
      refine r_if_ne (tgt := 184) (pc' := 159) C dX9_run_156 rfl rfl (fun c26 => ?_) (fun c26 => ?_)
      · rw [if_neg c26] at h
        refine r_iinc (pc' := 187) (v := v4 + 1) (lv2 := [(4, .int (v4 + 1)), (0, .ref 149), (1, .int v1), (2, .int v2), (3, .int v3)]) C dX9_run_184 rfl 4 rfl rfl (Nat.le_of_ble_eq_true rfl) rfl ?_
        refine r_goto (tgt := 146) C dX9_run_187 rfl ?_
        refine r_sub [1, 2, 3, 4, 0] rfl ?_
        exact ih _ _ _ _ _ _ h Z C hE
      · rw [if_pos c26] at h
        refine r_aload_n (pc' := 160) C dX9_run_159 rfl 0 rfl ?_
        refine r_iload_n (pc' := 161) C dX9_run_160 rfl 1 rfl ?_
        refine r_iload_n (pc' := 162) C dX9_run_161 rfl 2 rfl ?_
        refine r_iload_n (pc' := 163) C dX9_run_162 rfl 3 rfl ?_
        refine r_iload (pc' := 165) C dX9_run_163 rfl 4 rfl ?_
        obtain ⟨r27, e28, h⟩ := bd h
        refine r_cV1 (pc' := 168) C (X9_isGood_ok  e28) mlX9_406 ceX9_isGood cvX9_isGood sh_149 rfl rfl rfl (Nat.le_of_ble_eq_true rfl) rfl (Nat.le_of_ble_eq_true rfl) dX9_run_165 rfl (kk := ?_)
        refine r_if_eq (tgt := 184) (pc' := 171) C dX9_run_168 rfl rfl (fun c29 => ?_) (fun c29 => ?_)
        · rw [if_pos c29] at h
          refine r_iinc (pc' := 187) (v := v4 + 1) (lv2 := [(4, .int (v4 + 1)), (0, .ref 149), (1, .int v1), (2, .int v2), (3, .int v3)]) C dX9_run_184 rfl 4 rfl rfl (Nat.le_of_ble_eq_true rfl) rfl ?_
          refine r_goto (tgt := 146) C dX9_run_187 rfl ?_
          refine r_sub [1, 2, 3, 4, 0] rfl ?_
          exact ih _ _ _ _ _ _ h Z C hE
        · rw [if_neg c29] at h
          refine r_aload_n (pc' := 172) C dX9_run_171 rfl 0 rfl ?_
          refine r_iload_n (pc' := 173) C dX9_run_172 rfl 3 rfl ?_
          refine r_i2l (pc' := 174) C dX9_run_173 rfl rfl ?_
          obtain ⟨r30, e31, h⟩ := bd h
          refine r_cV0 (pc' := 177) C (X9_enters_ok  e31) mlX9_327 ceX9_enters cvX9_enters sh_149 rfl rfl rfl (Nat.le_of_ble_eq_true rfl) rfl (Nat.le_of_ble_eq_true rfl) dX9_run_174 rfl (kk := ?_)
          refine r_aload_n (pc' := 178) C dX9_run_177 rfl 0 rfl ?_
          refine r_iload (pc' := 180) C dX9_run_178 rfl 4 rfl ?_
          refine r_i2l (pc' := 181) C dX9_run_180 rfl rfl ?_
          obtain ⟨r32, e33, h⟩ := bd h
          refine r_cV0 (pc' := 184) C (X9_enters_ok  e33) mlX9_327 ceX9_enters cvX9_enters sh_149 rfl rfl rfl (Nat.le_of_ble_eq_true rfl) rfl (Nat.le_of_ble_eq_true rfl) dX9_run_181 rfl (kk := ?_)
          refine r_iinc (pc' := 187) (v := v4 + 1) (lv2 := [(4, .int (v4 + 1)), (0, .ref 149), (1, .int v1), (2, .int v2), (3, .int v3)]) C dX9_run_184 rfl 4 rfl rfl (Nat.le_of_ble_eq_true rfl) rfl ?_
          refine r_goto (tgt := 146) C dX9_run_187 rfl ?_
          refine r_sub [1, 2, 3, 4, 0] rfl ?_
          exact ih _ _ _ _ _ _ h Z C hE
def X9_run_j190 (N : Nat)  (kr : Int32 → Int32 → Int32 → Sg → Option (Int32 × Sg)) (v1 : Int32) (v2 : Int32) (v3 : Int32) (σ : Sg) : Option (Int32 × Sg) :=
  kr v1 v2 (v3 + 1) σ
set_option maxRecDepth 100000 in
set_option maxHeartbeats 4000000 in
theorem X9_run_j190_ok {E : Ev}  {N : Nat} {kr : Int32 → Int32 → Int32 → Sg → Option (Int32 × Sg)}  (hkr : ∀ (v1 : Int32) (v2 : Int32) (v3 : Int32) (σ : Sg) (r : Int32 × Sg), kr v1 v2 v3 σ = some r → Gp E RX9 cX9_run (some .int) 8 2 SH0 r.2 (some (.int r.1)) σ 138 [(0, .ref 149), (1, .int v1), (2, .int v2), (3, .int v3)] []) {v1 : Int32} {v2 : Int32} {v3 : Int32} {σ : Sg} {r : Int32 × Sg} (h : X9_run_j190 N  kr v1 v2 v3 σ = some r) : Gp E RX9 cX9_run (some .int) 8 2 SH0 r.2 (some (.int r.1)) σ 190 [(0, .ref 149), (1, .int v1), (2, .int v2), (3, .int v3)] [] := by
  intro Z C hE
  unfold X9_run_j190 at h
  refine r_iinc (pc' := 193) (v := v3 + 1) (lv2 := [(3, .int (v3 + 1)), (0, .ref 149), (1, .int v1), (2, .int v2)]) C dX9_run_190 rfl 3 rfl rfl (Nat.le_of_ble_eq_true rfl) rfl ?_
  refine r_goto (tgt := 138) C dX9_run_193 rfl ?_
  refine r_sub [1, 2, 3, 0] rfl ?_
  exact hkr _ _ _ _ _ h Z C hE
def X9_run_l138 (N : Nat)  (k196 : Sg → Option (Int32 × Sg))  : Nat → Int32 → Int32 → Int32 → Sg → Option (Int32 × Sg)
  | 0, _, _, _, _ => none
  | n + 1, v1, v2, v3, σ =>
    if 3 ≤ v3 then (k196 σ) else (X9_run_l146 N (fun v1 v2 v3 σ => X9_run_j190 N (fun v1 v2 v3 σ => X9_run_l138 N k196 n v1 v2 v3 σ) v1 v2 v3 σ) N v1 v2 v3 0 σ)
set_option maxRecDepth 100000 in
set_option maxHeartbeats 4000000 in
theorem X9_run_l138_ok {E : Ev}  {N : Nat} {k196 : Sg → Option (Int32 × Sg)}  (hk196 : ∀ (σ : Sg) (r : Int32 × Sg), k196 σ = some r → Gp E RX9 cX9_run (some .int) 8 2 SH0 r.2 (some (.int r.1)) σ 196 [(0, .ref 149)] []) : ∀ (n : Nat) (v1 : Int32) (v2 : Int32) (v3 : Int32) (σ : Sg) (r : Int32 × Sg), X9_run_l138 N k196 n v1 v2 v3 σ = some r → Gp E RX9 cX9_run (some .int) 8 2 SH0 r.2 (some (.int r.1)) σ 138 [(0, .ref 149), (1, .int v1), (2, .int v2), (3, .int v3)] [] := by
  intro n
  induction n with
  | zero => intro v1 v2 v3 σ r h; cases h
  | succ n ih =>
    intro v1 v2 v3 σ r h Z C hE
    unfold X9_run_l138 at h
    refine r_iload_n (pc' := 139) C dX9_run_138 rfl 3 rfl ?_
    refine r_iconst (pc' := 140) C dX9_run_139 rfl kc_3 ?_
    refine r_icmp_ge (tgt := 196) (pc' := 143) C dX9_run_140 rfl rfl (fun c24 => ?_) (fun c24 => ?_)
    · rw [if_pos c24] at h
      refine r_sub [0] rfl ?_
      exact hk196 _ _ h Z C hE
    · rw [if_neg c24] at h
      refine r_iconst (pc' := 144) C dX9_run_143 rfl kc_0 ?_
      refine r_istore (pc' := 146) (lv2 := [(4, .int 0), (0, .ref 149), (1, .int v1), (2, .int v2), (3, .int v3)]) C dX9_run_144 rfl (Nat.le_of_ble_eq_true rfl) rfl ?_
      refine r_sub [1, 2, 3, 4, 0] rfl ?_
      exact X9_run_l146_ok  (fun _ _ _ _ _ h Z C hE => by exact X9_run_j190_ok  ih h Z C hE) N _ _ _ _ _ _ h Z C hE
def X9_run_j196 (N : Nat)    (σ : Sg) : Option (Int32 × Sg) :=
  if (gi σ 149 1) ≤ 0 then ((X9_flag N 0 σ).bind fun r35 => (some (r35, σ))) else ((X9_flag N 1 σ).bind fun r37 => (some (r37, σ)))
set_option maxRecDepth 100000 in
set_option maxHeartbeats 4000000 in
theorem X9_run_j196_ok {E : Ev}  {N : Nat}     {σ : Sg} {r : Int32 × Sg} (h : X9_run_j196 N    σ = some r) : Gp E RX9 cX9_run (some .int) 8 2 SH0 r.2 (some (.int r.1)) σ 196 [(0, .ref 149)] [] := by
  intro Z C hE
  unfold X9_run_j196 at h
  refine r_aload_n (pc' := 197) C dX9_run_196 rfl 0 rfl ?_
  refine r_getI (pc' := 200) C flX9_15 sh_149 rfl dX9_run_197 rfl ?_
  refine r_if_le (tgt := 207) (pc' := 203) C dX9_run_200 rfl rfl (fun c34 => ?_) (fun c34 => ?_)
  · rw [if_pos c34] at h
    refine r_iconst (pc' := 208) C dX9_run_207 rfl kc_0 ?_
    obtain ⟨r35, e36, h⟩ := bd h
    refine r_cS1 (pc' := 211) C (X9_flag_ok  e36) mlX9_159 ceX9_flag csX9_flag rfl (Nat.le_of_ble_eq_true rfl) rfl (Nat.le_of_ble_eq_true rfl) dX9_run_208 rfl (kk := ?_)
    have h := Option.some.inj h
    subst h
    exact r_ret C rfl dX9_run_211 hE
  · rw [if_neg c34] at h
    refine r_iconst (pc' := 204) C dX9_run_203 rfl kc_1 ?_
    refine r_goto (tgt := 208) C dX9_run_204 rfl ?_
    obtain ⟨r37, e38, h⟩ := bd h
    refine r_cS1 (pc' := 211) C (X9_flag_ok  e38) mlX9_159 ceX9_flag csX9_flag rfl (Nat.le_of_ble_eq_true rfl) rfl (Nat.le_of_ble_eq_true rfl) dX9_run_208 rfl (kk := ?_)
    have h := Option.some.inj h
    subst h
    exact r_ret C rfl dX9_run_211 hE
def X9_run_j131 (N : Nat)   (v1 : Int32) (v2 : Int32) (σ : Sg) : Option (Int32 × Sg) :=
  bnS (wi σ 149 1 0) fun σ22 => X9_run_l138 N (fun σ => X9_run_j196 N σ) N v1 v2 0 σ22
set_option maxRecDepth 100000 in
set_option maxHeartbeats 4000000 in
theorem X9_run_j131_ok {E : Ev}  {N : Nat}    {v1 : Int32} {v2 : Int32} {σ : Sg} {r : Int32 × Sg} (h : X9_run_j131 N   v1 v2 σ = some r) : Gp E RX9 cX9_run (some .int) 8 2 SH0 r.2 (some (.int r.1)) σ 131 [(0, .ref 149), (1, .int v1), (2, .int v2)] [] := by
  intro Z C hE
  unfold X9_run_j131 at h
  refine r_aload_n (pc' := 132) C dX9_run_131 rfl 0 rfl ?_
  refine r_iconst (pc' := 133) C dX9_run_132 rfl kc_0 ?_
  obtain ⟨σ22, e23, h⟩ := bs h
  refine r_putI (pc' := 136) (σ1 := σ22) C fpX9_15 sh_149 rfl rfl rfl dX9_run_133 rfl e23 ?_
  refine r_iconst (pc' := 137) C dX9_run_136 rfl kc_0 ?_
  refine r_istore_n (pc' := 138) (lv2 := [(3, .int 0), (0, .ref 149), (1, .int v1), (2, .int v2)]) C dX9_run_137 rfl rfl (Nat.le_of_ble_eq_true rfl) rfl ?_
  refine r_sub [1, 2, 3, 0] rfl ?_
  exact X9_run_l138_ok  (fun _ _ h Z C hE => by exact X9_run_j196_ok  h Z C hE) N _ _ _ _ _ h Z C hE
def X9_run (N : Nat)  (v1 : Int32) (v2 : Int32) (σ : Sg) : Option (Int32 × Sg) :=
  bnS (wi σ 149 0 0) fun σ1 => (X9_in N v1.toInt64 0 20 σ1).bind fun r3 => (if r3 = 0 then (some ((-1), σ1)) else ((X9_in N v2.toInt64 0 20 σ1).bind fun r6 => (if r6 = 0 then (some ((-1), σ1)) else (X9_run_l33 N (fun v1 v2 σ => X9_run_j131 N v1 v2 σ) N v1 v2 0 σ1))))
set_option maxRecDepth 100000 in
set_option maxHeartbeats 4000000 in
theorem X9_run_ok {E : Ev}  {N : Nat} {v1 : Int32} {v2 : Int32} {σ : Sg} {r : Int32 × Sg} (h : X9_run N  v1 v2 σ = some r) : Cm E 2 yX9_run cX9_run 8 (some .int) [.ref 149, .int v1, .int v2] SH0 SH0 σ r.2 (some (.int r.1)) 0 0 := by
  refine Cm.intro (by decide +kernel) (Nat.le_of_ble_eq_true rfl) (fun _ h => by obtain ⟨_, _, _, _, _, _, h⟩ := h; exact h) (fun Z C hE => ?_)
  show Wm E Z 0 0 SH0 σ 0 [(0, .ref 149), (1, .int v1), (2, .int v2)] []
  unfold X9_run at h
  refine r_aload_n (pc' := 1) C dX9_run_0 rfl 0 rfl ?_
  refine r_iconst (pc' := 2) C dX9_run_1 rfl kc_0 ?_
  obtain ⟨σ1, e2, h⟩ := bs h
  refine r_putI (pc' := 5) (σ1 := σ1) C fpX9_3 sh_149 rfl rfl rfl dX9_run_2 rfl e2 ?_
  refine r_iload_n (pc' := 6) C dX9_run_5 rfl 1 rfl ?_
  refine r_i2l (pc' := 7) C dX9_run_6 rfl rfl ?_
  refine r_lconst (pc' := 8) C dX9_run_7 rfl kl_0 ?_
  refine r_ldc2 (pc' := 11) C cnX9_379 dX9_run_8 rfl ?_
  obtain ⟨r3, e4, h⟩ := bd h
  refine r_cS1 (pc' := 14) C (X9_in_ok  e4) mlX9_119 ceX9_in csX9_in rfl (Nat.le_of_ble_eq_true rfl) rfl (Nat.le_of_ble_eq_true rfl) dX9_run_11 rfl (kk := ?_)
  refine r_if_eq (tgt := 29) (pc' := 17) C dX9_run_14 rfl rfl (fun c5 => ?_) (fun c5 => ?_)
  · rw [if_pos c5] at h
    refine r_iconst (pc' := 30) C dX9_run_29 rfl kc_m1 ?_
    have h := Option.some.inj h
    subst h
    exact r_ret C rfl dX9_run_30 hE
  · rw [if_neg c5] at h
    refine r_iload_n (pc' := 18) C dX9_run_17 rfl 2 rfl ?_
    refine r_i2l (pc' := 19) C dX9_run_18 rfl rfl ?_
    refine r_lconst (pc' := 20) C dX9_run_19 rfl kl_0 ?_
    refine r_ldc2 (pc' := 23) C cnX9_379 dX9_run_20 rfl ?_
    obtain ⟨r6, e7, h⟩ := bd h
    refine r_cS1 (pc' := 26) C (X9_in_ok  e7) mlX9_119 ceX9_in csX9_in rfl (Nat.le_of_ble_eq_true rfl) rfl (Nat.le_of_ble_eq_true rfl) dX9_run_23 rfl (kk := ?_)
    refine r_if_ne (tgt := 31) (pc' := 29) C dX9_run_26 rfl rfl (fun c8 => ?_) (fun c8 => ?_)
    · rw [if_neg c8] at h
      refine r_iconst (pc' := 32) C dX9_run_31 rfl kc_0 ?_
      refine r_istore_n (pc' := 33) (lv2 := [(3, .int 0), (0, .ref 149), (1, .int v1), (2, .int v2)]) C dX9_run_32 rfl rfl (Nat.le_of_ble_eq_true rfl) rfl ?_
      refine r_sub [1, 2, 3, 0] rfl ?_
      exact X9_run_l33_ok  (fun _ _ _ _ h Z C hE => by exact X9_run_j131_ok  h Z C hE) N _ _ _ _ _ h Z C hE
    · rw [if_pos c8] at h
      refine r_iconst (pc' := 30) C dX9_run_29 rfl kc_m1 ?_
      have h := Option.some.inj h
      subst h
      exact r_ret C rfl dX9_run_30 hE

/-! BorrowedWeightModel.gets(III)I -/
def X9_gets (N : Nat)  (v0 : Int32) (v1 : Int32) (v2 : Int32) (σ : Sg) : Option (Int32) :=
  if v0 ≤ v1 then (if v0 = v1 then (some (v2 / 3)) else (some 0)) else (some (v2 - ((v0 + v1) / 2)))
set_option maxRecDepth 100000 in
set_option maxHeartbeats 4000000 in
theorem X9_gets_ok {E : Ev}  {N : Nat} {v0 : Int32} {v1 : Int32} {v2 : Int32} {σ : Sg} {r : Int32} (h : X9_gets N  v0 v1 v2 σ = some r) : Cm E 0 yX9_gets cX9_gets 3 (some .int) [.int v0, .int v1, .int v2] SH0 SH0 σ σ (some (.int r)) 0 0 := by
  refine Cm.intro (by decide +kernel) (Nat.le_of_ble_eq_true rfl) (fun _ h => by obtain ⟨_, _, _, _, _, _, h⟩ := h; exact h) (fun Z C hE => ?_)
  show Wm E Z 0 0 SH0 σ 0 [(0, .int v0), (1, .int v1), (2, .int v2)] []
  unfold X9_gets at h
  refine r_iload_n (pc' := 1) C dX9_gets_0 rfl 0 rfl ?_
  refine r_iload_n (pc' := 2) C dX9_gets_1 rfl 1 rfl ?_
  refine r_icmp_le (tgt := 15) (pc' := 5) C dX9_gets_2 rfl rfl (fun c1 => ?_) (fun c1 => ?_)
  · rw [if_pos c1] at h
    refine r_iload_n (pc' := 16) C dX9_gets_15 rfl 0 rfl ?_
    refine r_iload_n (pc' := 17) C dX9_gets_16 rfl 1 rfl ?_
    refine r_icmp_ne (tgt := 26) (pc' := 20) C dX9_gets_17 rfl rfl (fun c2 => ?_) (fun c2 => ?_)
    · rw [if_neg c2] at h
      refine r_iconst (pc' := 27) C dX9_gets_26 rfl kc_0 ?_
      have h := Option.some.inj h
      subst h
      exact r_ret C rfl dX9_gets_27 hE
    · rw [if_pos c2] at h
      refine r_iload_n (pc' := 21) C dX9_gets_20 rfl 2 rfl ?_
      refine r_iconst (pc' := 22) C dX9_gets_21 rfl kc_3 ?_
      refine r_idiv (pc' := 23) C dX9_gets_22 rfl (by decide) ?_
      refine r_goto (tgt := 27) C dX9_gets_23 rfl ?_
      have h := Option.some.inj h
      subst h
      exact r_ret C rfl dX9_gets_27 hE
  · rw [if_neg c1] at h
    refine r_iload_n (pc' := 6) C dX9_gets_5 rfl 2 rfl ?_
    refine r_iload_n (pc' := 7) C dX9_gets_6 rfl 0 rfl ?_
    refine r_iload_n (pc' := 8) C dX9_gets_7 rfl 1 rfl ?_
    refine r_iadd (pc' := 9) C dX9_gets_8 rfl ?_
    refine r_iconst (pc' := 10) C dX9_gets_9 rfl kc_2 ?_
    refine r_idiv (pc' := 11) C dX9_gets_10 rfl (by decide) ?_
    refine r_isub (pc' := 12) C dX9_gets_11 rfl ?_
    refine r_goto (tgt := 27) C dX9_gets_12 rfl ?_
    have h := Option.some.inj h
    subst h
    exact r_ret C rfl dX9_gets_27 hE

/-! BorrowedWeightModel.isRest(III)Z -/
def X9_isRest_l5 (N : Nat)   (σ : Sg) : Nat → Int32 → Int32 → Int32 → Int32 → Int32 → Option (Int32)
  | 0, _, _, _, _, _ => none
  | n + 1, v0, v1, v2, v3, v4 =>
    if 9 < v4 then (if isB v3 = true then some v3 else none) else (if v3 = 0 then (X9_isRest_l5 N σ n v0 v1 v2 0 (v4 + 1)) else ((X9_gets N v4 v1 v2 σ).bind fun r4 => ((X9_gets N v0 v1 v2 σ).bind fun r6 => (if r6 < r4 then (X9_isRest_l5 N σ n v0 v1 v2 0 (v4 + 1)) else (X9_isRest_l5 N σ n v0 v1 v2 1 (v4 + 1))))))
set_option maxRecDepth 100000 in
set_option maxHeartbeats 4000000 in
theorem X9_isRest_l5_ok {E : Ev}  {N : Nat}  {σ : Sg}  : ∀ (n : Nat) (v0 : Int32) (v1 : Int32) (v2 : Int32) (v3 : Int32) (v4 : Int32) (r : Int32), X9_isRest_l5 N σ n v0 v1 v2 v3 v4 = some r → Gp E RX9 cX9_isRest (some .boolean) 5 1 SH0 σ (some (.int r)) σ 5 [(0, .int v0), (1, .int v1), (2, .int v2), (3, .int v3), (4, .int v4)] [] := by
  intro n
  induction n with
  | zero => intro v0 v1 v2 v3 v4 r h; cases h
  | succ n ih =>
    intro v0 v1 v2 v3 v4 r h Z C hE
    unfold X9_isRest_l5 at h
    refine r_iload (pc' := 7) C dX9_isRest_5 rfl 4 rfl ?_
    refine r_bipush (pc' := 9) C dX9_isRest_7 rfl kb_9 ?_
    refine r_icmp_gt (tgt := 44) (pc' := 12) C dX9_isRest_9 rfl rfl (fun c1 => ?_) (fun c1 => ?_)
    · rw [if_pos c1] at h
      refine r_iload_n (pc' := 45) C dX9_isRest_44 rfl 3 rfl ?_
      obtain ⟨q2, h⟩ := ck h
      have h := Option.some.inj h
      subst h
      exact r_ret C (nisB q2) dX9_isRest_45 hE
    · rw [if_neg c1] at h
      refine r_iload_n (pc' := 13) C dX9_isRest_12 rfl 3 rfl ?_
      refine r_if_eq (tgt := 36) (pc' := 16) C dX9_isRest_13 rfl rfl (fun c3 => ?_) (fun c3 => ?_)
      · rw [if_pos c3] at h
        refine r_iconst (pc' := 37) C dX9_isRest_36 rfl kc_0 ?_
        refine r_istore_n (pc' := 38) (lv2 := [(3, .int 0), (0, .int v0), (1, .int v1), (2, .int v2), (4, .int v4)]) C dX9_isRest_37 rfl rfl (Nat.le_of_ble_eq_true rfl) rfl ?_
        refine r_iinc (pc' := 41) (v := v4 + 1) (lv2 := [(4, .int (v4 + 1)), (3, .int 0), (0, .int v0), (1, .int v1), (2, .int v2)]) C dX9_isRest_38 rfl 4 rfl rfl (Nat.le_of_ble_eq_true rfl) rfl ?_
        refine r_goto (tgt := 5) C dX9_isRest_41 rfl ?_
        refine r_sub [2, 3, 4, 1, 0] rfl ?_
        exact ih _ _ _ _ _ _ h Z C hE
      · rw [if_neg c3] at h
        refine r_iload (pc' := 18) C dX9_isRest_16 rfl 4 rfl ?_
        refine r_iload_n (pc' := 19) C dX9_isRest_18 rfl 1 rfl ?_
        refine r_iload_n (pc' := 20) C dX9_isRest_19 rfl 2 rfl ?_
        obtain ⟨r4, e5, h⟩ := bd h
        refine r_cS1 (pc' := 23) C (X9_gets_ok  e5) mlX9_410 ceX9_gets csX9_gets rfl (Nat.le_of_ble_eq_true rfl) rfl (Nat.le_of_ble_eq_true rfl) dX9_isRest_20 rfl (kk := ?_)
        refine r_iload_n (pc' := 24) C dX9_isRest_23 rfl 0 rfl ?_
        refine r_iload_n (pc' := 25) C dX9_isRest_24 rfl 1 rfl ?_
        refine r_iload_n (pc' := 26) C dX9_isRest_25 rfl 2 rfl ?_
        obtain ⟨r6, e7, h⟩ := bd h
        refine r_cS1 (pc' := 29) C (X9_gets_ok  e7) mlX9_410 ceX9_gets csX9_gets rfl (Nat.le_of_ble_eq_true rfl) rfl (Nat.le_of_ble_eq_true rfl) dX9_isRest_26 rfl (kk := ?_)
        refine r_icmp_gt (tgt := 36) (pc' := 32) C dX9_isRest_29 rfl rfl (fun c8 => ?_) (fun c8 => ?_)
        · rw [if_pos c8] at h
          refine r_iconst (pc' := 37) C dX9_isRest_36 rfl kc_0 ?_
          refine r_istore_n (pc' := 38) (lv2 := [(3, .int 0), (0, .int v0), (1, .int v1), (2, .int v2), (4, .int v4)]) C dX9_isRest_37 rfl rfl (Nat.le_of_ble_eq_true rfl) rfl ?_
          refine r_iinc (pc' := 41) (v := v4 + 1) (lv2 := [(4, .int (v4 + 1)), (3, .int 0), (0, .int v0), (1, .int v1), (2, .int v2)]) C dX9_isRest_38 rfl 4 rfl rfl (Nat.le_of_ble_eq_true rfl) rfl ?_
          refine r_goto (tgt := 5) C dX9_isRest_41 rfl ?_
          refine r_sub [2, 3, 4, 1, 0] rfl ?_
          exact ih _ _ _ _ _ _ h Z C hE
        · rw [if_neg c8] at h
          refine r_iconst (pc' := 33) C dX9_isRest_32 rfl kc_1 ?_
          refine r_goto (tgt := 37) C dX9_isRest_33 rfl ?_
          refine r_istore_n (pc' := 38) (lv2 := [(3, .int 1), (0, .int v0), (1, .int v1), (2, .int v2), (4, .int v4)]) C dX9_isRest_37 rfl rfl (Nat.le_of_ble_eq_true rfl) rfl ?_
          refine r_iinc (pc' := 41) (v := v4 + 1) (lv2 := [(4, .int (v4 + 1)), (3, .int 1), (0, .int v0), (1, .int v1), (2, .int v2)]) C dX9_isRest_38 rfl 4 rfl rfl (Nat.le_of_ble_eq_true rfl) rfl ?_
          refine r_goto (tgt := 5) C dX9_isRest_41 rfl ?_
          refine r_sub [2, 3, 4, 1, 0] rfl ?_
          exact ih _ _ _ _ _ _ h Z C hE
def X9_isRest (N : Nat)  (v0 : Int32) (v1 : Int32) (v2 : Int32) (σ : Sg) : Option (Int32) :=
  X9_isRest_l5 N σ N v0 v1 v2 1 0
set_option maxRecDepth 100000 in
set_option maxHeartbeats 4000000 in
theorem X9_isRest_ok {E : Ev}  {N : Nat} {v0 : Int32} {v1 : Int32} {v2 : Int32} {σ : Sg} {r : Int32} (h : X9_isRest N  v0 v1 v2 σ = some r) : Cm E 1 yX9_isRest cX9_isRest 5 (some .boolean) [.int v0, .int v1, .int v2] SH0 SH0 σ σ (some (.int r)) 0 0 := by
  refine Cm.intro (by decide +kernel) (Nat.le_of_ble_eq_true rfl) (fun _ h => by obtain ⟨_, _, _, _, _, _, h⟩ := h; exact h) (fun Z C hE => ?_)
  show Wm E Z 0 0 SH0 σ 0 [(0, .int v0), (1, .int v1), (2, .int v2)] []
  unfold X9_isRest at h
  refine r_iconst (pc' := 1) C dX9_isRest_0 rfl kc_1 ?_
  refine r_istore_n (pc' := 2) (lv2 := [(3, .int 1), (0, .int v0), (1, .int v1), (2, .int v2)]) C dX9_isRest_1 rfl rfl (Nat.le_of_ble_eq_true rfl) rfl ?_
  refine r_iconst (pc' := 3) C dX9_isRest_2 rfl kc_0 ?_
  refine r_istore (pc' := 5) (lv2 := [(4, .int 0), (3, .int 1), (0, .int v0), (1, .int v1), (2, .int v2)]) C dX9_isRest_3 rfl (Nat.le_of_ble_eq_true rfl) rfl ?_
  refine r_sub [2, 3, 4, 1, 0] rfl ?_
  exact X9_isRest_l5_ok  N _ _ _ _ _ _ h Z C hE

/-! BorrowedWeightModel.rests(I)I -/
def X9_rests_l37 (N : Nat)  (k90 : Int32 → Int32 → Int32 → Sg → Option (Int32 × Sg))  : Nat → Int32 → Int32 → Int32 → Int32 → Sg → Option (Int32 × Sg)
  | 0, _, _, _, _, _ => none
  | n + 1, v1, v2, v3, v4, σ =>
    if 9 < v4 then (k90 v1 v2 v3 σ) else ((X9_isRest N v3 v4 v1 σ).bind fun r10 => (if r10 = 0 then (X9_rests_l37 N k90 n v1 v2 v3 (v4 + 1) σ) else ((X9_isRest N v4 v3 v1 σ).bind fun r13 => (if r13 = 0 then (X9_rests_l37 N k90 n v1 v2 v3 (v4 + 1) σ) else (if v2 = 0 then ((X9_enters N v3.toInt64 σ).bind fun r17 => ((X9_enters N v4.toInt64 r17).bind fun r19 => (X9_rests_l37 N k90 n v1 (v2 + 1) v3 (v4 + 1) r19))) else (X9_rests_l37 N k90 n v1 (v2 + 1) v3 (v4 + 1) σ))))))
set_option maxRecDepth 100000 in
set_option maxHeartbeats 4000000 in
theorem X9_rests_l37_ok {E : Ev}  {N : Nat} {k90 : Int32 → Int32 → Int32 → Sg → Option (Int32 × Sg)}  (hk90 : ∀ (v1 : Int32) (v2 : Int32) (v3 : Int32) (σ : Sg) (r : Int32 × Sg), k90 v1 v2 v3 σ = some r → Gp E RX9 cX9_rests (some .int) 5 2 SH0 r.2 (some (.int r.1)) σ 90 [(0, .ref 149), (1, .int v1), (2, .int v2), (3, .int v3)] []) : ∀ (n : Nat) (v1 : Int32) (v2 : Int32) (v3 : Int32) (v4 : Int32) (σ : Sg) (r : Int32 × Sg), X9_rests_l37 N k90 n v1 v2 v3 v4 σ = some r → Gp E RX9 cX9_rests (some .int) 5 2 SH0 r.2 (some (.int r.1)) σ 37 [(0, .ref 149), (1, .int v1), (2, .int v2), (3, .int v3), (4, .int v4)] [] := by
  intro n
  induction n with
  | zero => intro v1 v2 v3 v4 σ r h; cases h
  | succ n ih =>
    intro v1 v2 v3 v4 σ r h Z C hE
    unfold X9_rests_l37 at h
    refine r_iload (pc' := 39) C dX9_rests_37 rfl 4 rfl ?_
    refine r_bipush (pc' := 41) C dX9_rests_39 rfl kb_9 ?_
    refine r_icmp_gt (tgt := 90) (pc' := 44) C dX9_rests_41 rfl rfl (fun c9 => ?_) (fun c9 => ?_)
    · rw [if_pos c9] at h
      refine r_sub [0, 1, 2, 3] rfl ?_
      exact hk90 _ _ _ _ _ h Z C hE
    · rw [if_neg c9] at h
      refine r_iload_n (pc' := 45) C dX9_rests_44 rfl 3 rfl ?_
      refine r_iload (pc' := 47) C dX9_rests_45 rfl 4 rfl ?_
      refine r_iload_n (pc' := 48) C dX9_rests_47 rfl 1 rfl ?_
      obtain ⟨r10, e11, h⟩ := bd h
      refine r_cS1 (pc' := 51) C (X9_isRest_ok  e11) mlX9_413 ceX9_isRest csX9_isRest rfl (Nat.le_of_ble_eq_true rfl) rfl (Nat.le_of_ble_eq_true rfl) dX9_rests_48 rfl (kk := ?_)
      refine r_if_eq (tgt := 84) (pc' := 54) C dX9_rests_51 rfl rfl (fun c12 => ?_) (fun c12 => ?_)
      · rw [if_pos c12] at h
        refine r_iinc (pc' := 87) (v := v4 + 1) (lv2 := [(4, .int (v4 + 1)), (0, .ref 149), (1, .int v1), (2, .int v2), (3, .int v3)]) C dX9_rests_84 rfl 4 rfl rfl (Nat.le_of_ble_eq_true rfl) rfl ?_
        refine r_goto (tgt := 37) C dX9_rests_87 rfl ?_
        refine r_sub [1, 2, 3, 4, 0] rfl ?_
        exact ih _ _ _ _ _ _ h Z C hE
      · rw [if_neg c12] at h
        refine r_iload (pc' := 56) C dX9_rests_54 rfl 4 rfl ?_
        refine r_iload_n (pc' := 57) C dX9_rests_56 rfl 3 rfl ?_
        refine r_iload_n (pc' := 58) C dX9_rests_57 rfl 1 rfl ?_
        obtain ⟨r13, e14, h⟩ := bd h
        refine r_cS1 (pc' := 61) C (X9_isRest_ok  e14) mlX9_413 ceX9_isRest csX9_isRest rfl (Nat.le_of_ble_eq_true rfl) rfl (Nat.le_of_ble_eq_true rfl) dX9_rests_58 rfl (kk := ?_)
        refine r_if_eq (tgt := 84) (pc' := 64) C dX9_rests_61 rfl rfl (fun c15 => ?_) (fun c15 => ?_)
        · rw [if_pos c15] at h
          refine r_iinc (pc' := 87) (v := v4 + 1) (lv2 := [(4, .int (v4 + 1)), (0, .ref 149), (1, .int v1), (2, .int v2), (3, .int v3)]) C dX9_rests_84 rfl 4 rfl rfl (Nat.le_of_ble_eq_true rfl) rfl ?_
          refine r_goto (tgt := 37) C dX9_rests_87 rfl ?_
          refine r_sub [1, 2, 3, 4, 0] rfl ?_
          exact ih _ _ _ _ _ _ h Z C hE
        · rw [if_neg c15] at h
          refine r_iload_n (pc' := 65) C dX9_rests_64 rfl 2 rfl ?_
          refine r_if_ne (tgt := 81) (pc' := 68) C dX9_rests_65 rfl rfl (fun c16 => ?_) (fun c16 => ?_)
          · rw [if_neg c16] at h
            refine r_iinc (pc' := 84) (v := v2 + 1) (lv2 := [(2, .int (v2 + 1)), (0, .ref 149), (1, .int v1), (3, .int v3), (4, .int v4)]) C dX9_rests_81 rfl 2 rfl rfl (Nat.le_of_ble_eq_true rfl) rfl ?_
            refine r_iinc (pc' := 87) (v := v4 + 1) (lv2 := [(4, .int (v4 + 1)), (2, .int (v2 + 1)), (0, .ref 149), (1, .int v1), (3, .int v3)]) C dX9_rests_84 rfl 4 rfl rfl (Nat.le_of_ble_eq_true rfl) rfl ?_
            refine r_goto (tgt := 37) C dX9_rests_87 rfl ?_
            refine r_sub [2, 3, 1, 4, 0] rfl ?_
            exact ih _ _ _ _ _ _ h Z C hE
          · rw [if_pos c16] at h
            refine r_aload_n (pc' := 69) C dX9_rests_68 rfl 0 rfl ?_
            refine r_iload_n (pc' := 70) C dX9_rests_69 rfl 3 rfl ?_
            refine r_i2l (pc' := 71) C dX9_rests_70 rfl rfl ?_
            obtain ⟨r17, e18, h⟩ := bd h
            refine r_cV0 (pc' := 74) C (X9_enters_ok  e18) mlX9_327 ceX9_enters cvX9_enters sh_149 rfl rfl rfl (Nat.le_of_ble_eq_true rfl) rfl (Nat.le_of_ble_eq_true rfl) dX9_rests_71 rfl (kk := ?_)
            refine r_aload_n (pc' := 75) C dX9_rests_74 rfl 0 rfl ?_
            refine r_iload (pc' := 77) C dX9_rests_75 rfl 4 rfl ?_
            refine r_i2l (pc' := 78) C dX9_rests_77 rfl rfl ?_
            obtain ⟨r19, e20, h⟩ := bd h
            refine r_cV0 (pc' := 81) C (X9_enters_ok  e20) mlX9_327 ceX9_enters cvX9_enters sh_149 rfl rfl rfl (Nat.le_of_ble_eq_true rfl) rfl (Nat.le_of_ble_eq_true rfl) dX9_rests_78 rfl (kk := ?_)
            refine r_iinc (pc' := 84) (v := v2 + 1) (lv2 := [(2, .int (v2 + 1)), (0, .ref 149), (1, .int v1), (3, .int v3), (4, .int v4)]) C dX9_rests_81 rfl 2 rfl rfl (Nat.le_of_ble_eq_true rfl) rfl ?_
            refine r_iinc (pc' := 87) (v := v4 + 1) (lv2 := [(4, .int (v4 + 1)), (2, .int (v2 + 1)), (0, .ref 149), (1, .int v1), (3, .int v3)]) C dX9_rests_84 rfl 4 rfl rfl (Nat.le_of_ble_eq_true rfl) rfl ?_
            refine r_goto (tgt := 37) C dX9_rests_87 rfl ?_
            refine r_sub [2, 3, 1, 4, 0] rfl ?_
            exact ih _ _ _ _ _ _ h Z C hE
def X9_rests_j90 (N : Nat)  (kr : Int32 → Int32 → Int32 → Sg → Option (Int32 × Sg)) (v1 : Int32) (v2 : Int32) (v3 : Int32) (σ : Sg) : Option (Int32 × Sg) :=
  kr v1 v2 (v3 + 1) σ
set_option maxRecDepth 100000 in
set_option maxHeartbeats 4000000 in
theorem X9_rests_j90_ok {E : Ev}  {N : Nat} {kr : Int32 → Int32 → Int32 → Sg → Option (Int32 × Sg)}  (hkr : ∀ (v1 : Int32) (v2 : Int32) (v3 : Int32) (σ : Sg) (r : Int32 × Sg), kr v1 v2 v3 σ = some r → Gp E RX9 cX9_rests (some .int) 5 2 SH0 r.2 (some (.int r.1)) σ 28 [(0, .ref 149), (1, .int v1), (2, .int v2), (3, .int v3)] []) {v1 : Int32} {v2 : Int32} {v3 : Int32} {σ : Sg} {r : Int32 × Sg} (h : X9_rests_j90 N  kr v1 v2 v3 σ = some r) : Gp E RX9 cX9_rests (some .int) 5 2 SH0 r.2 (some (.int r.1)) σ 90 [(0, .ref 149), (1, .int v1), (2, .int v2), (3, .int v3)] [] := by
  intro Z C hE
  unfold X9_rests_j90 at h
  refine r_iinc (pc' := 93) (v := v3 + 1) (lv2 := [(3, .int (v3 + 1)), (0, .ref 149), (1, .int v1), (2, .int v2)]) C dX9_rests_90 rfl 3 rfl rfl (Nat.le_of_ble_eq_true rfl) rfl ?_
  refine r_goto (tgt := 28) C dX9_rests_93 rfl ?_
  refine r_sub [1, 2, 3, 0] rfl ?_
  exact hkr _ _ _ _ _ h Z C hE
def X9_rests_l28 (N : Nat)    : Nat → Int32 → Int32 → Int32 → Sg → Option (Int32 × Sg)
  | 0, _, _, _, _ => none
  | n + 1, v1, v2, v3, σ =>
    if 9 < v3 then (some (v2, σ)) else (X9_rests_l37 N (fun v1 v2 v3 σ => X9_rests_j90 N (fun v1 v2 v3 σ => X9_rests_l28 N n v1 v2 v3 σ) v1 v2 v3 σ) N v1 v2 v3 0 σ)
set_option maxRecDepth 100000 in
set_option maxHeartbeats 4000000 in
theorem X9_rests_l28_ok {E : Ev}  {N : Nat}    : ∀ (n : Nat) (v1 : Int32) (v2 : Int32) (v3 : Int32) (σ : Sg) (r : Int32 × Sg), X9_rests_l28 N n v1 v2 v3 σ = some r → Gp E RX9 cX9_rests (some .int) 5 2 SH0 r.2 (some (.int r.1)) σ 28 [(0, .ref 149), (1, .int v1), (2, .int v2), (3, .int v3)] [] := by
  intro n
  induction n with
  | zero => intro v1 v2 v3 σ r h; cases h
  | succ n ih =>
    intro v1 v2 v3 σ r h Z C hE
    unfold X9_rests_l28 at h
    refine r_iload_n (pc' := 29) C dX9_rests_28 rfl 3 rfl ?_
    refine r_bipush (pc' := 31) C dX9_rests_29 rfl kb_9 ?_
    refine r_icmp_gt (tgt := 96) (pc' := 34) C dX9_rests_31 rfl rfl (fun c8 => ?_) (fun c8 => ?_)
    · rw [if_pos c8] at h
      refine r_iload_n (pc' := 97) C dX9_rests_96 rfl 2 rfl ?_
      have h := Option.some.inj h
      subst h
      exact r_ret C rfl dX9_rests_97 hE
    · rw [if_neg c8] at h
      refine r_iconst (pc' := 35) C dX9_rests_34 rfl kc_0 ?_
      refine r_istore (pc' := 37) (lv2 := [(4, .int 0), (0, .ref 149), (1, .int v1), (2, .int v2), (3, .int v3)]) C dX9_rests_35 rfl (Nat.le_of_ble_eq_true rfl) rfl ?_
      refine r_sub [1, 2, 3, 4, 0] rfl ?_
      exact X9_rests_l37_ok  (fun _ _ _ _ _ h Z C hE => by exact X9_rests_j90_ok  ih h Z C hE) N _ _ _ _ _ _ h Z C hE
def X9_rests (N : Nat)  (v1 : Int32) (σ : Sg) : Option (Int32 × Sg) :=
  bnS (wi σ 149 0 0) fun σ1 => (X9_in N v1.toInt64 0 20 σ1).bind fun r3 => (if r3 = 0 then (some ((-1), σ1)) else (bnS (wi σ1 149 1 0) fun σ6 => X9_rests_l28 N N v1 0 0 σ6))
set_option maxRecDepth 100000 in
set_option maxHeartbeats 4000000 in
theorem X9_rests_ok {E : Ev}  {N : Nat} {v1 : Int32} {σ : Sg} {r : Int32 × Sg} (h : X9_rests N  v1 σ = some r) : Cm E 2 yX9_rests cX9_rests 5 (some .int) [.ref 149, .int v1] SH0 SH0 σ r.2 (some (.int r.1)) 0 0 := by
  refine Cm.intro (by decide +kernel) (Nat.le_of_ble_eq_true rfl) (fun _ h => by obtain ⟨_, _, _, _, _, _, h⟩ := h; exact h) (fun Z C hE => ?_)
  show Wm E Z 0 0 SH0 σ 0 [(0, .ref 149), (1, .int v1)] []
  unfold X9_rests at h
  refine r_aload_n (pc' := 1) C dX9_rests_0 rfl 0 rfl ?_
  refine r_iconst (pc' := 2) C dX9_rests_1 rfl kc_0 ?_
  obtain ⟨σ1, e2, h⟩ := bs h
  refine r_putI (pc' := 5) (σ1 := σ1) C fpX9_3 sh_149 rfl rfl rfl dX9_rests_2 rfl e2 ?_
  refine r_iload_n (pc' := 6) C dX9_rests_5 rfl 1 rfl ?_
  refine r_i2l (pc' := 7) C dX9_rests_6 rfl rfl ?_
  refine r_lconst (pc' := 8) C dX9_rests_7 rfl kl_0 ?_
  refine r_ldc2 (pc' := 11) C cnX9_379 dX9_rests_8 rfl ?_
  obtain ⟨r3, e4, h⟩ := bd h
  refine r_cS1 (pc' := 14) C (X9_in_ok  e4) mlX9_119 ceX9_in csX9_in rfl (Nat.le_of_ble_eq_true rfl) rfl (Nat.le_of_ble_eq_true rfl) dX9_rests_11 rfl (kk := ?_)
  refine r_if_ne (tgt := 19) (pc' := 17) C dX9_rests_14 rfl rfl (fun c5 => ?_) (fun c5 => ?_)
  · rw [if_neg c5] at h
    refine r_iconst (pc' := 20) C dX9_rests_19 rfl kc_0 ?_
    refine r_istore_n (pc' := 21) (lv2 := [(2, .int 0), (0, .ref 149), (1, .int v1)]) C dX9_rests_20 rfl rfl (Nat.le_of_ble_eq_true rfl) rfl ?_
    refine r_aload_n (pc' := 22) C dX9_rests_21 rfl 1 rfl ?_
    refine r_iconst (pc' := 23) C dX9_rests_22 rfl kc_0 ?_
    obtain ⟨σ6, e7, h⟩ := bs h
    refine r_putI (pc' := 26) (σ1 := σ6) C fpX9_15 sh_149 rfl rfl rfl dX9_rests_23 rfl e7 ?_
    refine r_iconst (pc' := 27) C dX9_rests_26 rfl kc_0 ?_
    refine r_istore_n (pc' := 28) (lv2 := [(3, .int 0), (2, .int 0), (0, .ref 149), (1, .int v1)]) C dX9_rests_27 rfl rfl (Nat.le_of_ble_eq_true rfl) rfl ?_
    refine r_sub [2, 3, 1, 0] rfl ?_
    exact X9_rests_l28_ok  N _ _ _ _ _ h Z C hE
  · rw [if_pos c5] at h
    refine r_iconst (pc' := 18) C dX9_rests_17 rfl kc_m1 ?_
    have h := Option.some.inj h
    subst h
    exact r_ret C rfl dX9_rests_18 hE

/-! BorrowedWeightModel.draws(I)I -/
def X9_draws (N : Nat)  (v1 : Int32) (σ : Sg) : Option (Int32 × Sg) :=
  bnS (wi σ 149 44 (((gi σ 149 44) * 1103515245) + 12345)) fun σ1 => if v1 = 0 then none else some ((ushr (gi σ1 149 44) 16) - (ushr (gi σ1 149 44) 16) / v1 * v1, σ1)
set_option maxRecDepth 100000 in
set_option maxHeartbeats 4000000 in
theorem X9_draws_ok {E : Ev}  {N : Nat} {v1 : Int32} {σ : Sg} {r : Int32 × Sg} (h : X9_draws N  v1 σ = some r) : Cm E 0 yX9_draws cX9_draws 2 (some .int) [.ref 149, .int v1] SH0 SH0 σ r.2 (some (.int r.1)) 0 0 := by
  refine Cm.intro (by decide +kernel) (Nat.le_of_ble_eq_true rfl) (fun _ h => by obtain ⟨_, _, _, _, _, _, h⟩ := h; exact h) (fun Z C hE => ?_)
  show Wm E Z 0 0 SH0 σ 0 [(0, .ref 149), (1, .int v1)] []
  unfold X9_draws at h
  refine r_aload_n (pc' := 1) C dX9_draws_0 rfl 0 rfl ?_
  refine r_aload_n (pc' := 2) C dX9_draws_1 rfl 0 rfl ?_
  refine r_getI (pc' := 5) C flX9_417 sh_149 rfl dX9_draws_2 rfl ?_
  refine r_ldcw (pc' := 8) C cnX9_420 dX9_draws_5 rfl ?_
  refine r_imul (pc' := 9) C dX9_draws_8 rfl ?_
  refine r_sipush (pc' := 12) C dX9_draws_9 rfl ks_12345 ?_
  refine r_iadd (pc' := 13) C dX9_draws_12 rfl ?_
  obtain ⟨σ1, e2, h⟩ := bs h
  refine r_putI (pc' := 16) (σ1 := σ1) C fpX9_417 sh_149 rfl rfl rfl dX9_draws_13 rfl e2 ?_
  refine r_aload_n (pc' := 17) C dX9_draws_16 rfl 0 rfl ?_
  refine r_getI (pc' := 20) C flX9_417 sh_149 rfl dX9_draws_17 rfl ?_
  refine r_bipush (pc' := 22) C dX9_draws_20 rfl kb_16 ?_
  refine r_iushr (pc' := 23) (v := ushr (gi σ1 149 44) 16) C dX9_draws_22 rfl rfl ?_
  refine r_iload_n (pc' := 24) C dX9_draws_23 rfl 1 rfl ?_
  obtain ⟨q3, h⟩ := ck0 h
  refine r_irem (pc' := 25) C dX9_draws_24 rfl q3 ?_
  have h := Option.some.inj h
  subst h
  exact r_ret C rfl dX9_draws_25 hE

/-! BorrowedWeightModel.years(II)I -/
def X9_years_l39 (N : Nat)  (k137 : Sg → Option (Int32 × Sg))  : Nat → Int32 → Int32 → Sg → Option (Int32 × Sg)
  | 0, _, _, _ => none
  | n + 1, v2, v3, σ =>
    if v2 ≤ v3 then (k137 σ) else ((X9_draws N 4 σ).bind fun r13 => (if 2 ≤ r13.1 then (if (gi r13.2 149 3) ≤ 0 then (X9_years_l39 N k137 n v2 (v3 + 1) r13.2) else ((X9_draws N (gi r13.2 149 3) r13.2).bind fun r17 => (if r13.1 = 2 then ((X9_draws N 3 r17.2).bind fun r24 => ((X9_lendsTo N 154 r17.1 (1 + r24.1) r24.2).bind fun r26 => (X9_years_l39 N k137 n v2 (v3 + 1) r26.2))) else ((X9_draws N (gi r17.2 149 3) r17.2).bind fun r20 => ((X9_tiesTwo N 154 r17.1 r20.1 r20.2).bind fun r22 => (X9_years_l39 N k137 n v2 (v3 + 1) r22.2)))))) else ((X9_hourGoes N 154 r13.2).bind fun r28 => (X9_years_l39 N k137 n v2 (v3 + 1) r28))))
set_option maxRecDepth 100000 in
set_option maxHeartbeats 4000000 in
theorem X9_years_l39_ok {E : Ev}  {N : Nat} {k137 : Sg → Option (Int32 × Sg)}  (hk137 : ∀ (σ : Sg) (r : Int32 × Sg), k137 σ = some r → Gp E RX9 cX9_years (some .int) 6 9 SH0 r.2 (some (.int r.1)) σ 137 [(0, .ref 149)] []) : ∀ (n : Nat) (v2 : Int32) (v3 : Int32) (σ : Sg) (r : Int32 × Sg), X9_years_l39 N k137 n v2 v3 σ = some r → Gp E RX9 cX9_years (some .int) 6 9 SH0 r.2 (some (.int r.1)) σ 39 [(0, .ref 149), (2, .int v2), (3, .int v3)] [] := by
  intro n
  induction n with
  | zero => intro v2 v3 σ r h; cases h
  | succ n ih =>
    intro v2 v3 σ r h Z C hE
    unfold X9_years_l39 at h
    refine r_iload_n (pc' := 40) C dX9_years_39 rfl 2 rfl ?_
    refine r_iload_n (pc' := 41) C dX9_years_40 rfl 1 rfl ?_
    refine r_icmp_ge (tgt := 137) (pc' := 44) C dX9_years_41 rfl rfl (fun c12 => ?_) (fun c12 => ?_)
    · rw [if_pos c12] at h
      refine r_sub [0] rfl ?_
      exact hk137 _ _ h Z C hE
    · rw [if_neg c12] at h
      refine r_aload_n (pc' := 45) C dX9_years_44 rfl 0 rfl ?_
      refine r_iconst (pc' := 46) C dX9_years_45 rfl kc_4 ?_
      obtain ⟨r13, e14, h⟩ := bd h
      refine r_cV1 (pc' := 49) C (X9_draws_ok  e14) mlX9_421 ceX9_draws cvX9_draws sh_149 rfl rfl rfl (Nat.le_of_ble_eq_true rfl) rfl (Nat.le_of_ble_eq_true rfl) dX9_years_46 rfl (kk := ?_)
      refine r_istore (pc' := 51) (lv2 := [(4, .int r13.1), (0, .ref 149), (2, .int v2), (3, .int v3)]) C dX9_years_49 rfl (Nat.le_of_ble_eq_true rfl) rfl ?_
      refine r_iload (pc' := 53) C dX9_years_51 rfl 0 rfl ?_
      refine r_iconst (pc' := 54) C dX9_years_53 rfl kc_2 ?_
      refine r_icmp_ge (tgt := 68) (pc' := 57) C dX9_years_54 rfl rfl (fun c15 => ?_) (fun c15 => ?_)
      · rw [if_pos c15] at h
        refine r_aload_n (pc' := 69) C dX9_years_68 rfl 1 rfl ?_
        refine r_getI (pc' := 72) C flX9_116 sh_149 rfl dX9_years_69 rfl ?_
        refine r_if_le (tgt := 131) (pc' := 75) C dX9_years_72 rfl rfl (fun c16 => ?_) (fun c16 => ?_)
        · rw [if_pos c16] at h
          refine r_iinc (pc' := 134) (v := v3 + 1) (lv2 := [(3, .int (v3 + 1)), (4, .int r13.1), (0, .ref 149), (2, .int v2)]) C dX9_years_131 rfl 3 rfl rfl (Nat.le_of_ble_eq_true rfl) rfl ?_
          refine r_goto (tgt := 39) C dX9_years_134 rfl ?_
          refine r_sub [2, 3, 0] rfl ?_
          exact ih _ _ _ _ h Z C hE
        · rw [if_neg c16] at h
          refine r_aload_n (pc' := 76) C dX9_years_75 rfl 1 rfl ?_
          refine r_aload_n (pc' := 77) C dX9_years_76 rfl 1 rfl ?_
          refine r_getI (pc' := 80) C flX9_116 sh_149 rfl dX9_years_77 rfl ?_
          obtain ⟨r17, e18, h⟩ := bd h
          refine r_cV1 (pc' := 83) C (X9_draws_ok  e18) mlX9_421 ceX9_draws cvX9_draws sh_149 rfl rfl rfl (Nat.le_of_ble_eq_true rfl) rfl (Nat.le_of_ble_eq_true rfl) dX9_years_80 rfl (kk := ?_)
          refine r_istore (pc' := 85) (lv2 := [(5, .int r17.1), (4, .int r13.1), (0, .ref 149), (2, .int v2), (3, .int v3)]) C dX9_years_83 rfl (Nat.le_of_ble_eq_true rfl) rfl ?_
          refine r_iload (pc' := 87) C dX9_years_85 rfl 1 rfl ?_
          refine r_iconst (pc' := 88) C dX9_years_87 rfl kc_2 ?_
          refine r_icmp_ne (tgt := 112) (pc' := 91) C dX9_years_88 rfl rfl (fun c19 => ?_) (fun c19 => ?_)
          · rw [if_neg c19] at h
            refine r_aload_n (pc' := 113) C dX9_years_112 rfl 2 rfl ?_
            refine r_aload_n (pc' := 114) C dX9_years_113 rfl 2 rfl ?_
            refine r_getR (pc' := 117) C flX9_37 sh_149 rfl dX9_years_114 rfl ?_
            refine r_iload (pc' := 119) C dX9_years_117 rfl 0 rfl ?_
            refine r_aload_n (pc' := 120) C dX9_years_119 rfl 2 rfl ?_
            refine r_aload_n (pc' := 121) C dX9_years_120 rfl 2 rfl ?_
            refine r_getI (pc' := 124) C flX9_116 sh_149 rfl dX9_years_121 rfl ?_
            obtain ⟨r20, e21, h⟩ := bd h
            refine r_cV1 (pc' := 127) C (X9_draws_ok  e21) mlX9_421 ceX9_draws cvX9_draws sh_149 rfl rfl rfl (Nat.le_of_ble_eq_true rfl) rfl (Nat.le_of_ble_eq_true rfl) dX9_years_124 rfl (kk := ?_)
            obtain ⟨r22, e23, h⟩ := bd h
            refine r_cV1 (pc' := 130) C (X9_tiesTwo_ok mac_154 e23) mlX9_340 ceX9_tiesTwo cvX9_tiesTwo sh_149 rfl rfl rfl (Nat.le_of_ble_eq_true rfl) rfl (Nat.le_of_ble_eq_true rfl) dX9_years_127 rfl (kk := ?_)
            refine r_pop (pc' := 131) C dX9_years_130 rfl rfl ?_
            refine r_iinc (pc' := 134) (v := v3 + 1) (lv2 := [(3, .int (v3 + 1)), (5, .int r17.1), (4, .int r13.1), (0, .ref 149), (2, .int v2)]) C dX9_years_131 rfl 4 rfl rfl (Nat.le_of_ble_eq_true rfl) rfl ?_
            refine r_goto (tgt := 39) C dX9_years_134 rfl ?_
            refine r_sub [3, 4, 0] rfl ?_
            exact ih _ _ _ _ h Z C hE
          · rw [if_pos c19] at h
            refine r_aload_n (pc' := 92) C dX9_years_91 rfl 2 rfl ?_
            refine r_aload_n (pc' := 93) C dX9_years_92 rfl 2 rfl ?_
            refine r_getR (pc' := 96) C flX9_37 sh_149 rfl dX9_years_93 rfl ?_
            refine r_iload (pc' := 98) C dX9_years_96 rfl 0 rfl ?_
            refine r_iconst (pc' := 99) C dX9_years_98 rfl kc_1 ?_
            refine r_aload_n (pc' := 100) C dX9_years_99 rfl 2 rfl ?_
            refine r_iconst (pc' := 101) C dX9_years_100 rfl kc_3 ?_
            obtain ⟨r24, e25, h⟩ := bd h
            refine r_cV1 (pc' := 104) C (X9_draws_ok  e25) mlX9_421 ceX9_draws cvX9_draws sh_149 rfl rfl rfl (Nat.le_of_ble_eq_true rfl) rfl (Nat.le_of_ble_eq_true rfl) dX9_years_101 rfl (kk := ?_)
            refine r_iadd (pc' := 105) C dX9_years_104 rfl ?_
            obtain ⟨r26, e27, h⟩ := bd h
            refine r_cV1 (pc' := 108) C (X9_lendsTo_ok mac_154 e27) mlX9_331 ceX9_lendsTo cvX9_lendsTo sh_149 rfl rfl rfl (Nat.le_of_ble_eq_true rfl) rfl (Nat.le_of_ble_eq_true rfl) dX9_years_105 rfl (kk := ?_)
            refine r_pop (pc' := 109) C dX9_years_108 rfl rfl ?_
            refine r_goto (tgt := 131) C dX9_years_109 rfl ?_
            refine r_iinc (pc' := 134) (v := v3 + 1) (lv2 := [(3, .int (v3 + 1)), (5, .int r17.1), (4, .int r13.1), (0, .ref 149), (2, .int v2)]) C dX9_years_131 rfl 4 rfl rfl (Nat.le_of_ble_eq_true rfl) rfl ?_
            refine r_goto (tgt := 39) C dX9_years_134 rfl ?_
            refine r_sub [3, 4, 0] rfl ?_
            exact ih _ _ _ _ h Z C hE
      · rw [if_neg c15] at h
        refine r_aload_n (pc' := 58) C dX9_years_57 rfl 1 rfl ?_
        refine r_aload_n (pc' := 59) C dX9_years_58 rfl 1 rfl ?_
        refine r_getR (pc' := 62) C flX9_37 sh_149 rfl dX9_years_59 rfl ?_
        obtain ⟨r28, e29, h⟩ := bd h
        refine r_cV0 (pc' := 65) C (X9_hourGoes_ok mac_154 e29) mlX9_313 ceX9_hourGoes cvX9_hourGoes sh_149 rfl rfl rfl (Nat.le_of_ble_eq_true rfl) rfl (Nat.le_of_ble_eq_true rfl) dX9_years_62 rfl (kk := ?_)
        refine r_goto (tgt := 131) C dX9_years_65 rfl ?_
        refine r_iinc (pc' := 134) (v := v3 + 1) (lv2 := [(3, .int (v3 + 1)), (4, .int r13.1), (0, .ref 149), (2, .int v2)]) C dX9_years_131 rfl 3 rfl rfl (Nat.le_of_ble_eq_true rfl) rfl ?_
        refine r_goto (tgt := 39) C dX9_years_134 rfl ?_
        refine r_sub [2, 3, 0] rfl ?_
        exact ih _ _ _ _ h Z C hE
def X9_years_j137 (N : Nat)    (σ : Sg) : Option (Int32 × Sg) :=
  bnS (wi σ 149 1 0) fun σ30 => if inb 33 37 = true then (X9_enters N ((gi σ30 154 (33 : Int32).toNatClampNeg).toInt64) σ30).bind fun r33 => ((X9_enters N ((gi r33 149 26).toInt64) r33).bind fun r35 => ((X9_here N 154 r35).bind fun r37 => (some (r37, r35)))) else none
set_option maxRecDepth 100000 in
set_option maxHeartbeats 4000000 in
theorem X9_years_j137_ok {E : Ev}  {N : Nat}     {σ : Sg} {r : Int32 × Sg} (h : X9_years_j137 N    σ = some r) : Gp E RX9 cX9_years (some .int) 6 9 SH0 r.2 (some (.int r.1)) σ 137 [(0, .ref 149)] [] := by
  intro Z C hE
  unfold X9_years_j137 at h
  refine r_aload_n (pc' := 138) C dX9_years_137 rfl 0 rfl ?_
  refine r_iconst (pc' := 139) C dX9_years_138 rfl kc_0 ?_
  obtain ⟨σ30, e31, h⟩ := bs h
  refine r_putI (pc' := 142) (σ1 := σ30) C fpX9_15 sh_149 rfl rfl rfl dX9_years_139 rfl e31 ?_
  refine r_aload_n (pc' := 143) C dX9_years_142 rfl 0 rfl ?_
  refine r_aload_n (pc' := 144) C dX9_years_143 rfl 0 rfl ?_
  refine r_getR (pc' := 147) C flX9_37 sh_149 rfl dX9_years_144 rfl ?_
  refine r_bipush (pc' := 149) C dX9_years_147 rfl kb_33 ?_
  obtain ⟨q32, h⟩ := ck h
  refine r_iald (pc' := 150) C sh_154 (vin q32) dX9_years_149 rfl ?_
  refine r_i2l (pc' := 151) C dX9_years_150 rfl rfl ?_
  obtain ⟨r33, e34, h⟩ := bd h
  refine r_cV0 (pc' := 154) C (X9_enters_ok  e34) mlX9_327 ceX9_enters cvX9_enters sh_149 rfl rfl rfl (Nat.le_of_ble_eq_true rfl) rfl (Nat.le_of_ble_eq_true rfl) dX9_years_151 rfl (kk := ?_)
  refine r_aload_n (pc' := 155) C dX9_years_154 rfl 0 rfl ?_
  refine r_aload_n (pc' := 156) C dX9_years_155 rfl 0 rfl ?_
  refine r_getI (pc' := 159) C flX9_300 sh_149 rfl dX9_years_156 rfl ?_
  refine r_i2l (pc' := 160) C dX9_years_159 rfl rfl ?_
  obtain ⟨r35, e36, h⟩ := bd h
  refine r_cV0 (pc' := 163) C (X9_enters_ok  e36) mlX9_327 ceX9_enters cvX9_enters sh_149 rfl rfl rfl (Nat.le_of_ble_eq_true rfl) rfl (Nat.le_of_ble_eq_true rfl) dX9_years_160 rfl (kk := ?_)
  refine r_aload_n (pc' := 164) C dX9_years_163 rfl 0 rfl ?_
  refine r_aload_n (pc' := 165) C dX9_years_164 rfl 0 rfl ?_
  refine r_getR (pc' := 168) C flX9_37 sh_149 rfl dX9_years_165 rfl ?_
  obtain ⟨r37, e38, h⟩ := bd h
  refine r_cV1 (pc' := 171) C (X9_here_ok mac_154 e38) mlX9_307 ceX9_here cvX9_here sh_149 rfl rfl rfl (Nat.le_of_ble_eq_true rfl) rfl (Nat.le_of_ble_eq_true rfl) dX9_years_168 rfl (kk := ?_)
  have h := Option.some.inj h
  subst h
  exact r_ret C rfl dX9_years_171 hE
def X9_years (N : Nat)  (v1 : Int32) (v2 : Int32) (σ : Sg) : Option (Int32 × Sg) :=
  bnS (wi σ 149 0 0) fun σ1 => (X9_in N v2.toInt64 1 60 σ1).bind fun r3 => (if r3 = 0 then (some ((-1), σ1)) else (bnS (wi σ1 149 44 v1) fun σ6 => (X9_copies N σ6).bind fun r8 => ((X9_goesOn N 154 0 r8).bind fun r10 => (X9_years_l39 N (fun σ => X9_years_j137 N σ) N v2 0 r10))))
set_option maxRecDepth 100000 in
set_option maxHeartbeats 4000000 in
theorem X9_years_ok {E : Ev}  {N : Nat} {v1 : Int32} {v2 : Int32} {σ : Sg} {r : Int32 × Sg} (h : X9_years N  v1 v2 σ = some r) : Cm E 9 yX9_years cX9_years 6 (some .int) [.ref 149, .int v1, .int v2] SH0 SH0 σ r.2 (some (.int r.1)) 0 0 := by
  refine Cm.intro (by decide +kernel) (Nat.le_of_ble_eq_true rfl) (fun _ h => by obtain ⟨_, _, _, _, _, _, h⟩ := h; exact h) (fun Z C hE => ?_)
  show Wm E Z 0 0 SH0 σ 0 [(0, .ref 149), (1, .int v1), (2, .int v2)] []
  unfold X9_years at h
  refine r_aload_n (pc' := 1) C dX9_years_0 rfl 0 rfl ?_
  refine r_iconst (pc' := 2) C dX9_years_1 rfl kc_0 ?_
  obtain ⟨σ1, e2, h⟩ := bs h
  refine r_putI (pc' := 5) (σ1 := σ1) C fpX9_3 sh_149 rfl rfl rfl dX9_years_2 rfl e2 ?_
  refine r_iload_n (pc' := 6) C dX9_years_5 rfl 2 rfl ?_
  refine r_i2l (pc' := 7) C dX9_years_6 rfl rfl ?_
  refine r_lconst (pc' := 8) C dX9_years_7 rfl kl_1 ?_
  refine r_ldc2 (pc' := 11) C cnX9_322 dX9_years_8 rfl ?_
  obtain ⟨r3, e4, h⟩ := bd h
  refine r_cS1 (pc' := 14) C (X9_in_ok  e4) mlX9_119 ceX9_in csX9_in rfl (Nat.le_of_ble_eq_true rfl) rfl (Nat.le_of_ble_eq_true rfl) dX9_years_11 rfl (kk := ?_)
  refine r_if_ne (tgt := 19) (pc' := 17) C dX9_years_14 rfl rfl (fun c5 => ?_) (fun c5 => ?_)
  · rw [if_neg c5] at h
    refine r_aload_n (pc' := 20) C dX9_years_19 rfl 0 rfl ?_
    refine r_iload_n (pc' := 21) C dX9_years_20 rfl 1 rfl ?_
    obtain ⟨σ6, e7, h⟩ := bs h
    refine r_putI (pc' := 24) (σ1 := σ6) C fpX9_417 sh_149 rfl rfl rfl dX9_years_21 rfl e7 ?_
    refine r_aload_n (pc' := 25) C dX9_years_24 rfl 0 rfl ?_
    obtain ⟨r8, e9, h⟩ := bd h
    refine r_cV0 (pc' := 28) C (X9_copies_ok  e9) mlX9_362 ceX9_copies cvX9_copies sh_149 rfl rfl rfl (Nat.le_of_ble_eq_true rfl) rfl (Nat.le_of_ble_eq_true rfl) dX9_years_25 rfl (kk := ?_)
    refine r_aload_n (pc' := 29) C dX9_years_28 rfl 0 rfl ?_
    refine r_aload_n (pc' := 30) C dX9_years_29 rfl 0 rfl ?_
    refine r_getR (pc' := 33) C flX9_37 sh_149 rfl dX9_years_30 rfl ?_
    refine r_iconst (pc' := 34) C dX9_years_33 rfl kc_0 ?_
    obtain ⟨r10, e11, h⟩ := bd h
    refine r_cV0 (pc' := 37) C (X9_goesOn_ok mac_154 e11) mlX9_324 ceX9_goesOn cvX9_goesOn sh_149 rfl rfl rfl (Nat.le_of_ble_eq_true rfl) rfl (Nat.le_of_ble_eq_true rfl) dX9_years_34 rfl (kk := ?_)
    refine r_iconst (pc' := 38) C dX9_years_37 rfl kc_0 ?_
    refine r_istore_n (pc' := 39) (lv2 := [(3, .int 0), (0, .ref 149), (1, .int v1), (2, .int v2)]) C dX9_years_38 rfl rfl (Nat.le_of_ble_eq_true rfl) rfl ?_
    refine r_sub [1, 3, 0] rfl ?_
    exact X9_years_l39_ok  (fun _ _ h Z C hE => by exact X9_years_j137_ok  h Z C hE) N _ _ _ _ h Z C hE
  · rw [if_pos c5] at h
    refine r_iconst (pc' := 18) C dX9_years_17 rfl kc_m1 ?_
    have h := Option.some.inj h
    subst h
    exact r_ret C rfl dX9_years_18 hE

/-! BorrowedWeightModel.keep(I)Z -/
def X9_keep_l38 (N : Nat)    : Nat → Int32 → Int32 → Sg → Option (Int32 × Sg)
  | 0, _, _, _ => none
  | n + 1, v1, v2, σ =>
    if 37 ≤ v2 then (some (1, σ)) else (if inb v2 37 = true then if inb ((37 * v1) + v2) 111 = true then bnS (wi σ 179 ((37 * v1) + v2).toNatClampNeg (gi σ 153 v2.toNatClampNeg)) fun σ15 => X9_keep_l38 N n v1 (v2 + 1) σ15 else none else none)
set_option maxRecDepth 100000 in
set_option maxHeartbeats 4000000 in
theorem X9_keep_l38_ok {E : Ev}  {N : Nat}    : ∀ (n : Nat) (v1 : Int32) (v2 : Int32) (σ : Sg) (r : Int32 × Sg), X9_keep_l38 N n v1 v2 σ = some r → Gp E RX9 cX9_keep (some .boolean) 3 1 SH0 r.2 (some (.int r.1)) σ 38 [(0, .ref 149), (1, .int v1), (2, .int v2)] [] := by
  intro n
  induction n with
  | zero => intro v1 v2 σ r h; cases h
  | succ n ih =>
    intro v1 v2 σ r h Z C hE
    unfold X9_keep_l38 at h
    refine r_iload_n (pc' := 39) C dX9_keep_38 rfl 2 rfl ?_
    refine r_bipush (pc' := 41) C dX9_keep_39 rfl kb_37 ?_
    refine r_icmp_ge (tgt := 67) (pc' := 44) C dX9_keep_41 rfl rfl (fun c12 => ?_) (fun c12 => ?_)
    · rw [if_pos c12] at h
      refine r_iconst (pc' := 68) C dX9_keep_67 rfl kc_1 ?_
      have h := Option.some.inj h
      subst h
      exact r_ret C rfl dX9_keep_68 hE
    · rw [if_neg c12] at h
      refine r_aload_n (pc' := 45) C dX9_keep_44 rfl 0 rfl ?_
      refine r_getR (pc' := 48) C flX9_113 sh_149 rfl dX9_keep_45 rfl ?_
      refine r_bipush (pc' := 50) C dX9_keep_48 rfl kb_37 ?_
      refine r_iload_n (pc' := 51) C dX9_keep_50 rfl 1 rfl ?_
      refine r_imul (pc' := 52) C dX9_keep_51 rfl ?_
      refine r_iload_n (pc' := 53) C dX9_keep_52 rfl 2 rfl ?_
      refine r_iadd (pc' := 54) C dX9_keep_53 rfl ?_
      refine r_aload_n (pc' := 55) C dX9_keep_54 rfl 0 rfl ?_
      refine r_getR (pc' := 58) C flX9_34 sh_149 rfl dX9_keep_55 rfl ?_
      refine r_iload_n (pc' := 59) C dX9_keep_58 rfl 2 rfl ?_
      obtain ⟨q13, h⟩ := ck h
      refine r_iald (pc' := 60) C sh_153 (vin q13) dX9_keep_59 rfl ?_
      obtain ⟨q14, h⟩ := ck h
      obtain ⟨σ15, e16, h⟩ := bs h
      refine r_iast (pc' := 61) (σ1 := σ15) C sh_179 (vin q14) dX9_keep_60 rfl e16 ?_
      refine r_iinc (pc' := 64) (v := v2 + 1) (lv2 := [(2, .int (v2 + 1)), (0, .ref 149), (1, .int v1)]) C dX9_keep_61 rfl 2 rfl rfl (Nat.le_of_ble_eq_true rfl) rfl ?_
      refine r_goto (tgt := 38) C dX9_keep_64 rfl ?_
      refine r_sub [1, 2, 0] rfl ?_
      exact ih _ _ _ _ h Z C hE
def X9_keep (N : Nat)  (v1 : Int32) (σ : Sg) : Option (Int32 × Sg) :=
  bnS (wi σ 149 0 0) fun σ1 => (X9_in N v1.toInt64 0 2 σ1).bind fun r3 => (if r3 = 0 then (some (0, σ1)) else (if inb v1 3 = true then bnS (wi σ1 177 v1.toNatClampNeg (vp_nar .boolean 1)) fun σ7 => if inb v1 3 = true then bnS (wi σ7 178 v1.toNatClampNeg (gi σ7 149 4)) fun σ10 => X9_keep_l38 N N v1 0 σ10 else none else none))
set_option maxRecDepth 100000 in
set_option maxHeartbeats 4000000 in
theorem X9_keep_ok {E : Ev}  {N : Nat} {v1 : Int32} {σ : Sg} {r : Int32 × Sg} (h : X9_keep N  v1 σ = some r) : Cm E 1 yX9_keep cX9_keep 3 (some .boolean) [.ref 149, .int v1] SH0 SH0 σ r.2 (some (.int r.1)) 0 0 := by
  refine Cm.intro (by decide +kernel) (Nat.le_of_ble_eq_true rfl) (fun _ h => by obtain ⟨_, _, _, _, _, _, h⟩ := h; exact h) (fun Z C hE => ?_)
  show Wm E Z 0 0 SH0 σ 0 [(0, .ref 149), (1, .int v1)] []
  unfold X9_keep at h
  refine r_aload_n (pc' := 1) C dX9_keep_0 rfl 0 rfl ?_
  refine r_iconst (pc' := 2) C dX9_keep_1 rfl kc_0 ?_
  obtain ⟨σ1, e2, h⟩ := bs h
  refine r_putI (pc' := 5) (σ1 := σ1) C fpX9_3 sh_149 rfl rfl rfl dX9_keep_2 rfl e2 ?_
  refine r_iload_n (pc' := 6) C dX9_keep_5 rfl 1 rfl ?_
  refine r_i2l (pc' := 7) C dX9_keep_6 rfl rfl ?_
  refine r_lconst (pc' := 8) C dX9_keep_7 rfl kl_0 ?_
  refine r_ldc2 (pc' := 11) C cnX9_424 dX9_keep_8 rfl ?_
  obtain ⟨r3, e4, h⟩ := bd h
  refine r_cS1 (pc' := 14) C (X9_in_ok  e4) mlX9_119 ceX9_in csX9_in rfl (Nat.le_of_ble_eq_true rfl) rfl (Nat.le_of_ble_eq_true rfl) dX9_keep_11 rfl (kk := ?_)
  refine r_if_ne (tgt := 19) (pc' := 17) C dX9_keep_14 rfl rfl (fun c5 => ?_) (fun c5 => ?_)
  · rw [if_neg c5] at h
    refine r_aload_n (pc' := 20) C dX9_keep_19 rfl 0 rfl ?_
    refine r_getR (pc' := 23) C flX9_107 sh_149 rfl dX9_keep_20 rfl ?_
    refine r_iload_n (pc' := 24) C dX9_keep_23 rfl 1 rfl ?_
    refine r_iconst (pc' := 25) C dX9_keep_24 rfl kc_1 ?_
    obtain ⟨q6, h⟩ := ck h
    obtain ⟨σ7, e8, h⟩ := bs h
    refine r_zast (pc' := 26) (σ1 := σ7) C sh_177 (vin q6) dX9_keep_25 rfl e8 ?_
    refine r_aload_n (pc' := 27) C dX9_keep_26 rfl 0 rfl ?_
    refine r_getR (pc' := 30) C flX9_110 sh_149 rfl dX9_keep_27 rfl ?_
    refine r_iload_n (pc' := 31) C dX9_keep_30 rfl 1 rfl ?_
    refine r_aload_n (pc' := 32) C dX9_keep_31 rfl 0 rfl ?_
    refine r_getI (pc' := 35) C flX9_199 sh_149 rfl dX9_keep_32 rfl ?_
    obtain ⟨q9, h⟩ := ck h
    obtain ⟨σ10, e11, h⟩ := bs h
    refine r_iast (pc' := 36) (σ1 := σ10) C sh_178 (vin q9) dX9_keep_35 rfl e11 ?_
    refine r_iconst (pc' := 37) C dX9_keep_36 rfl kc_0 ?_
    refine r_istore_n (pc' := 38) (lv2 := [(2, .int 0), (0, .ref 149), (1, .int v1)]) C dX9_keep_37 rfl rfl (Nat.le_of_ble_eq_true rfl) rfl ?_
    refine r_sub [1, 2, 0] rfl ?_
    exact X9_keep_l38_ok  N _ _ _ _ h Z C hE
  · rw [if_pos c5] at h
    refine r_iconst (pc' := 18) C dX9_keep_17 rfl kc_0 ?_
    have h := Option.some.inj h
    subst h
    exact r_ret C rfl dX9_keep_18 hE

/-! BorrowedWeightModel.again(I)Z -/
def X9_again_l43 (N : Nat)    : Nat → Int32 → Int32 → Sg → Option (Int32 × Sg)
  | 0, _, _, _ => none
  | n + 1, v1, v2, σ =>
    if 37 ≤ v2 then (bnS (wi σ 149 23 0) fun σ11 => some (1, σ11)) else (if inb ((37 * v1) + v2) 111 = true then if inb v2 37 = true then bnS (wi σ 153 v2.toNatClampNeg (gi σ 179 ((37 * v1) + v2).toNatClampNeg)) fun σ15 => X9_again_l43 N n v1 (v2 + 1) σ15 else none else none)
set_option maxRecDepth 100000 in
set_option maxHeartbeats 4000000 in
theorem X9_again_l43_ok {E : Ev}  {N : Nat}    : ∀ (n : Nat) (v1 : Int32) (v2 : Int32) (σ : Sg) (r : Int32 × Sg), X9_again_l43 N n v1 v2 σ = some r → Gp E RX9 cX9_again (some .boolean) 3 1 SH0 r.2 (some (.int r.1)) σ 43 [(0, .ref 149), (1, .int v1), (2, .int v2)] [] := by
  intro n
  induction n with
  | zero => intro v1 v2 σ r h; cases h
  | succ n ih =>
    intro v1 v2 σ r h Z C hE
    unfold X9_again_l43 at h
    refine r_iload_n (pc' := 44) C dX9_again_43 rfl 2 rfl ?_
    refine r_bipush (pc' := 46) C dX9_again_44 rfl kb_37 ?_
    refine r_icmp_ge (tgt := 72) (pc' := 49) C dX9_again_46 rfl rfl (fun c10 => ?_) (fun c10 => ?_)
    · rw [if_pos c10] at h
      refine r_aload_n (pc' := 73) C dX9_again_72 rfl 0 rfl ?_
      refine r_iconst (pc' := 74) C dX9_again_73 rfl kc_0 ?_
      obtain ⟨σ11, e12, h⟩ := bs h
      refine r_putI (pc' := 77) (σ1 := σ11) C fpX9_196 sh_149 rfl rfl rfl dX9_again_74 rfl e12 ?_
      refine r_iconst (pc' := 78) C dX9_again_77 rfl kc_1 ?_
      have h := Option.some.inj h
      subst h
      exact r_ret C rfl dX9_again_78 hE
    · rw [if_neg c10] at h
      refine r_aload_n (pc' := 50) C dX9_again_49 rfl 0 rfl ?_
      refine r_getR (pc' := 53) C flX9_34 sh_149 rfl dX9_again_50 rfl ?_
      refine r_iload_n (pc' := 54) C dX9_again_53 rfl 2 rfl ?_
      refine r_aload_n (pc' := 55) C dX9_again_54 rfl 0 rfl ?_
      refine r_getR (pc' := 58) C flX9_113 sh_149 rfl dX9_again_55 rfl ?_
      refine r_bipush (pc' := 60) C dX9_again_58 rfl kb_37 ?_
      refine r_iload_n (pc' := 61) C dX9_again_60 rfl 1 rfl ?_
      refine r_imul (pc' := 62) C dX9_again_61 rfl ?_
      refine r_iload_n (pc' := 63) C dX9_again_62 rfl 2 rfl ?_
      refine r_iadd (pc' := 64) C dX9_again_63 rfl ?_
      obtain ⟨q13, h⟩ := ck h
      refine r_iald (pc' := 65) C sh_179 (vin q13) dX9_again_64 rfl ?_
      obtain ⟨q14, h⟩ := ck h
      obtain ⟨σ15, e16, h⟩ := bs h
      refine r_iast (pc' := 66) (σ1 := σ15) C sh_153 (vin q14) dX9_again_65 rfl e16 ?_
      refine r_iinc (pc' := 69) (v := v2 + 1) (lv2 := [(2, .int (v2 + 1)), (0, .ref 149), (1, .int v1)]) C dX9_again_66 rfl 2 rfl rfl (Nat.le_of_ble_eq_true rfl) rfl ?_
      refine r_goto (tgt := 43) C dX9_again_69 rfl ?_
      refine r_sub [1, 2, 0] rfl ?_
      exact ih _ _ _ _ h Z C hE
def X9_again (N : Nat)  (v1 : Int32) (σ : Sg) : Option (Int32 × Sg) :=
  bnS (wi σ 149 0 0) fun σ1 => (X9_in N v1.toInt64 0 2 σ1).bind fun r3 => (if r3 = 0 then (some (0, σ1)) else (if inb v1 3 = true then if (gi σ1 177 v1.toNatClampNeg) = 0 then (some (0, σ1)) else (if inb v1 3 = true then if (gi σ1 178 v1.toNatClampNeg) = (gi σ1 149 4) then (X9_again_l43 N N v1 0 σ1) else (some (0, σ1)) else none) else none))
set_option maxRecDepth 100000 in
set_option maxHeartbeats 4000000 in
theorem X9_again_ok {E : Ev}  {N : Nat} {v1 : Int32} {σ : Sg} {r : Int32 × Sg} (h : X9_again N  v1 σ = some r) : Cm E 1 yX9_again cX9_again 3 (some .boolean) [.ref 149, .int v1] SH0 SH0 σ r.2 (some (.int r.1)) 0 0 := by
  refine Cm.intro (by decide +kernel) (Nat.le_of_ble_eq_true rfl) (fun _ h => by obtain ⟨_, _, _, _, _, _, h⟩ := h; exact h) (fun Z C hE => ?_)
  show Wm E Z 0 0 SH0 σ 0 [(0, .ref 149), (1, .int v1)] []
  unfold X9_again at h
  refine r_aload_n (pc' := 1) C dX9_again_0 rfl 0 rfl ?_
  refine r_iconst (pc' := 2) C dX9_again_1 rfl kc_0 ?_
  obtain ⟨σ1, e2, h⟩ := bs h
  refine r_putI (pc' := 5) (σ1 := σ1) C fpX9_3 sh_149 rfl rfl rfl dX9_again_2 rfl e2 ?_
  refine r_iload_n (pc' := 6) C dX9_again_5 rfl 1 rfl ?_
  refine r_i2l (pc' := 7) C dX9_again_6 rfl rfl ?_
  refine r_lconst (pc' := 8) C dX9_again_7 rfl kl_0 ?_
  refine r_ldc2 (pc' := 11) C cnX9_424 dX9_again_8 rfl ?_
  obtain ⟨r3, e4, h⟩ := bd h
  refine r_cS1 (pc' := 14) C (X9_in_ok  e4) mlX9_119 ceX9_in csX9_in rfl (Nat.le_of_ble_eq_true rfl) rfl (Nat.le_of_ble_eq_true rfl) dX9_again_11 rfl (kk := ?_)
  refine r_if_eq (tgt := 39) (pc' := 17) C dX9_again_14 rfl rfl (fun c5 => ?_) (fun c5 => ?_)
  · rw [if_pos c5] at h
    refine r_iconst (pc' := 40) C dX9_again_39 rfl kc_0 ?_
    have h := Option.some.inj h
    subst h
    exact r_ret C rfl dX9_again_40 hE
  · rw [if_neg c5] at h
    refine r_aload_n (pc' := 18) C dX9_again_17 rfl 0 rfl ?_
    refine r_getR (pc' := 21) C flX9_107 sh_149 rfl dX9_again_18 rfl ?_
    refine r_iload_n (pc' := 22) C dX9_again_21 rfl 1 rfl ?_
    obtain ⟨q6, h⟩ := ck h
    refine r_zald (pc' := 23) C sh_177 (vin q6) dX9_again_22 rfl ?_
    refine r_if_eq (tgt := 39) (pc' := 26) C dX9_again_23 rfl rfl (fun c7 => ?_) (fun c7 => ?_)
    · rw [if_pos c7] at h
      refine r_iconst (pc' := 40) C dX9_again_39 rfl kc_0 ?_
      have h := Option.some.inj h
      subst h
      exact r_ret C rfl dX9_again_40 hE
    · rw [if_neg c7] at h
      refine r_aload_n (pc' := 27) C dX9_again_26 rfl 0 rfl ?_
      refine r_getR (pc' := 30) C flX9_110 sh_149 rfl dX9_again_27 rfl ?_
      refine r_iload_n (pc' := 31) C dX9_again_30 rfl 1 rfl ?_
      obtain ⟨q8, h⟩ := ck h
      refine r_iald (pc' := 32) C sh_178 (vin q8) dX9_again_31 rfl ?_
      refine r_aload_n (pc' := 33) C dX9_again_32 rfl 0 rfl ?_
      refine r_getI (pc' := 36) C flX9_199 sh_149 rfl dX9_again_33 rfl ?_
      refine r_icmp_eq (tgt := 41) (pc' := 39) C dX9_again_36 rfl rfl (fun c9 => ?_) (fun c9 => ?_)
      · rw [if_pos c9] at h
        refine r_iconst (pc' := 42) C dX9_again_41 rfl kc_0 ?_
        refine r_istore_n (pc' := 43) (lv2 := [(2, .int 0), (0, .ref 149), (1, .int v1)]) C dX9_again_42 rfl rfl (Nat.le_of_ble_eq_true rfl) rfl ?_
        refine r_sub [1, 2, 0] rfl ?_
        exact X9_again_l43_ok  N _ _ _ _ h Z C hE
      · rw [if_neg c9] at h
        refine r_iconst (pc' := 40) C dX9_again_39 rfl kc_0 ?_
        have h := Option.some.inj h
        subst h
        exact r_ret C rfl dX9_again_40 hE
