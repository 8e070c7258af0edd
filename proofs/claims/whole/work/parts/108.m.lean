/-! BorrowedWeight.rests(I)I -/
def X8_rests_l32 (N : Nat)  (k84 : Int32 → Int32 → Int32 → Sg → Option (Int32 × Sg))  : Nat → Int32 → Int32 → Int32 → Int32 → Sg → Option (Int32 × Sg)
  | 0, _, _, _, _, _ => none
  | n + 1, v1, v2, v3, v4, σ =>
    if 9 < v4 then (k84 v1 v2 v3 σ) else ((X8_isBest N v1 v3 v4 σ).bind fun r7 => (if r7 = 0 then (X8_rests_l32 N k84 n v1 v2 v3 (v4 + 1) σ) else ((X8_isBest N v1 v4 v3 σ).bind fun r10 => (if r10 = 0 then (X8_rests_l32 N k84 n v1 v2 v3 (v4 + 1) σ) else (if v2 = 0 then ((X2_tell_ N v3.toInt64 v4.toInt64 σ).bind fun r14 => (X8_rests_l32 N k84 n v1 (v2 + 1) v3 (v4 + 1) r14)) else (X8_rests_l32 N k84 n v1 (v2 + 1) v3 (v4 + 1) σ))))))
set_option maxRecDepth 100000 in
set_option maxHeartbeats 4000000 in
theorem X8_rests_l32_ok {E : Ev}  {N : Nat} {k84 : Int32 → Int32 → Int32 → Sg → Option (Int32 × Sg)}  (hk84 : ∀ (v1 : Int32) (v2 : Int32) (v3 : Int32) (σ : Sg) (r : Int32 × Sg), k84 v1 v2 v3 σ = some r → Gp E RX8 cX8_rests (some .int) 5 (2) SH0 r.2 (some (.int r.1)) σ 84 [(0, .ref 0), (1, .int v1), (2, .int v2), (3, .int v3)] []) : ∀ (n : Nat) (v1 : Int32) (v2 : Int32) (v3 : Int32) (v4 : Int32) (σ : Sg) (r : Int32 × Sg), X8_rests_l32 N k84 n v1 v2 v3 v4 σ = some r → Gp E RX8 cX8_rests (some .int) 5 (2) SH0 r.2 (some (.int r.1)) σ 32 [(0, .ref 0), (1, .int v1), (2, .int v2), (3, .int v3), (4, .int v4)] [] := by
  intro n
  induction n with
  | zero => intro v1 v2 v3 v4 σ r h; cases h
  | succ n ih =>
    intro v1 v2 v3 v4 σ r h Z C hE
    unfold X8_rests_l32 at h
    refine r_iload (pc' := 34) C dX8_rests_32 rfl 4 rfl ?_
    refine r_bipush (pc' := 36) C dX8_rests_34 rfl kb_9 ?_
    refine r_icmp_gt (tgt := 84) (pc' := 39) C dX8_rests_36 rfl rfl (fun c6 => ?_) (fun c6 => ?_)
    · rw [if_pos c6] at h
      refine r_sub [0, 1, 2, 3] rfl ?_
      exact hk84 _ _ _ _ _ h Z C hE
    · rw [if_neg c6] at h
      refine r_iload_n (pc' := 40) C dX8_rests_39 rfl 1 rfl ?_
      refine r_iload_n (pc' := 41) C dX8_rests_40 rfl 3 rfl ?_
      refine r_iload (pc' := 43) C dX8_rests_41 rfl 4 rfl ?_
      obtain ⟨r7, e8, h⟩ := bd h
      refine r_cS1 (pc' := 46) C (X8_isBest_ok  e8) mlX8_386 ceX8_isBest csX8_isBest rfl (Nat.le_of_ble_eq_true rfl) rfl (Nat.le_of_ble_eq_true rfl) dX8_rests_43 rfl (kk := ?_)
      refine r_if_eq (tgt := 78) (pc' := 49) C dX8_rests_46 rfl rfl (fun c9 => ?_) (fun c9 => ?_)
      · rw [if_pos c9] at h
        refine r_iinc (pc' := 81) (v := v4 + 1) (lv2 := [(4, .int (v4 + 1)), (0, .ref 0), (1, .int v1), (2, .int v2), (3, .int v3)]) C dX8_rests_78 rfl 4 rfl rfl (Nat.le_of_ble_eq_true rfl) rfl ?_
        refine r_goto (tgt := 32) C dX8_rests_81 rfl ?_
        refine r_sub [1, 2, 3, 4, 0] rfl ?_
        exact ih _ _ _ _ _ _ h Z C hE
      · rw [if_neg c9] at h
        refine r_iload_n (pc' := 50) C dX8_rests_49 rfl 1 rfl ?_
        refine r_iload (pc' := 52) C dX8_rests_50 rfl 4 rfl ?_
        refine r_iload_n (pc' := 53) C dX8_rests_52 rfl 3 rfl ?_
        obtain ⟨r10, e11, h⟩ := bd h
        refine r_cS1 (pc' := 56) C (X8_isBest_ok  e11) mlX8_386 ceX8_isBest csX8_isBest rfl (Nat.le_of_ble_eq_true rfl) rfl (Nat.le_of_ble_eq_true rfl) dX8_rests_53 rfl (kk := ?_)
        refine r_if_eq (tgt := 78) (pc' := 59) C dX8_rests_56 rfl rfl (fun c12 => ?_) (fun c12 => ?_)
        · rw [if_pos c12] at h
          refine r_iinc (pc' := 81) (v := v4 + 1) (lv2 := [(4, .int (v4 + 1)), (0, .ref 0), (1, .int v1), (2, .int v2), (3, .int v3)]) C dX8_rests_78 rfl 4 rfl rfl (Nat.le_of_ble_eq_true rfl) rfl ?_
          refine r_goto (tgt := 32) C dX8_rests_81 rfl ?_
          refine r_sub [1, 2, 3, 4, 0] rfl ?_
          exact ih _ _ _ _ _ _ h Z C hE
        · rw [if_neg c12] at h
          refine r_iload_n (pc' := 60) C dX8_rests_59 rfl 2 rfl ?_
          refine r_if_ne (tgt := 75) (pc' := 63) C dX8_rests_60 rfl rfl (fun c13 => ?_) (fun c13 => ?_)
          · rw [if_neg c13] at h
            refine r_iinc (pc' := 78) (v := v2 + 1) (lv2 := [(2, .int (v2 + 1)), (0, .ref 0), (1, .int v1), (3, .int v3), (4, .int v4)]) C dX8_rests_75 rfl 2 rfl rfl (Nat.le_of_ble_eq_true rfl) rfl ?_
            refine r_iinc (pc' := 81) (v := v4 + 1) (lv2 := [(4, .int (v4 + 1)), (2, .int (v2 + 1)), (0, .ref 0), (1, .int v1), (3, .int v3)]) C dX8_rests_78 rfl 4 rfl rfl (Nat.le_of_ble_eq_true rfl) rfl ?_
            refine r_goto (tgt := 32) C dX8_rests_81 rfl ?_
            refine r_sub [2, 3, 1, 4, 0] rfl ?_
            exact ih _ _ _ _ _ _ h Z C hE
          · rw [if_pos c13] at h
            refine r_aload_n (pc' := 64) C dX8_rests_63 rfl 0 rfl ?_
            refine r_getR (pc' := 67) C flX8_19 sh_0 rfl dX8_rests_64 rfl ?_
            refine r_iload_n (pc' := 68) C dX8_rests_67 rfl 3 rfl ?_
            refine r_i2l (pc' := 69) C dX8_rests_68 rfl rfl ?_
            refine r_iload (pc' := 71) C dX8_rests_69 rfl 4 rfl ?_
            refine r_i2l (pc' := 72) C dX8_rests_71 rfl rfl ?_
            obtain ⟨r14, e15, h⟩ := bd h
            refine r_cV0 (pc' := 75) C (X2_tell__ok  e15) mlX8_198 ceX2_tell_ cvX2_tell_ sh_3 rfl rfl rfl (Nat.le_of_ble_eq_true rfl) rfl (Nat.le_of_ble_eq_true rfl) dX8_rests_72 rfl (kk := ?_)
            refine r_iinc (pc' := 78) (v := v2 + 1) (lv2 := [(2, .int (v2 + 1)), (0, .ref 0), (1, .int v1), (3, .int v3), (4, .int v4)]) C dX8_rests_75 rfl 2 rfl rfl (Nat.le_of_ble_eq_true rfl) rfl ?_
            refine r_iinc (pc' := 81) (v := v4 + 1) (lv2 := [(4, .int (v4 + 1)), (2, .int (v2 + 1)), (0, .ref 0), (1, .int v1), (3, .int v3)]) C dX8_rests_78 rfl 4 rfl rfl (Nat.le_of_ble_eq_true rfl) rfl ?_
            refine r_goto (tgt := 32) C dX8_rests_81 rfl ?_
            refine r_sub [2, 3, 1, 4, 0] rfl ?_
            exact ih _ _ _ _ _ _ h Z C hE
def X8_rests_j84 (N : Nat)  (kr : Int32 → Int32 → Int32 → Sg → Option (Int32 × Sg)) (v1 : Int32) (v2 : Int32) (v3 : Int32) (σ : Sg) : Option (Int32 × Sg) :=
  kr v1 v2 (v3 + 1) σ
set_option maxRecDepth 100000 in
set_option maxHeartbeats 4000000 in
theorem X8_rests_j84_ok {E : Ev}  {N : Nat} {kr : Int32 → Int32 → Int32 → Sg → Option (Int32 × Sg)}  (hkr : ∀ (v1 : Int32) (v2 : Int32) (v3 : Int32) (σ : Sg) (r : Int32 × Sg), kr v1 v2 v3 σ = some r → Gp E RX8 cX8_rests (some .int) 5 (2) SH0 r.2 (some (.int r.1)) σ 23 [(0, .ref 0), (1, .int v1), (2, .int v2), (3, .int v3)] []) {v1 : Int32} {v2 : Int32} {v3 : Int32} {σ : Sg} {r : Int32 × Sg} (h : X8_rests_j84 N  kr v1 v2 v3 σ = some r) : Gp E RX8 cX8_rests (some .int) 5 (2) SH0 r.2 (some (.int r.1)) σ 84 [(0, .ref 0), (1, .int v1), (2, .int v2), (3, .int v3)] [] := by
  intro Z C hE
  unfold X8_rests_j84 at h
  refine r_iinc (pc' := 87) (v := v3 + 1) (lv2 := [(3, .int (v3 + 1)), (0, .ref 0), (1, .int v1), (2, .int v2)]) C dX8_rests_84 rfl 3 rfl rfl (Nat.le_of_ble_eq_true rfl) rfl ?_
  refine r_goto (tgt := 23) C dX8_rests_87 rfl ?_
  refine r_sub [1, 2, 3, 0] rfl ?_
  exact hkr _ _ _ _ _ h Z C hE
def X8_rests_l23 (N : Nat)    : Nat → Int32 → Int32 → Int32 → Sg → Option (Int32 × Sg)
  | 0, _, _, _, _ => none
  | n + 1, v1, v2, v3, σ =>
    if 9 < v3 then (some (v2, σ)) else (X8_rests_l32 N (fun v1 v2 v3 σ => X8_rests_j84 N (fun v1 v2 v3 σ => X8_rests_l23 N n v1 v2 v3 σ) v1 v2 v3 σ) N v1 v2 v3 0 σ)
set_option maxRecDepth 100000 in
set_option maxHeartbeats 4000000 in
theorem X8_rests_l23_ok {E : Ev}  {N : Nat}    : ∀ (n : Nat) (v1 : Int32) (v2 : Int32) (v3 : Int32) (σ : Sg) (r : Int32 × Sg), X8_rests_l23 N n v1 v2 v3 σ = some r → Gp E RX8 cX8_rests (some .int) 5 (2) SH0 r.2 (some (.int r.1)) σ 23 [(0, .ref 0), (1, .int v1), (2, .int v2), (3, .int v3)] [] := by
  intro n
  induction n with
  | zero => intro v1 v2 v3 σ r h; cases h
  | succ n ih =>
    intro v1 v2 v3 σ r h Z C hE
    unfold X8_rests_l23 at h
    refine r_iload_n (pc' := 24) C dX8_rests_23 rfl 3 rfl ?_
    refine r_bipush (pc' := 26) C dX8_rests_24 rfl kb_9 ?_
    refine r_icmp_gt (tgt := 90) (pc' := 29) C dX8_rests_26 rfl rfl (fun c5 => ?_) (fun c5 => ?_)
    · rw [if_pos c5] at h
      refine r_iload_n (pc' := 91) C dX8_rests_90 rfl 2 rfl ?_
      have h := Option.some.inj h
      subst h
      exact r_ret C rfl dX8_rests_91 hE
    · rw [if_neg c5] at h
      refine r_iconst (pc' := 30) C dX8_rests_29 rfl kc_0 ?_
      refine r_istore (pc' := 32) (lv2 := [(4, .int 0), (0, .ref 0), (1, .int v1), (2, .int v2), (3, .int v3)]) C dX8_rests_30 rfl (Nat.le_of_ble_eq_true rfl) rfl ?_
      refine r_sub [1, 2, 3, 4, 0] rfl ?_
      exact X8_rests_l32_ok  (fun _ _ _ _ _ h Z C hE => by exact X8_rests_j84_ok  ih h Z C hE) N _ _ _ _ _ _ h Z C hE
def X8_rests (N : Nat)  (v1 : Int32) (σ : Sg) : Option (Int32 × Sg) :=
  if v1 < 0 then (some ((-1), σ)) else (if v1 ≤ 20 then ((X2_clear N σ).bind fun r3 => (X8_rests_l23 N N v1 0 0 r3)) else (some ((-1), σ)))
set_option maxRecDepth 100000 in
set_option maxHeartbeats 4000000 in
theorem X8_rests_ok {E : Ev}  {N : Nat} {v1 : Int32} {σ : Sg} {r : Int32 × Sg} (h : X8_rests N  v1 σ = some r) : Cm E (2) yX8_rests cX8_rests 5 (some .int) [.ref 0, .int v1] SH0 SH0 σ r.2 (some (.int r.1)) 0 0 := by
  refine Cm.intro (by decide +kernel) (Nat.le_of_ble_eq_true rfl) (fun _ h => by obtain ⟨_, _, _, _, _, _, h⟩ := h; exact h) (fun Z C hE => ?_)
  show Wm E Z 0 0 SH0 σ 0 [(0, .ref 0), (1, .int v1)] []
  unfold X8_rests at h
  refine r_iload_n (pc' := 1) C dX8_rests_0 rfl 1 rfl ?_
  refine r_if_lt (tgt := 10) (pc' := 4) C dX8_rests_1 rfl rfl (fun c1 => ?_) (fun c1 => ?_)
  · rw [if_pos c1] at h
    refine r_iconst (pc' := 11) C dX8_rests_10 rfl kc_m1 ?_
    have h := Option.some.inj h
    subst h
    exact r_ret C rfl dX8_rests_11 hE
  · rw [if_neg c1] at h
    refine r_iload_n (pc' := 5) C dX8_rests_4 rfl 1 rfl ?_
    refine r_bipush (pc' := 7) C dX8_rests_5 rfl kb_20 ?_
    refine r_icmp_le (tgt := 12) (pc' := 10) C dX8_rests_7 rfl rfl (fun c2 => ?_) (fun c2 => ?_)
    · rw [if_pos c2] at h
      refine r_aload_n (pc' := 13) C dX8_rests_12 rfl 0 rfl ?_
      refine r_getR (pc' := 16) C flX8_19 sh_0 rfl dX8_rests_13 rfl ?_
      obtain ⟨r3, e4, h⟩ := bd h
      refine r_cV0 (pc' := 19) C (X2_clear_ok  e4) mlX8_264 ceX2_clear cvX2_clear sh_3 rfl rfl rfl (Nat.le_of_ble_eq_true rfl) rfl (Nat.le_of_ble_eq_true rfl) dX8_rests_16 rfl (kk := ?_)
      refine r_iconst (pc' := 20) C dX8_rests_19 rfl kc_0 ?_
      refine r_istore_n (pc' := 21) (lv2 := [(2, .int 0), (0, .ref 0), (1, .int v1)]) C dX8_rests_20 rfl rfl (Nat.le_of_ble_eq_true rfl) rfl ?_
      refine r_iconst (pc' := 22) C dX8_rests_21 rfl kc_0 ?_
      refine r_istore_n (pc' := 23) (lv2 := [(3, .int 0), (2, .int 0), (0, .ref 0), (1, .int v1)]) C dX8_rests_22 rfl rfl (Nat.le_of_ble_eq_true rfl) rfl ?_
      refine r_sub [2, 3, 1, 0] rfl ?_
      exact X8_rests_l23_ok  N _ _ _ _ _ h Z C hE
    · rw [if_neg c2] at h
      refine r_iconst (pc' := 11) C dX8_rests_10 rfl kc_m1 ?_
      have h := Option.some.inj h
      subst h
      exact r_ret C rfl dX8_rests_11 hE

/-! BorrowedWeight.nextLuck(I)I -/
def X8_nextLuck (N : Nat)  (v0 : Int32) (σ : Sg) : Option (Int32) :=
  some ((v0 * 1103515245) + 12345)
set_option maxRecDepth 100000 in
set_option maxHeartbeats 4000000 in
theorem X8_nextLuck_ok {E : Ev}  {N : Nat} {v0 : Int32} {σ : Sg} {r : Int32} (h : X8_nextLuck N  v0 σ = some r) : Cm E (0) yX8_nextLuck cX8_nextLuck 1 (some .int) [.int v0] SH0 SH0 σ σ (some (.int r)) 0 0 := by
  refine Cm.intro (by decide +kernel) (Nat.le_of_ble_eq_true rfl) (fun _ h => by obtain ⟨_, _, _, _, _, _, h⟩ := h; exact h) (fun Z C hE => ?_)
  show Wm E Z 0 0 SH0 σ 0 [(0, .int v0)] []
  unfold X8_nextLuck at h
  refine r_iload_n (pc' := 1) C dX8_nextLuck_0 rfl 0 rfl ?_
  refine r_ldcw (pc' := 4) C cnX8_452 dX8_nextLuck_1 rfl ?_
  refine r_imul (pc' := 5) C dX8_nextLuck_4 rfl ?_
  refine r_sipush (pc' := 8) C dX8_nextLuck_5 rfl ks_12345 ?_
  refine r_iadd (pc' := 9) C dX8_nextLuck_8 rfl ?_
  have h := Option.some.inj h
  subst h
  exact r_ret C rfl dX8_nextLuck_9 hE

/-! BorrowedWeight.drawn(II)I -/
def X8_drawn (N : Nat)  (v0 : Int32) (v1 : Int32) (σ : Sg) : Option (Int32) :=
  if v1 ≤ 0 then (some 0) else (if v1 = 0 then none else some ((ushr v0 16) - (ushr v0 16) / v1 * v1))
set_option maxRecDepth 100000 in
set_option maxHeartbeats 4000000 in
theorem X8_drawn_ok {E : Ev}  {N : Nat} {v0 : Int32} {v1 : Int32} {σ : Sg} {r : Int32} (h : X8_drawn N  v0 v1 σ = some r) : Cm E (0) yX8_drawn cX8_drawn 2 (some .int) [.int v0, .int v1] SH0 SH0 σ σ (some (.int r)) 0 0 := by
  refine Cm.intro (by decide +kernel) (Nat.le_of_ble_eq_true rfl) (fun _ h => by obtain ⟨_, _, _, _, _, _, h⟩ := h; exact h) (fun Z C hE => ?_)
  show Wm E Z 0 0 SH0 σ 0 [(0, .int v0), (1, .int v1)] []
  unfold X8_drawn at h
  refine r_iload_n (pc' := 1) C dX8_drawn_0 rfl 1 rfl ?_
  refine r_if_le (tgt := 13) (pc' := 4) C dX8_drawn_1 rfl rfl (fun c1 => ?_) (fun c1 => ?_)
  · rw [if_pos c1] at h
    refine r_iconst (pc' := 14) C dX8_drawn_13 rfl kc_0 ?_
    have h := Option.some.inj h
    subst h
    exact r_ret C rfl dX8_drawn_14 hE
  · rw [if_neg c1] at h
    refine r_iload_n (pc' := 5) C dX8_drawn_4 rfl 0 rfl ?_
    refine r_bipush (pc' := 7) C dX8_drawn_5 rfl kb_16 ?_
    refine r_iushr (pc' := 8) (v := ushr v0 16) C dX8_drawn_7 rfl rfl ?_
    refine r_iload_n (pc' := 9) C dX8_drawn_8 rfl 1 rfl ?_
    obtain ⟨q2, h⟩ := ck0 h
    refine r_irem (pc' := 10) C dX8_drawn_9 rfl q2 ?_
    refine r_goto (tgt := 14) C dX8_drawn_10 rfl ?_
    have h := Option.some.inj h
    subst h
    exact r_ret C rfl dX8_drawn_14 hE

/-! BorrowedWeight.years(II)I -/
def X8_years_l32 (N : Nat)  (k170 : Int32 → Sg → Option (Int32 × Sg))  : Nat → Int32 → Int32 → Int32 → Int32 → Sg → Option (Int32 × Sg)
  | 0, _, _, _, _, _ => none
  | n + 1, v2, v3, v4, v5, σ =>
    if v2 ≤ v5 then (k170 v4 σ) else ((X8_nextLuck N v3 σ).bind fun r6 => ((X8_drawn N r6 4 σ).bind fun r8 => (if 2 ≤ r8 then (if (gi σ 5 1) ≤ 0 then (X8_years_l32 N k170 n v2 r6 v4 (v5 + 1) σ) else ((X8_nextLuck N r6 σ).bind fun r12 => ((X8_drawn N r12 (gi σ 5 1) σ).bind fun r14 => ((X8_nextLuck N r12 σ).bind fun r16 => (if r8 = 2 then ((X8_drawn N r16 3 σ).bind fun r23 => ((X0_lend N 24 r14 (1 + r23) σ).bind fun r25 => (X8_years_l32 N k170 n v2 r16 v4 (v5 + 1) r25.2))) else ((X8_drawn N r16 (gi σ 5 1) σ).bind fun r19 => ((X0_tieOrCut N 24 r14 r19 σ).bind fun r21 => (X8_years_l32 N k170 n v2 r16 v4 (v5 + 1) r21.2)))))))) else ((X0_passHours N 24 1 σ).bind fun r27 => (X8_years_l32 N k170 n v2 r6 (v4 + r27.1) (v5 + 1) r27.2)))))
set_option maxRecDepth 100000 in
set_option maxHeartbeats 4000000 in
theorem X8_years_l32_ok {E : Ev}  {N : Nat} {k170 : Int32 → Sg → Option (Int32 × Sg)}  (hk170 : ∀ (v4 : Int32) (σ : Sg) (r : Int32 × Sg), k170 v4 σ = some r → Gp E RX8 cX8_years (some .int) 8 (5) SH0 r.2 (some (.int r.1)) σ 170 [(0, .ref 0), (4, .int v4)] []) : ∀ (n : Nat) (v2 : Int32) (v3 : Int32) (v4 : Int32) (v5 : Int32) (σ : Sg) (r : Int32 × Sg), X8_years_l32 N k170 n v2 v3 v4 v5 σ = some r → Gp E RX8 cX8_years (some .int) 8 (5) SH0 r.2 (some (.int r.1)) σ 32 [(0, .ref 0), (2, .int v2), (3, .int v3), (4, .int v4), (5, .int v5)] [] := by
  intro n
  induction n with
  | zero => intro v2 v3 v4 v5 σ r h; cases h
  | succ n ih =>
    intro v2 v3 v4 v5 σ r h Z C hE
    unfold X8_years_l32 at h
    refine r_iload (pc' := 34) C dX8_years_32 rfl 4 rfl ?_
    refine r_iload_n (pc' := 35) C dX8_years_34 rfl 1 rfl ?_
    refine r_icmp_ge (tgt := 170) (pc' := 38) C dX8_years_35 rfl rfl (fun c5 => ?_) (fun c5 => ?_)
    · rw [if_pos c5] at h
      refine r_sub [0, 3] rfl ?_
      exact hk170 _ _ _ h Z C hE
    · rw [if_neg c5] at h
      refine r_iload_n (pc' := 39) C dX8_years_38 rfl 2 rfl ?_
      obtain ⟨r6, e7, h⟩ := bd h
      refine r_cS1 (pc' := 42) C (X8_nextLuck_ok  e7) mlX8_389 ceX8_nextLuck csX8_nextLuck rfl (Nat.le_of_ble_eq_true rfl) rfl (Nat.le_of_ble_eq_true rfl) dX8_years_39 rfl (kk := ?_)
      refine r_istore_n (pc' := 43) (lv2 := [(3, .int r6), (0, .ref 0), (2, .int v2), (4, .int v4), (5, .int v5)]) C dX8_years_42 rfl rfl (Nat.le_of_ble_eq_true rfl) rfl ?_
      refine r_iload_n (pc' := 44) C dX8_years_43 rfl 0 rfl ?_
      refine r_iconst (pc' := 45) C dX8_years_44 rfl kc_4 ?_
      obtain ⟨r8, e9, h⟩ := bd h
      refine r_cS1 (pc' := 48) C (X8_drawn_ok  e9) mlX8_392 ceX8_drawn csX8_drawn rfl (Nat.le_of_ble_eq_true rfl) rfl (Nat.le_of_ble_eq_true rfl) dX8_years_45 rfl (kk := ?_)
      refine r_istore (pc' := 50) (lv2 := [(6, .int r8), (3, .int r6), (0, .ref 0), (2, .int v2), (4, .int v4), (5, .int v5)]) C dX8_years_48 rfl (Nat.le_of_ble_eq_true rfl) rfl ?_
      refine r_iload (pc' := 52) C dX8_years_50 rfl 0 rfl ?_
      refine r_iconst (pc' := 53) C dX8_years_52 rfl kc_2 ?_
      refine r_icmp_ge (tgt := 76) (pc' := 56) C dX8_years_53 rfl rfl (fun c10 => ?_) (fun c10 => ?_)
      · rw [if_pos c10] at h
        refine r_aload_n (pc' := 77) C dX8_years_76 rfl 2 rfl ?_
        refine r_getR (pc' := 80) C flX8_26 sh_0 rfl dX8_years_77 rfl ?_
        refine r_getI (pc' := 83) C flX8_265 sh_5 rfl dX8_years_80 rfl ?_
        refine r_if_le (tgt := 164) (pc' := 86) C dX8_years_83 rfl rfl (fun c11 => ?_) (fun c11 => ?_)
        · rw [if_pos c11] at h
          refine r_iinc (pc' := 167) (v := v5 + 1) (lv2 := [(5, .int (v5 + 1)), (6, .int r8), (3, .int r6), (0, .ref 0), (2, .int v2), (4, .int v4)]) C dX8_years_164 rfl 5 rfl rfl (Nat.le_of_ble_eq_true rfl) rfl ?_
          refine r_goto (tgt := 32) C dX8_years_167 rfl ?_
          refine r_sub [3, 4, 2, 5, 0] rfl ?_
          exact ih _ _ _ _ _ _ h Z C hE
        · rw [if_neg c11] at h
          refine r_iload_n (pc' := 87) C dX8_years_86 rfl 1 rfl ?_
          obtain ⟨r12, e13, h⟩ := bd h
          refine r_cS1 (pc' := 90) C (X8_nextLuck_ok  e13) mlX8_389 ceX8_nextLuck csX8_nextLuck rfl (Nat.le_of_ble_eq_true rfl) rfl (Nat.le_of_ble_eq_true rfl) dX8_years_87 rfl (kk := ?_)
          refine r_istore_n (pc' := 91) (lv2 := [(3, .int r12), (6, .int r8), (0, .ref 0), (2, .int v2), (4, .int v4), (5, .int v5)]) C dX8_years_90 rfl rfl (Nat.le_of_ble_eq_true rfl) rfl ?_
          refine r_iload_n (pc' := 92) C dX8_years_91 rfl 0 rfl ?_
          refine r_aload_n (pc' := 93) C dX8_years_92 rfl 2 rfl ?_
          refine r_getR (pc' := 96) C flX8_26 sh_0 rfl dX8_years_93 rfl ?_
          refine r_getI (pc' := 99) C flX8_265 sh_5 rfl dX8_years_96 rfl ?_
          obtain ⟨r14, e15, h⟩ := bd h
          refine r_cS1 (pc' := 102) C (X8_drawn_ok  e15) mlX8_392 ceX8_drawn csX8_drawn rfl (Nat.le_of_ble_eq_true rfl) rfl (Nat.le_of_ble_eq_true rfl) dX8_years_99 rfl (kk := ?_)
          refine r_istore (pc' := 104) (lv2 := [(7, .int r14), (3, .int r12), (6, .int r8), (0, .ref 0), (2, .int v2), (4, .int v4), (5, .int v5)]) C dX8_years_102 rfl (Nat.le_of_ble_eq_true rfl) rfl ?_
          refine r_iload_n (pc' := 105) C dX8_years_104 rfl 1 rfl ?_
          obtain ⟨r16, e17, h⟩ := bd h
          refine r_cS1 (pc' := 108) C (X8_nextLuck_ok  e17) mlX8_389 ceX8_nextLuck csX8_nextLuck rfl (Nat.le_of_ble_eq_true rfl) rfl (Nat.le_of_ble_eq_true rfl) dX8_years_105 rfl (kk := ?_)
          refine r_istore_n (pc' := 109) (lv2 := [(3, .int r16), (7, .int r14), (6, .int r8), (0, .ref 0), (2, .int v2), (4, .int v4), (5, .int v5)]) C dX8_years_108 rfl rfl (Nat.le_of_ble_eq_true rfl) rfl ?_
          refine r_iload (pc' := 111) C dX8_years_109 rfl 2 rfl ?_
          refine r_iconst (pc' := 112) C dX8_years_111 rfl kc_2 ?_
          refine r_icmp_ne (tgt := 139) (pc' := 115) C dX8_years_112 rfl rfl (fun c18 => ?_) (fun c18 => ?_)
          · rw [if_neg c18] at h
            refine r_aload_n (pc' := 140) C dX8_years_139 rfl 3 rfl ?_
            refine r_getR (pc' := 143) C flX8_26 sh_0 rfl dX8_years_140 rfl ?_
            refine r_aload_n (pc' := 144) C dX8_years_143 rfl 3 rfl ?_
            refine r_getR (pc' := 147) C flX8_37 sh_0 rfl dX8_years_144 rfl ?_
            refine r_iload (pc' := 149) C dX8_years_147 rfl 1 rfl ?_
            refine r_iload_n (pc' := 150) C dX8_years_149 rfl 0 rfl ?_
            refine r_aload_n (pc' := 151) C dX8_years_150 rfl 3 rfl ?_
            refine r_getR (pc' := 154) C flX8_26 sh_0 rfl dX8_years_151 rfl ?_
            refine r_getI (pc' := 157) C flX8_265 sh_5 rfl dX8_years_154 rfl ?_
            obtain ⟨r19, e20, h⟩ := bd h
            refine r_cS1 (pc' := 160) C (X8_drawn_ok  e20) mlX8_392 ceX8_drawn csX8_drawn rfl (Nat.le_of_ble_eq_true rfl) rfl (Nat.le_of_ble_eq_true rfl) dX8_years_157 rfl (kk := ?_)
            obtain ⟨r21, e22, h⟩ := bd h
            refine r_cV1 (pc' := 163) C (X0_tieOrCut_ok stc_24 e22) mlX8_216 ceX0_tieOrCut cvX0_tieOrCut sh_5 rfl rfl rfl (Nat.le_of_ble_eq_true rfl) rfl (Nat.le_of_ble_eq_true rfl) dX8_years_160 rfl (kk := ?_)
            refine r_pop (pc' := 164) C dX8_years_163 rfl rfl ?_
            refine r_iinc (pc' := 167) (v := v5 + 1) (lv2 := [(5, .int (v5 + 1)), (3, .int r16), (7, .int r14), (6, .int r8), (0, .ref 0), (2, .int v2), (4, .int v4)]) C dX8_years_164 rfl 6 rfl rfl (Nat.le_of_ble_eq_true rfl) rfl ?_
            refine r_goto (tgt := 32) C dX8_years_167 rfl ?_
            refine r_sub [4, 5, 1, 6, 0] rfl ?_
            exact ih _ _ _ _ _ _ h Z C hE
          · rw [if_pos c18] at h
            refine r_aload_n (pc' := 116) C dX8_years_115 rfl 3 rfl ?_
            refine r_getR (pc' := 119) C flX8_26 sh_0 rfl dX8_years_116 rfl ?_
            refine r_aload_n (pc' := 120) C dX8_years_119 rfl 3 rfl ?_
            refine r_getR (pc' := 123) C flX8_37 sh_0 rfl dX8_years_120 rfl ?_
            refine r_iload (pc' := 125) C dX8_years_123 rfl 1 rfl ?_
            refine r_iconst (pc' := 126) C dX8_years_125 rfl kc_1 ?_
            refine r_iload_n (pc' := 127) C dX8_years_126 rfl 0 rfl ?_
            refine r_iconst (pc' := 128) C dX8_years_127 rfl kc_3 ?_
            obtain ⟨r23, e24, h⟩ := bd h
            refine r_cS1 (pc' := 131) C (X8_drawn_ok  e24) mlX8_392 ceX8_drawn csX8_drawn rfl (Nat.le_of_ble_eq_true rfl) rfl (Nat.le_of_ble_eq_true rfl) dX8_years_128 rfl (kk := ?_)
            refine r_iadd (pc' := 132) C dX8_years_131 rfl ?_
            obtain ⟨r25, e26, h⟩ := bd h
            refine r_cV1 (pc' := 135) C (X0_lend_ok stc_24 e26) mlX8_206 ceX0_lend cvX0_lend sh_5 rfl rfl rfl (Nat.le_of_ble_eq_true rfl) rfl (Nat.le_of_ble_eq_true rfl) dX8_years_132 rfl (kk := ?_)
            refine r_pop (pc' := 136) C dX8_years_135 rfl rfl ?_
            refine r_goto (tgt := 164) C dX8_years_136 rfl ?_
            refine r_iinc (pc' := 167) (v := v5 + 1) (lv2 := [(5, .int (v5 + 1)), (3, .int r16), (7, .int r14), (6, .int r8), (0, .ref 0), (2, .int v2), (4, .int v4)]) C dX8_years_164 rfl 6 rfl rfl (Nat.le_of_ble_eq_true rfl) rfl ?_
            refine r_goto (tgt := 32) C dX8_years_167 rfl ?_
            refine r_sub [4, 5, 1, 6, 0] rfl ?_
            exact ih _ _ _ _ _ _ h Z C hE
      · rw [if_neg c10] at h
        refine r_iload (pc' := 58) C dX8_years_56 rfl 4 rfl ?_
        refine r_aload_n (pc' := 59) C dX8_years_58 rfl 2 rfl ?_
        refine r_getR (pc' := 62) C flX8_26 sh_0 rfl dX8_years_59 rfl ?_
        refine r_aload_n (pc' := 63) C dX8_years_62 rfl 2 rfl ?_
        refine r_getR (pc' := 66) C flX8_37 sh_0 rfl dX8_years_63 rfl ?_
        refine r_iconst (pc' := 67) C dX8_years_66 rfl kc_1 ?_
        obtain ⟨r27, e28, h⟩ := bd h
        refine r_cV1 (pc' := 70) C (X0_passHours_ok stc_24 e28) mlX8_194 ceX0_passHours cvX0_passHours sh_5 rfl rfl rfl (Nat.le_of_ble_eq_true rfl) rfl (Nat.le_of_ble_eq_true rfl) dX8_years_67 rfl (kk := ?_)
        refine r_iadd (pc' := 71) C dX8_years_70 rfl ?_
        refine r_istore (pc' := 73) (lv2 := [(4, .int (v4 + r27.1)), (6, .int r8), (3, .int r6), (0, .ref 0), (2, .int v2), (5, .int v5)]) C dX8_years_71 rfl (Nat.le_of_ble_eq_true rfl) rfl ?_
        refine r_goto (tgt := 164) C dX8_years_73 rfl ?_
        refine r_iinc (pc' := 167) (v := v5 + 1) (lv2 := [(5, .int (v5 + 1)), (4, .int (v4 + r27.1)), (6, .int r8), (3, .int r6), (0, .ref 0), (2, .int v2)]) C dX8_years_164 rfl 5 rfl rfl (Nat.le_of_ble_eq_true rfl) rfl ?_
        refine r_goto (tgt := 32) C dX8_years_167 rfl ?_
        refine r_sub [4, 5, 3, 1, 0] rfl ?_
        exact ih _ _ _ _ _ _ h Z C hE
def X8_years_j170 (N : Nat)   (v4 : Int32) (σ : Sg) : Option (Int32 × Sg) :=
  (X2_tell_ N ((gi σ 24 5).toInt64) v4.toInt64 σ).bind fun r29 => ((X0_present N 24 r29).bind fun r31 => (some (r31, r29)))
set_option maxRecDepth 100000 in
set_option maxHeartbeats 4000000 in
theorem X8_years_j170_ok {E : Ev}  {N : Nat}    {v4 : Int32} {σ : Sg} {r : Int32 × Sg} (h : X8_years_j170 N   v4 σ = some r) : Gp E RX8 cX8_years (some .int) 8 (5) SH0 r.2 (some (.int r.1)) σ 170 [(0, .ref 0), (4, .int v4)] [] := by
  intro Z C hE
  unfold X8_years_j170 at h
  refine r_aload_n (pc' := 171) C dX8_years_170 rfl 0 rfl ?_
  refine r_getR (pc' := 174) C flX8_19 sh_0 rfl dX8_years_171 rfl ?_
  refine r_aload_n (pc' := 175) C dX8_years_174 rfl 0 rfl ?_
  refine r_getR (pc' := 178) C flX8_37 sh_0 rfl dX8_years_175 rfl ?_
  refine r_getI (pc' := 181) C flX8_222 sh_24 rfl dX8_years_178 rfl ?_
  refine r_i2l (pc' := 182) C dX8_years_181 rfl rfl ?_
  refine r_iload (pc' := 184) C dX8_years_182 rfl 1 rfl ?_
  refine r_i2l (pc' := 185) C dX8_years_184 rfl rfl ?_
  obtain ⟨r29, e30, h⟩ := bd h
  refine r_cV0 (pc' := 188) C (X2_tell__ok  e30) mlX8_198 ceX2_tell_ cvX2_tell_ sh_3 rfl rfl rfl (Nat.le_of_ble_eq_true rfl) rfl (Nat.le_of_ble_eq_true rfl) dX8_years_185 rfl (kk := ?_)
  refine r_aload_n (pc' := 189) C dX8_years_188 rfl 0 rfl ?_
  refine r_getR (pc' := 192) C flX8_26 sh_0 rfl dX8_years_189 rfl ?_
  refine r_aload_n (pc' := 193) C dX8_years_192 rfl 0 rfl ?_
  refine r_getR (pc' := 196) C flX8_37 sh_0 rfl dX8_years_193 rfl ?_
  obtain ⟨r31, e32, h⟩ := bd h
  refine r_cV1 (pc' := 199) C (X0_present_ok stc_24 e32) mlX8_202 ceX0_present cvX0_present sh_5 rfl rfl rfl (Nat.le_of_ble_eq_true rfl) rfl (Nat.le_of_ble_eq_true rfl) dX8_years_196 rfl (kk := ?_)
  have h := Option.some.inj h
  subst h
  exact r_ret C rfl dX8_years_199 hE
def X8_years (N : Nat)  (v1 : Int32) (v2 : Int32) (σ : Sg) : Option (Int32 × Sg) :=
  if v2 < 1 then (some ((-1), σ)) else (if v2 ≤ 60 then ((X5_become N 24 19 σ).bind fun r3 => (X8_years_l32 N (fun v4 σ => X8_years_j170 N v4 σ) N v2 v1 0 0 r3)) else (some ((-1), σ)))
set_option maxRecDepth 100000 in
set_option maxHeartbeats 4000000 in
theorem X8_years_ok {E : Ev}  {N : Nat} {v1 : Int32} {v2 : Int32} {σ : Sg} {r : Int32 × Sg} (h : X8_years N  v1 v2 σ = some r) : Cm E (5) yX8_years cX8_years 8 (some .int) [.ref 0, .int v1, .int v2] SH0 SH0 σ r.2 (some (.int r.1)) 0 0 := by
  refine Cm.intro (by decide +kernel) (Nat.le_of_ble_eq_true rfl) (fun _ h => by obtain ⟨_, _, _, _, _, _, h⟩ := h; exact h) (fun Z C hE => ?_)
  show Wm E Z 0 0 SH0 σ 0 [(0, .ref 0), (1, .int v1), (2, .int v2)] []
  unfold X8_years at h
  refine r_iload_n (pc' := 1) C dX8_years_0 rfl 2 rfl ?_
  refine r_iconst (pc' := 2) C dX8_years_1 rfl kc_1 ?_
  refine r_icmp_lt (tgt := 11) (pc' := 5) C dX8_years_2 rfl rfl (fun c1 => ?_) (fun c1 => ?_)
  · rw [if_pos c1] at h
    refine r_iconst (pc' := 12) C dX8_years_11 rfl kc_m1 ?_
    have h := Option.some.inj h
    subst h
    exact r_ret C rfl dX8_years_12 hE
  · rw [if_neg c1] at h
    refine r_iload_n (pc' := 6) C dX8_years_5 rfl 2 rfl ?_
    refine r_bipush (pc' := 8) C dX8_years_6 rfl kb_60 ?_
    refine r_icmp_le (tgt := 13) (pc' := 11) C dX8_years_8 rfl rfl (fun c2 => ?_) (fun c2 => ?_)
    · rw [if_pos c2] at h
      refine r_aload_n (pc' := 14) C dX8_years_13 rfl 0 rfl ?_
      refine r_getR (pc' := 17) C flX8_37 sh_0 rfl dX8_years_14 rfl ?_
      refine r_aload_n (pc' := 18) C dX8_years_17 rfl 0 rfl ?_
      refine r_getR (pc' := 21) C flX8_33 sh_0 rfl dX8_years_18 rfl ?_
      obtain ⟨r3, e4, h⟩ := bd h
      refine r_cV0 (pc' := 24) C (X5_become_ok stc_24 stc_19 e4) mlX8_286 ceX5_become cvX5_become sh_24 rfl rfl rfl (Nat.le_of_ble_eq_true rfl) rfl (Nat.le_of_ble_eq_true rfl) dX8_years_21 rfl (kk := ?_)
      refine r_iload_n (pc' := 25) C dX8_years_24 rfl 1 rfl ?_
      refine r_istore_n (pc' := 26) (lv2 := [(3, .int v1), (0, .ref 0), (1, .int v1), (2, .int v2)]) C dX8_years_25 rfl rfl (Nat.le_of_ble_eq_true rfl) rfl ?_
      refine r_iconst (pc' := 27) C dX8_years_26 rfl kc_0 ?_
      refine r_istore (pc' := 29) (lv2 := [(4, .int 0), (3, .int v1), (0, .ref 0), (1, .int v1), (2, .int v2)]) C dX8_years_27 rfl (Nat.le_of_ble_eq_true rfl) rfl ?_
      refine r_iconst (pc' := 30) C dX8_years_29 rfl kc_0 ?_
      refine r_istore (pc' := 32) (lv2 := [(5, .int 0), (4, .int 0), (3, .int v1), (0, .ref 0), (1, .int v1), (2, .int v2)]) C dX8_years_30 rfl (Nat.le_of_ble_eq_true rfl) rfl ?_
      refine r_sub [3, 5, 2, 1, 0] rfl ?_
      exact X8_years_l32_ok  (fun _ _ _ h Z C hE => by exact X8_years_j170_ok  h Z C hE) N _ _ _ _ _ _ h Z C hE
    · rw [if_neg c2] at h
      refine r_iconst (pc' := 12) C dX8_years_11 rfl kc_m1 ?_
      have h := Option.some.inj h
      subst h
      exact r_ret C rfl dX8_years_12 hE

/-! BorrowedWeight$Shelf.put(ILBorrowedWeight$State;)Z -/
def X4_put (N : Nat) (k2 : Nat) (v1 : Int32) (σ : Sg) : Option (Int32 × Sg) :=
  if v1 < 0 then (some (0, σ)) else (if v1 < 3 then (if inb v1 3 = true then (L112.getD v1.toNatClampNeg none).bind fun p4 => (if isState p4 = true then (X5_become N p4 k2 σ).bind fun r7 => (bnS (wi r7 111 1 ((gi r7 111 1) ||| (1 <<< (v1 &&& 31)))) fun σ9 => some (1, σ9)) else none) else none) else (some (0, σ)))
set_option maxRecDepth 100000 in
set_option maxHeartbeats 4000000 in
theorem X4_put_ok {E : Ev} {k2 : Nat} (hk2 : StAt SH0 k2) {N : Nat} {v1 : Int32} {σ : Sg} {r : Int32 × Sg} (h : X4_put N k2 v1 σ = some r) : Cm E (1) yX4_put cX4_put 3 (some .boolean) [.ref 111, .int v1, .ref k2] SH0 SH0 σ r.2 (some (.int r.1)) 0 0 := by
  refine Cm.intro (by decide +kernel) (Nat.le_of_ble_eq_true rfl) (fun _ h => by obtain ⟨_, _, _, _, _, _, h⟩ := h; exact h) (fun Z C hE => ?_)
  show Wm E Z 0 0 SH0 σ 0 [(0, .ref 111), (1, .int v1), (2, .ref k2)] []
  unfold X4_put at h
  refine r_iload_n (pc' := 1) C dX4_put_0 rfl 1 rfl ?_
  refine r_if_lt (tgt := 9) (pc' := 4) C dX4_put_1 rfl rfl (fun c1 => ?_) (fun c1 => ?_)
  · rw [if_pos c1] at h
    refine r_iconst (pc' := 10) C dX4_put_9 rfl kc_0 ?_
    have h := Option.some.inj h
    subst h
    exact r_ret C rfl dX4_put_10 hE
  · rw [if_neg c1] at h
    refine r_iload_n (pc' := 5) C dX4_put_4 rfl 1 rfl ?_
    refine r_iconst (pc' := 6) C dX4_put_5 rfl kc_3 ?_
    refine r_icmp_lt (tgt := 11) (pc' := 9) C dX4_put_6 rfl rfl (fun c2 => ?_) (fun c2 => ?_)
    · rw [if_pos c2] at h
      refine r_aload_n (pc' := 12) C dX4_put_11 rfl 0 rfl ?_
      refine r_getR (pc' := 15) C flX4_11 sh_111 rfl dX4_put_12 rfl ?_
      refine r_iload_n (pc' := 16) C dX4_put_15 rfl 1 rfl ?_
      obtain ⟨q3, h⟩ := ck h
      obtain ⟨p4, e5, h⟩ := bd h
      refine r_aald (pc' := 17) (l := L112) C sh_112 (vin q3) e5 dX4_put_16 rfl ?_
      refine r_aload_n (pc' := 18) C dX4_put_17 rfl 2 rfl ?_
      obtain ⟨q6, h⟩ := ck h
      obtain ⟨r7, e8, h⟩ := bd h
      refine r_cV0 (pc' := 21) C (X5_become_ok (stof q6) hk2 e8) mlX4_20 ceX5_become cvX5_become (st0 (stof q6)) rfl rfl rfl (Nat.le_of_ble_eq_true rfl) rfl (Nat.le_of_ble_eq_true rfl) dX4_put_18 rfl (kk := ?_)
      refine r_aload_n (pc' := 22) C dX4_put_21 rfl 0 rfl ?_
      refine r_dup (pc' := 23) C dX4_put_22 rfl rfl ?_
      refine r_getI (pc' := 26) C flX4_16 sh_111 rfl dX4_put_23 rfl ?_
      refine r_iconst (pc' := 27) C dX4_put_26 rfl kc_1 ?_
      refine r_iload_n (pc' := 28) C dX4_put_27 rfl 1 rfl ?_
      refine r_ishl (pc' := 29) C dX4_put_28 rfl ?_
      refine r_ior (pc' := 30) C dX4_put_29 rfl ?_
      obtain ⟨σ9, e10, h⟩ := bs h
      refine r_putI (pc' := 33) (σ1 := σ9) C fpX4_16 sh_111 rfl rfl rfl dX4_put_30 rfl e10 ?_
      refine r_iconst (pc' := 34) C dX4_put_33 rfl kc_1 ?_
      have h := Option.some.inj h
      subst h
      exact r_ret C rfl dX4_put_34 hE
    · rw [if_neg c2] at h
      refine r_iconst (pc' := 10) C dX4_put_9 rfl kc_0 ?_
      have h := Option.some.inj h
      subst h
      exact r_ret C rfl dX4_put_10 hE

/-! BorrowedWeight.keep(I)Z -/
def X8_keep (N : Nat)  (v1 : Int32) (σ : Sg) : Option (Int32 × Sg) :=
  (X4_put N 19 v1 σ).bind fun r1 => (if isB r1.1 = true then some (r1.1, r1.2) else none)
set_option maxRecDepth 100000 in
set_option maxHeartbeats 4000000 in
theorem X8_keep_ok {E : Ev}  {N : Nat} {v1 : Int32} {σ : Sg} {r : Int32 × Sg} (h : X8_keep N  v1 σ = some r) : Cm E (2) yX8_keep cX8_keep 2 (some .boolean) [.ref 0, .int v1] SH0 SH0 σ r.2 (some (.int r.1)) 0 0 := by
  refine Cm.intro (by decide +kernel) (Nat.le_of_ble_eq_true rfl) (fun _ h => by obtain ⟨_, _, _, _, _, _, h⟩ := h; exact h) (fun Z C hE => ?_)
  show Wm E Z 0 0 SH0 σ 0 [(0, .ref 0), (1, .int v1)] []
  unfold X8_keep at h
  refine r_aload_n (pc' := 1) C dX8_keep_0 rfl 0 rfl ?_
  refine r_getR (pc' := 4) C flX8_50 sh_0 rfl dX8_keep_1 rfl ?_
  refine r_iload_n (pc' := 5) C dX8_keep_4 rfl 1 rfl ?_
  refine r_aload_n (pc' := 6) C dX8_keep_5 rfl 0 rfl ?_
  refine r_getR (pc' := 9) C flX8_33 sh_0 rfl dX8_keep_6 rfl ?_
  obtain ⟨r1, e2, h⟩ := bd h
  refine r_cV1 (pc' := 12) C (X4_put_ok stc_19 e2) mlX8_395 ceX4_put cvX4_put sh_111 rfl rfl rfl (Nat.le_of_ble_eq_true rfl) rfl (Nat.le_of_ble_eq_true rfl) dX8_keep_9 rfl (kk := ?_)
  obtain ⟨q3, h⟩ := ck h
  have h := Option.some.inj h
  subst h
  exact r_ret C (nisB q3) dX8_keep_12 hE

/-! BorrowedWeight$Shelf.fetch(ILBorrowedWeight$State;)Z -/
def X4_fetch (N : Nat) (k2 : Nat) (v1 : Int32) (σ : Sg) : Option (Int32 × Sg) :=
  if v1 < 0 then (some (0, σ)) else (if 3 ≤ v1 then (some (0, σ)) else (if (((gi σ 111 1) >>> (v1 &&& 31)) &&& 1) = 0 then (some (0, σ)) else (if inb v1 3 = true then (L112.getD v1.toNatClampNeg none).bind fun p5 => (if isState p5 = true then (X5_become N k2 p5 σ).bind fun r8 => (some (1, r8)) else none) else none)))
set_option maxRecDepth 100000 in
set_option maxHeartbeats 4000000 in
theorem X4_fetch_ok {E : Ev} {k2 : Nat} (hk2 : StAt SH0 k2) {N : Nat} {v1 : Int32} {σ : Sg} {r : Int32 × Sg} (h : X4_fetch N k2 v1 σ = some r) : Cm E (1) yX4_fetch cX4_fetch 3 (some .boolean) [.ref 111, .int v1, .ref k2] SH0 SH0 σ r.2 (some (.int r.1)) 0 0 := by
  refine Cm.intro (by decide +kernel) (Nat.le_of_ble_eq_true rfl) (fun _ h => by obtain ⟨_, _, _, _, _, _, h⟩ := h; exact h) (fun Z C hE => ?_)
  show Wm E Z 0 0 SH0 σ 0 [(0, .ref 111), (1, .int v1), (2, .ref k2)] []
  unfold X4_fetch at h
  refine r_iload_n (pc' := 1) C dX4_fetch_0 rfl 1 rfl ?_
  refine r_if_lt (tgt := 20) (pc' := 4) C dX4_fetch_1 rfl rfl (fun c1 => ?_) (fun c1 => ?_)
  · rw [if_pos c1] at h
    refine r_iconst (pc' := 21) C dX4_fetch_20 rfl kc_0 ?_
    have h := Option.some.inj h
    subst h
    exact r_ret C rfl dX4_fetch_21 hE
  · rw [if_neg c1] at h
    refine r_iload_n (pc' := 5) C dX4_fetch_4 rfl 1 rfl ?_
    refine r_iconst (pc' := 6) C dX4_fetch_5 rfl kc_3 ?_
    refine r_icmp_ge (tgt := 20) (pc' := 9) C dX4_fetch_6 rfl rfl (fun c2 => ?_) (fun c2 => ?_)
    · rw [if_pos c2] at h
      refine r_iconst (pc' := 21) C dX4_fetch_20 rfl kc_0 ?_
      have h := Option.some.inj h
      subst h
      exact r_ret C rfl dX4_fetch_21 hE
    · rw [if_neg c2] at h
      refine r_aload_n (pc' := 10) C dX4_fetch_9 rfl 0 rfl ?_
      refine r_getI (pc' := 13) C flX4_16 sh_111 rfl dX4_fetch_10 rfl ?_
      refine r_iload_n (pc' := 14) C dX4_fetch_13 rfl 1 rfl ?_
      refine r_ishr (pc' := 15) C dX4_fetch_14 rfl ?_
      refine r_iconst (pc' := 16) C dX4_fetch_15 rfl kc_1 ?_
      refine r_iand (pc' := 17) C dX4_fetch_16 rfl ?_
      refine r_if_ne (tgt := 22) (pc' := 20) C dX4_fetch_17 rfl rfl (fun c3 => ?_) (fun c3 => ?_)
      · rw [if_neg c3] at h
        refine r_aload_n (pc' := 23) C dX4_fetch_22 rfl 2 rfl ?_
        refine r_aload_n (pc' := 24) C dX4_fetch_23 rfl 0 rfl ?_
        refine r_getR (pc' := 27) C flX4_11 sh_111 rfl dX4_fetch_24 rfl ?_
        refine r_iload_n (pc' := 28) C dX4_fetch_27 rfl 1 rfl ?_
        obtain ⟨q4, h⟩ := ck h
        obtain ⟨p5, e6, h⟩ := bd h
        refine r_aald (pc' := 29) (l := L112) C sh_112 (vin q4) e6 dX4_fetch_28 rfl ?_
        obtain ⟨q7, h⟩ := ck h
        obtain ⟨r8, e9, h⟩ := bd h
        refine r_cV0 (pc' := 32) C (X5_become_ok hk2 (stof q7) e9) mlX4_20 ceX5_become cvX5_become (st0 hk2) rfl rfl rfl (Nat.le_of_ble_eq_true rfl) rfl (Nat.le_of_ble_eq_true rfl) dX4_fetch_29 rfl (kk := ?_)
        refine r_iconst (pc' := 33) C dX4_fetch_32 rfl kc_1 ?_
        have h := Option.some.inj h
        subst h
        exact r_ret C rfl dX4_fetch_33 hE
      · rw [if_pos c3] at h
        refine r_iconst (pc' := 21) C dX4_fetch_20 rfl kc_0 ?_
        have h := Option.some.inj h
        subst h
        exact r_ret C rfl dX4_fetch_21 hE

/-! BorrowedWeight.again(I)Z -/
def X8_again (N : Nat)  (v1 : Int32) (σ : Sg) : Option (Int32 × Sg) :=
  (X4_fetch N 19 v1 σ).bind fun r1 => (if r1.1 = 0 then (some (0, r1.2)) else ((X1_clear N r1.2).bind fun r4 => (some (1, r4))))
set_option maxRecDepth 100000 in
set_option maxHeartbeats 4000000 in
theorem X8_again_ok {E : Ev}  {N : Nat} {v1 : Int32} {σ : Sg} {r : Int32 × Sg} (h : X8_again N  v1 σ = some r) : Cm E (2) yX8_again cX8_again 2 (some .boolean) [.ref 0, .int v1] SH0 SH0 σ r.2 (some (.int r.1)) 0 0 := by
  refine Cm.intro (by decide +kernel) (Nat.le_of_ble_eq_true rfl) (fun _ h => by obtain ⟨_, _, _, _, _, _, h⟩ := h; exact h) (fun Z C hE => ?_)
  show Wm E Z 0 0 SH0 σ 0 [(0, .ref 0), (1, .int v1)] []
  unfold X8_again at h
  refine r_aload_n (pc' := 1) C dX8_again_0 rfl 0 rfl ?_
  refine r_getR (pc' := 4) C flX8_50 sh_0 rfl dX8_again_1 rfl ?_
  refine r_iload_n (pc' := 5) C dX8_again_4 rfl 1 rfl ?_
  refine r_aload_n (pc' := 6) C dX8_again_5 rfl 0 rfl ?_
  refine r_getR (pc' := 9) C flX8_33 sh_0 rfl dX8_again_6 rfl ?_
  obtain ⟨r1, e2, h⟩ := bd h
  refine r_cV1 (pc' := 12) C (X4_fetch_ok stc_19 e2) mlX8_399 ceX4_fetch cvX4_fetch sh_111 rfl rfl rfl (Nat.le_of_ble_eq_true rfl) rfl (Nat.le_of_ble_eq_true rfl) dX8_again_9 rfl (kk := ?_)
  refine r_if_ne (tgt := 17) (pc' := 15) C dX8_again_12 rfl rfl (fun c3 => ?_) (fun c3 => ?_)
  · rw [if_neg c3] at h
    refine r_aload_n (pc' := 18) C dX8_again_17 rfl 0 rfl ?_
    refine r_getR (pc' := 21) C flX8_43 sh_0 rfl dX8_again_18 rfl ?_
    obtain ⟨r4, e5, h⟩ := bd h
    refine r_cV0 (pc' := 24) C (X1_clear_ok  e5) mlX8_107 ceX1_clear cvX1_clear sh_29 rfl rfl rfl (Nat.le_of_ble_eq_true rfl) rfl (Nat.le_of_ble_eq_true rfl) dX8_again_21 rfl (kk := ?_)
    refine r_iconst (pc' := 25) C dX8_again_24 rfl kc_1 ?_
    have h := Option.some.inj h
    subst h
    exact r_ret C rfl dX8_again_25 hE
  · rw [if_pos c3] at h
    refine r_iconst (pc' := 16) C dX8_again_15 rfl kc_0 ?_
    have h := Option.some.inj h
    subst h
    exact r_ret C rfl dX8_again_16 hE

/-! BorrowedWeight.count(I)I -/
def X8_count (N : Nat)  (v1 : Int32) (σ : Sg) : Option (Int32) :=
  if v1 = 0 then (some (gi σ 5 1)) else if v1 = 1 then ((X0_present N 19 σ).bind fun r3 => (some r3)) else if v1 = 2 then ((X5_stringCount N 19 σ).bind fun r6 => (some r6)) else if v1 = 3 then (some (gi σ 19 5)) else if v1 = 4 then (some (gi σ 19 6)) else if v1 = 5 then (some (gi σ 19 7)) else if v1 = 6 then (some (gi σ 19 8)) else if v1 = 7 then ((X0_windAt N (gi σ 19 8) σ).bind fun r13 => (some r13)) else if v1 = 8 then ((X0_everything N σ).bind fun r16 => ((X5_stonesOf N 19 r16 σ).bind fun r18 => (some r18))) else if v1 = 9 then (some (gi σ 128 3)) else if v1 = 10 then (some (gi σ 29 2)) else if v1 = 11 then (some (gi σ 3 1)) else if v1 = 12 then (some (gi σ 1 1)) else (some (-100))
set_option maxRecDepth 100000 in
set_option maxHeartbeats 4000000 in
theorem X8_count_ok {E : Ev}  {N : Nat} {v1 : Int32} {σ : Sg} {r : Int32} (h : X8_count N  v1 σ = some r) : Cm E (2) yX8_count cX8_count 2 (some .int) [.ref 0, .int v1] SH0 SH0 σ σ (some (.int r)) 0 0 := by
  refine Cm.intro (by decide +kernel) (Nat.le_of_ble_eq_true rfl) (fun _ h => by obtain ⟨_, _, _, _, _, _, h⟩ := h; exact h) (fun Z C hE => ?_)
  show Wm E Z 0 0 SH0 σ 0 [(0, .ref 0), (1, .int v1)] []
  unfold X8_count at h
  refine r_iload_n (pc' := 1) C dX8_count_0 rfl 1 rfl ?_
  by_cases c1 : v1 = 0
  · rw [if_pos c1] at h
    refine r_tabIn (tgt := 68) C dX8_count_1 (by rw [c1]; decide) (by rw [c1]; decide) (by rw [c1]; rfl) rfl ?_
    refine r_aload_n (pc' := 69) C dX8_count_68 rfl 0 rfl ?_
    refine r_getR (pc' := 72) C flX8_26 sh_0 rfl dX8_count_69 rfl ?_
    refine r_getI (pc' := 75) C flX8_265 sh_5 rfl dX8_count_72 rfl ?_
    have h := Option.some.inj h
    subst h
    exact r_ret C rfl dX8_count_75 hE
  rw [if_neg c1] at h
  by_cases c2 : v1 = 1
  · rw [if_pos c2] at h
    refine r_tabIn (tgt := 76) C dX8_count_1 (by rw [c2]; decide) (by rw [c2]; decide) (by rw [c2]; rfl) rfl ?_
    refine r_aload_n (pc' := 77) C dX8_count_76 rfl 0 rfl ?_
    refine r_getR (pc' := 80) C flX8_26 sh_0 rfl dX8_count_77 rfl ?_
    refine r_aload_n (pc' := 81) C dX8_count_80 rfl 0 rfl ?_
    refine r_getR (pc' := 84) C flX8_33 sh_0 rfl dX8_count_81 rfl ?_
    obtain ⟨r3, e4, h⟩ := bd h
    refine r_cV1 (pc' := 87) C (X0_present_ok stc_19 e4) mlX8_202 ceX0_present cvX0_present sh_5 rfl rfl rfl (Nat.le_of_ble_eq_true rfl) rfl (Nat.le_of_ble_eq_true rfl) dX8_count_84 rfl (kk := ?_)
    have h := Option.some.inj h
    subst h
    exact r_ret C rfl dX8_count_87 hE
  rw [if_neg c2] at h
  by_cases c5 : v1 = 2
  · rw [if_pos c5] at h
    refine r_tabIn (tgt := 88) C dX8_count_1 (by rw [c5]; decide) (by rw [c5]; decide) (by rw [c5]; rfl) rfl ?_
    refine r_aload_n (pc' := 89) C dX8_count_88 rfl 0 rfl ?_
    refine r_getR (pc' := 92) C flX8_33 sh_0 rfl dX8_count_89 rfl ?_
    obtain ⟨r6, e7, h⟩ := bd h
    refine r_cV1 (pc' := 95) C (X5_stringCount_ok stc_19 e7) mlX8_289 ceX5_stringCount cvX5_stringCount sh_19 rfl rfl rfl (Nat.le_of_ble_eq_true rfl) rfl (Nat.le_of_ble_eq_true rfl) dX8_count_92 rfl (kk := ?_)
    have h := Option.some.inj h
    subst h
    exact r_ret C rfl dX8_count_95 hE
  rw [if_neg c5] at h
  by_cases c8 : v1 = 3
  · rw [if_pos c8] at h
    refine r_tabIn (tgt := 96) C dX8_count_1 (by rw [c8]; decide) (by rw [c8]; decide) (by rw [c8]; rfl) rfl ?_
    refine r_aload_n (pc' := 97) C dX8_count_96 rfl 0 rfl ?_
    refine r_getR (pc' := 100) C flX8_33 sh_0 rfl dX8_count_97 rfl ?_
    refine r_getI (pc' := 103) C flX8_222 sh_19 rfl dX8_count_100 rfl ?_
    have h := Option.some.inj h
    subst h
    exact r_ret C rfl dX8_count_103 hE
  rw [if_neg c8] at h
  by_cases c9 : v1 = 4
  · rw [if_pos c9] at h
    refine r_tabIn (tgt := 104) C dX8_count_1 (by rw [c9]; decide) (by rw [c9]; decide) (by rw [c9]; rfl) rfl ?_
    refine r_aload_n (pc' := 105) C dX8_count_104 rfl 0 rfl ?_
    refine r_getR (pc' := 108) C flX8_33 sh_0 rfl dX8_count_105 rfl ?_
    refine r_getI (pc' := 111) C flX8_402 sh_19 rfl dX8_count_108 rfl ?_
    have h := Option.some.inj h
    subst h
    exact r_ret C rfl dX8_count_111 hE
  rw [if_neg c9] at h
  by_cases c10 : v1 = 5
  · rw [if_pos c10] at h
    refine r_tabIn (tgt := 112) C dX8_count_1 (by rw [c10]; decide) (by rw [c10]; decide) (by rw [c10]; rfl) rfl ?_
    refine r_aload_n (pc' := 113) C dX8_count_112 rfl 0 rfl ?_
    refine r_getR (pc' := 116) C flX8_33 sh_0 rfl dX8_count_113 rfl ?_
    refine r_getI (pc' := 119) C flX8_405 sh_19 rfl dX8_count_116 rfl ?_
    have h := Option.some.inj h
    subst h
    exact r_ret C rfl dX8_count_119 hE
  rw [if_neg c10] at h
  by_cases c11 : v1 = 6
  · rw [if_pos c11] at h
    refine r_tabIn (tgt := 120) C dX8_count_1 (by rw [c11]; decide) (by rw [c11]; decide) (by rw [c11]; rfl) rfl ?_
    refine r_aload_n (pc' := 121) C dX8_count_120 rfl 0 rfl ?_
    refine r_getR (pc' := 124) C flX8_33 sh_0 rfl dX8_count_121 rfl ?_
    refine r_getI (pc' := 127) C flX8_407 sh_19 rfl dX8_count_124 rfl ?_
    have h := Option.some.inj h
    subst h
    exact r_ret C rfl dX8_count_127 hE
  rw [if_neg c11] at h
  by_cases c12 : v1 = 7
  · rw [if_pos c12] at h
    refine r_tabIn (tgt := 128) C dX8_count_1 (by rw [c12]; decide) (by rw [c12]; decide) (by rw [c12]; rfl) rfl ?_
    refine r_aload_n (pc' := 129) C dX8_count_128 rfl 0 rfl ?_
    refine r_getR (pc' := 132) C flX8_26 sh_0 rfl dX8_count_129 rfl ?_
    refine r_aload_n (pc' := 133) C dX8_count_132 rfl 0 rfl ?_
    refine r_getR (pc' := 136) C flX8_33 sh_0 rfl dX8_count_133 rfl ?_
    refine r_getI (pc' := 139) C flX8_407 sh_19 rfl dX8_count_136 rfl ?_
    obtain ⟨r13, e14, h⟩ := bd h
    refine r_cV1 (pc' := 142) C (X0_windAt_ok  e14) mlX8_410 ceX0_windAt cvX0_windAt sh_5 rfl rfl rfl (Nat.le_of_ble_eq_true rfl) rfl (Nat.le_of_ble_eq_true rfl) dX8_count_139 rfl (kk := ?_)
    have h := Option.some.inj h
    subst h
    exact r_ret C rfl dX8_count_142 hE
  rw [if_neg c12] at h
  by_cases c15 : v1 = 8
  · rw [if_pos c15] at h
    refine r_tabIn (tgt := 143) C dX8_count_1 (by rw [c15]; decide) (by rw [c15]; decide) (by rw [c15]; rfl) rfl ?_
    refine r_aload_n (pc' := 144) C dX8_count_143 rfl 0 rfl ?_
    refine r_getR (pc' := 147) C flX8_33 sh_0 rfl dX8_count_144 rfl ?_
    refine r_aload_n (pc' := 148) C dX8_count_147 rfl 0 rfl ?_
    refine r_getR (pc' := 151) C flX8_26 sh_0 rfl dX8_count_148 rfl ?_
    obtain ⟨r16, e17, h⟩ := bd h
    refine r_cV1 (pc' := 154) C (X0_everything_ok  e17) mlX8_270 ceX0_everything cvX0_everything sh_5 rfl rfl rfl (Nat.le_of_ble_eq_true rfl) rfl (Nat.le_of_ble_eq_true rfl) dX8_count_151 rfl (kk := ?_)
    obtain ⟨r18, e19, h⟩ := bd h
    refine r_cV1 (pc' := 157) C (X5_stonesOf_ok stc_19 e19) mlX8_252 ceX5_stonesOf cvX5_stonesOf sh_19 rfl rfl rfl (Nat.le_of_ble_eq_true rfl) rfl (Nat.le_of_ble_eq_true rfl) dX8_count_154 rfl (kk := ?_)
    have h := Option.some.inj h
    subst h
    exact r_ret C rfl dX8_count_157 hE
  rw [if_neg c15] at h
  by_cases c20 : v1 = 9
  · rw [if_pos c20] at h
    refine r_tabIn (tgt := 158) C dX8_count_1 (by rw [c20]; decide) (by rw [c20]; decide) (by rw [c20]; rfl) rfl ?_
    refine r_aload_n (pc' := 159) C dX8_count_158 rfl 0 rfl ?_
    refine r_getR (pc' := 162) C flX8_57 sh_0 rfl dX8_count_159 rfl ?_
    refine r_getI (pc' := 165) C flX8_334 sh_128 rfl dX8_count_162 rfl ?_
    have h := Option.some.inj h
    subst h
    exact r_ret C rfl dX8_count_165 hE
  rw [if_neg c20] at h
  by_cases c21 : v1 = 10
  · rw [if_pos c21] at h
    refine r_tabIn (tgt := 166) C dX8_count_1 (by rw [c21]; decide) (by rw [c21]; decide) (by rw [c21]; rfl) rfl ?_
    refine r_aload_n (pc' := 167) C dX8_count_166 rfl 0 rfl ?_
    refine r_getR (pc' := 170) C flX8_43 sh_0 rfl dX8_count_167 rfl ?_
    refine r_getI (pc' := 173) C flX8_413 sh_29 rfl dX8_count_170 rfl ?_
    have h := Option.some.inj h
    subst h
    exact r_ret C rfl dX8_count_173 hE
  rw [if_neg c21] at h
  by_cases c22 : v1 = 11
  · rw [if_pos c22] at h
    refine r_tabIn (tgt := 174) C dX8_count_1 (by rw [c22]; decide) (by rw [c22]; decide) (by rw [c22]; rfl) rfl ?_
    refine r_aload_n (pc' := 175) C dX8_count_174 rfl 0 rfl ?_
    refine r_getR (pc' := 178) C flX8_19 sh_0 rfl dX8_count_175 rfl ?_
    refine r_getI (pc' := 181) C flX8_414 sh_3 rfl dX8_count_178 rfl ?_
    have h := Option.some.inj h
    subst h
    exact r_ret C rfl dX8_count_181 hE
  rw [if_neg c22] at h
  by_cases c23 : v1 = 12
  · rw [if_pos c23] at h
    refine r_tabIn (tgt := 182) C dX8_count_1 (by rw [c23]; decide) (by rw [c23]; decide) (by rw [c23]; rfl) rfl ?_
    refine r_aload_n (pc' := 183) C dX8_count_182 rfl 0 rfl ?_
    refine r_getR (pc' := 186) C flX8_10 sh_0 rfl dX8_count_183 rfl ?_
    refine r_getI (pc' := 189) C flX8_96 sh_1 rfl dX8_count_186 rfl ?_
    have h := Option.some.inj h
    subst h
    exact r_ret C rfl dX8_count_189 hE
  rw [if_neg c23] at h
  have o24 : v1.toInt < 0 ∨ 12 < v1.toInt := by
    refine tab_out (fun k h1 h2 => ?_) (by decide) (by decide)
    have hk : k = 0 ∨ k = 1 ∨ k = 2 ∨ k = 3 ∨ k = 4 ∨ k = 5 ∨ k = 6 ∨ k = 7 ∨ k = 8 ∨ k = 9 ∨ k = 10 ∨ k = 11 ∨ k = 12 := by omega
    rcases hk with rfl | rfl | rfl | rfl | rfl | rfl | rfl | rfl | rfl | rfl | rfl | rfl | rfl
    · exact c1
    · exact c2
    · exact c5
    · exact c8
    · exact c9
    · exact c10
    · exact c11
    · exact c12
    · exact c15
    · exact c20
    · exact c21
    · exact c22
    · exact c23
  refine r_tabOut (tgt := 190) C dX8_count_1 o24 rfl ?_
  refine r_bipush (pc' := 192) C dX8_count_190 rfl kb_m100 ?_
  have h := Option.some.inj h
  subst h
  exact r_ret C rfl dX8_count_192 hE

/-! BorrowedWeight.thing(II)I -/
def X8_thing (N : Nat)  (v1 : Int32) (v2 : Int32) (σ : Sg) : Option (Int32 × Sg) :=
  (X0_isThing N v1 σ).bind fun r1 => (if r1 = 0 then none else (if v2 = 0 then (if inb v1 8 = true then some (gi σ 6 v1.toNatClampNeg, σ) else none) else if v2 = 1 then (if inb v1 8 = true then some (gi σ 20 v1.toNatClampNeg, σ) else none) else if v2 = 2 then (if inb v1 8 = true then some (gi σ 21 v1.toNatClampNeg, σ) else none) else if v2 = 3 then (if inb v1 8 = true then some (gi σ 22 v1.toNatClampNeg, σ) else none) else if v2 = 4 then ((X5_isGone N 19 v1 σ).bind fun r13 => (if r13 = 0 then (some (0, σ)) else (some (1, σ)))) else if v2 = 5 then (if isRule ((gi σ 5 2).toNatClampNeg) = true then (X0_weigh N 19 ((gi σ 5 2).toNatClampNeg) σ).bind fun r18 => (if inb v1 8 = true then some (gi r18 15 v1.toNatClampNeg, r18) else none) else none) else if v2 = 6 then (if inb v1 8 = true then some (gi σ 23 v1.toNatClampNeg, σ) else none) else if v2 = 7 then ((X5_isGone N 19 v1 σ).bind fun r24 => (if r24 = 0 then ((X5_bundleOf N 19 v1 σ).bind fun r27 => (some (r27, σ))) else (some (0, σ)))) else none))
set_option maxRecDepth 100000 in
set_option maxHeartbeats 4000000 in
theorem X8_thing_ok {E : Ev}  {N : Nat} {v1 : Int32} {v2 : Int32} {σ : Sg} {r : Int32 × Sg} (h : X8_thing N  v1 v2 σ = some r) : Cm E (3) yX8_thing cX8_thing 3 (some .int) [.ref 0, .int v1, .int v2] SH0 SH0 σ r.2 (some (.int r.1)) 0 0 := by
  refine Cm.intro (by decide +kernel) (Nat.le_of_ble_eq_true rfl) (fun _ h => by obtain ⟨_, _, _, _, _, _, h⟩ := h; exact h) (fun Z C hE => ?_)
  show Wm E Z 0 0 SH0 σ 0 [(0, .ref 0), (1, .int v1), (2, .int v2)] []
  unfold X8_thing at h
  refine r_aload_n (pc' := 1) C dX8_thing_0 rfl 0 rfl ?_
  refine r_getR (pc' := 4) C flX8_26 sh_0 rfl dX8_thing_1 rfl ?_
  refine r_iload_n (pc' := 5) C dX8_thing_4 rfl 1 rfl ?_
  obtain ⟨r1, e2, h⟩ := bd h
  refine r_cV1 (pc' := 8) C (X0_isThing_ok  e2) mlX8_138 ceX0_isThing cvX0_isThing sh_5 rfl rfl rfl (Nat.le_of_ble_eq_true rfl) rfl (Nat.le_of_ble_eq_true rfl) dX8_thing_5 rfl (kk := ?_)
  refine r_if_ne (tgt := 21) (pc' := 11) C dX8_thing_8 rfl rfl (fun c3 => ?_) (fun c3 => ?_)
  · rw [if_neg c3] at h
    refine r_iload_n (pc' := 22) C dX8_thing_21 rfl 2 rfl ?_
    by_cases c4 : v2 = 0
    · rw [if_pos c4] at h
      refine r_tabIn (tgt := 68) C dX8_thing_22 (by rw [c4]; decide) (by rw [c4]; decide) (by rw [c4]; rfl) rfl ?_
      refine r_aload_n (pc' := 69) C dX8_thing_68 rfl 0 rfl ?_
      refine r_getR (pc' := 72) C flX8_26 sh_0 rfl dX8_thing_69 rfl ?_
      refine r_getR (pc' := 75) C flX8_148 sh_5 rfl dX8_thing_72 rfl ?_
      refine r_iload_n (pc' := 76) C dX8_thing_75 rfl 1 rfl ?_
      obtain ⟨q5, h⟩ := ck h
      refine r_iald (pc' := 77) C sh_6 (vin q5) dX8_thing_76 rfl ?_
      have h := Option.some.inj h
      subst h
      exact r_ret C rfl dX8_thing_77 hE
    rw [if_neg c4] at h
    by_cases c6 : v2 = 1
    · rw [if_pos c6] at h
      refine r_tabIn (tgt := 78) C dX8_thing_22 (by rw [c6]; decide) (by rw [c6]; decide) (by rw [c6]; rfl) rfl ?_
      refine r_aload_n (pc' := 79) C dX8_thing_78 rfl 0 rfl ?_
      refine r_getR (pc' := 82) C flX8_33 sh_0 rfl dX8_thing_79 rfl ?_
      refine r_getR (pc' := 85) C flX8_151 sh_19 rfl dX8_thing_82 rfl ?_
      refine r_iload_n (pc' := 86) C dX8_thing_85 rfl 1 rfl ?_
      obtain ⟨q7, h⟩ := ck h
      refine r_iald (pc' := 87) C sh_20 (vin q7) dX8_thing_86 rfl ?_
      have h := Option.some.inj h
      subst h
      exact r_ret C rfl dX8_thing_87 hE
    rw [if_neg c6] at h
    by_cases c8 : v2 = 2
    · rw [if_pos c8] at h
      refine r_tabIn (tgt := 88) C dX8_thing_22 (by rw [c8]; decide) (by rw [c8]; decide) (by rw [c8]; rfl) rfl ?_
      refine r_aload_n (pc' := 89) C dX8_thing_88 rfl 0 rfl ?_
      refine r_getR (pc' := 92) C flX8_33 sh_0 rfl dX8_thing_89 rfl ?_
      refine r_getR (pc' := 95) C flX8_154 sh_19 rfl dX8_thing_92 rfl ?_
      refine r_iload_n (pc' := 96) C dX8_thing_95 rfl 1 rfl ?_
      obtain ⟨q9, h⟩ := ck h
      refine r_iald (pc' := 97) C sh_21 (vin q9) dX8_thing_96 rfl ?_
      have h := Option.some.inj h
      subst h
      exact r_ret C rfl dX8_thing_97 hE
    rw [if_neg c8] at h
    by_cases c10 : v2 = 3
    · rw [if_pos c10] at h
      refine r_tabIn (tgt := 98) C dX8_thing_22 (by rw [c10]; decide) (by rw [c10]; decide) (by rw [c10]; rfl) rfl ?_
      refine r_aload_n (pc' := 99) C dX8_thing_98 rfl 0 rfl ?_
      refine r_getR (pc' := 102) C flX8_33 sh_0 rfl dX8_thing_99 rfl ?_
      refine r_getR (pc' := 105) C flX8_157 sh_19 rfl dX8_thing_102 rfl ?_
      refine r_iload_n (pc' := 106) C dX8_thing_105 rfl 1 rfl ?_
      obtain ⟨q11, h⟩ := ck h
      refine r_iald (pc' := 107) C sh_22 (vin q11) dX8_thing_106 rfl ?_
      have h := Option.some.inj h
      subst h
      exact r_ret C rfl dX8_thing_107 hE
    rw [if_neg c10] at h
    by_cases c12 : v2 = 4
    · rw [if_pos c12] at h
      refine r_tabIn (tgt := 108) C dX8_thing_22 (by rw [c12]; decide) (by rw [c12]; decide) (by rw [c12]; rfl) rfl ?_
      refine r_aload_n (pc' := 109) C dX8_thing_108 rfl 0 rfl ?_
      refine r_getR (pc' := 112) C flX8_33 sh_0 rfl dX8_thing_109 rfl ?_
      refine r_iload_n (pc' := 113) C dX8_thing_112 rfl 1 rfl ?_
      obtain ⟨r13, e14, h⟩ := bd h
      refine r_cV1 (pc' := 116) C (X5_isGone_ok stc_19 e14) mlX8_160 ceX5_isGone cvX5_isGone sh_19 rfl rfl rfl (Nat.le_of_ble_eq_true rfl) rfl (Nat.le_of_ble_eq_true rfl) dX8_thing_113 rfl (kk := ?_)
      refine r_if_eq (tgt := 123) (pc' := 119) C dX8_thing_116 rfl rfl (fun c15 => ?_) (fun c15 => ?_)
      · rw [if_pos c15] at h
        refine r_iconst (pc' := 124) C dX8_thing_123 rfl kc_0 ?_
        have h := Option.some.inj h
        subst h
        exact r_ret C rfl dX8_thing_124 hE
      · rw [if_neg c15] at h
        refine r_iconst (pc' := 120) C dX8_thing_119 rfl kc_1 ?_
        refine r_goto (tgt := 124) C dX8_thing_120 rfl ?_
        have h := Option.some.inj h
        subst h
        exact r_ret C rfl dX8_thing_124 hE
    rw [if_neg c12] at h
    by_cases c16 : v2 = 5
    · rw [if_pos c16] at h
      refine r_tabIn (tgt := 125) C dX8_thing_22 (by rw [c16]; decide) (by rw [c16]; decide) (by rw [c16]; rfl) rfl ?_
      refine r_aload_n (pc' := 126) C dX8_thing_125 rfl 0 rfl ?_
      refine r_getR (pc' := 129) C flX8_26 sh_0 rfl dX8_thing_126 rfl ?_
      refine r_aload_n (pc' := 130) C dX8_thing_129 rfl 0 rfl ?_
      refine r_getR (pc' := 133) C flX8_33 sh_0 rfl dX8_thing_130 rfl ?_
      refine r_aload_n (pc' := 134) C dX8_thing_133 rfl 0 rfl ?_
      refine r_getR (pc' := 137) C flX8_26 sh_0 rfl dX8_thing_134 rfl ?_
      refine r_getD (pc' := 140) C flX8_163 sh_5 rfl dX8_thing_137 rfl ?_
      obtain ⟨q17, h⟩ := ck h
      obtain ⟨r18, e19, h⟩ := bd h
      refine r_cV0 (pc' := 143) C (X0_weigh_ok stc_19 (ruof q17) e19) mlX8_167 ceX0_weigh cvX0_weigh sh_5 rfl rfl rfl (Nat.le_of_ble_eq_true rfl) rfl (Nat.le_of_ble_eq_true rfl) dX8_thing_140 rfl (kk := ?_)
      refine r_aload_n (pc' := 144) C dX8_thing_143 rfl 0 rfl ?_
      refine r_getR (pc' := 147) C flX8_26 sh_0 rfl dX8_thing_144 rfl ?_
      refine r_getR (pc' := 150) C flX8_171 sh_5 rfl dX8_thing_147 rfl ?_
      refine r_iload_n (pc' := 151) C dX8_thing_150 rfl 1 rfl ?_
      obtain ⟨q20, h⟩ := ck h
      refine r_iald (pc' := 152) C sh_15 (vin q20) dX8_thing_151 rfl ?_
      have h := Option.some.inj h
      subst h
      exact r_ret C rfl dX8_thing_152 hE
    rw [if_neg c16] at h
    by_cases c21 : v2 = 6
    · rw [if_pos c21] at h
      refine r_tabIn (tgt := 153) C dX8_thing_22 (by rw [c21]; decide) (by rw [c21]; decide) (by rw [c21]; rfl) rfl ?_
      refine r_aload_n (pc' := 154) C dX8_thing_153 rfl 0 rfl ?_
      refine r_getR (pc' := 157) C flX8_33 sh_0 rfl dX8_thing_154 rfl ?_
      refine r_getR (pc' := 160) C flX8_174 sh_19 rfl dX8_thing_157 rfl ?_
      refine r_iload_n (pc' := 161) C dX8_thing_160 rfl 1 rfl ?_
      obtain ⟨q22, h⟩ := ck h
      refine r_iald (pc' := 162) C sh_23 (vin q22) dX8_thing_161 rfl ?_
      have h := Option.some.inj h
      subst h
      exact r_ret C rfl dX8_thing_162 hE
    rw [if_neg c21] at h
    by_cases c23 : v2 = 7
    · rw [if_pos c23] at h
      refine r_tabIn (tgt := 163) C dX8_thing_22 (by rw [c23]; decide) (by rw [c23]; decide) (by rw [c23]; rfl) rfl ?_
      refine r_aload_n (pc' := 164) C dX8_thing_163 rfl 0 rfl ?_
      refine r_getR (pc' := 167) C flX8_33 sh_0 rfl dX8_thing_164 rfl ?_
      refine r_iload_n (pc' := 168) C dX8_thing_167 rfl 1 rfl ?_
      obtain ⟨r24, e25, h⟩ := bd h
      refine r_cV1 (pc' := 171) C (X5_isGone_ok stc_19 e25) mlX8_160 ceX5_isGone cvX5_isGone sh_19 rfl rfl rfl (Nat.le_of_ble_eq_true rfl) rfl (Nat.le_of_ble_eq_true rfl) dX8_thing_168 rfl (kk := ?_)
      refine r_if_eq (tgt := 178) (pc' := 174) C dX8_thing_171 rfl rfl (fun c26 => ?_) (fun c26 => ?_)
      · rw [if_pos c26] at h
        refine r_aload_n (pc' := 179) C dX8_thing_178 rfl 0 rfl ?_
        refine r_getR (pc' := 182) C flX8_33 sh_0 rfl dX8_thing_179 rfl ?_
        refine r_iload_n (pc' := 183) C dX8_thing_182 rfl 1 rfl ?_
        obtain ⟨r27, e28, h⟩ := bd h
        refine r_cV1 (pc' := 186) C (X5_bundleOf_ok stc_19 e28) mlX8_177 ceX5_bundleOf cvX5_bundleOf sh_19 rfl rfl rfl (Nat.le_of_ble_eq_true rfl) rfl (Nat.le_of_ble_eq_true rfl) dX8_thing_183 rfl (kk := ?_)
        have h := Option.some.inj h
        subst h
        exact r_ret C rfl dX8_thing_186 hE
      · rw [if_neg c26] at h
        refine r_iconst (pc' := 175) C dX8_thing_174 rfl kc_0 ?_
        refine r_goto (tgt := 186) C dX8_thing_175 rfl ?_
        have h := Option.some.inj h
        subst h
        exact r_ret C rfl dX8_thing_186 hE
    rw [if_neg c23] at h
    have o29 : v2.toInt < 0 ∨ 7 < v2.toInt := by
      refine tab_out (fun k h1 h2 => ?_) (by decide) (by decide)
      have hk : k = 0 ∨ k = 1 ∨ k = 2 ∨ k = 3 ∨ k = 4 ∨ k = 5 ∨ k = 6 ∨ k = 7 := by omega
      rcases hk with rfl | rfl | rfl | rfl | rfl | rfl | rfl | rfl
      · exact c4
      · exact c6
      · exact c8
      · exact c10
      · exact c12
      · exact c16
      · exact c21
      · exact c23
    refine r_tabOut (tgt := 187) C dX8_thing_22 o29 rfl ?_
    cases h
  · rw [if_pos c3] at h
    cases h

/-! BorrowedWeight.row(I)J -/
def X8_row (N : Nat)  (v1 : Int32) (σ : Sg) : Option (Int64 × Sg) :=
  if v1 < 0 then none else (if (gi σ 3 1) ≤ v1 then none else (if v1 < 10 then (if inb v1 10 = true then some (gl σ 4 v1.toNatClampNeg, σ) else none) else none))
set_option maxRecDepth 100000 in
set_option maxHeartbeats 4000000 in
theorem X8_row_ok {E : Ev}  {N : Nat} {v1 : Int32} {σ : Sg} {r : Int64 × Sg} (h : X8_row N  v1 σ = some r) : Cm E (0) yX8_row cX8_row 2 (some .long) [.ref 0, .int v1] SH0 SH0 σ r.2 (some (.long r.1)) 0 0 := by
  refine Cm.intro (by decide +kernel) (Nat.le_of_ble_eq_true rfl) (fun _ h => by obtain ⟨_, _, _, _, _, _, h⟩ := h; exact h) (fun Z C hE => ?_)
  show Wm E Z 0 0 SH0 σ 0 [(0, .ref 0), (1, .int v1)] []
  unfold X8_row at h
  refine r_iload_n (pc' := 1) C dX8_row_0 rfl 1 rfl ?_
  refine r_if_lt (tgt := 21) (pc' := 4) C dX8_row_1 rfl rfl (fun c1 => ?_) (fun c1 => ?_)
  · rw [if_pos c1] at h
    cases h
  · rw [if_neg c1] at h
    refine r_iload_n (pc' := 5) C dX8_row_4 rfl 1 rfl ?_
    refine r_aload_n (pc' := 6) C dX8_row_5 rfl 0 rfl ?_
    refine r_getR (pc' := 9) C flX8_19 sh_0 rfl dX8_row_6 rfl ?_
    refine r_getI (pc' := 12) C flX8_414 sh_3 rfl dX8_row_9 rfl ?_
    refine r_icmp_ge (tgt := 21) (pc' := 15) C dX8_row_12 rfl rfl (fun c2 => ?_) (fun c2 => ?_)
    · rw [if_pos c2] at h
      cases h
    · rw [if_neg c2] at h
      refine r_iload_n (pc' := 16) C dX8_row_15 rfl 1 rfl ?_
      refine r_bipush (pc' := 18) C dX8_row_16 rfl kb_10 ?_
      refine r_icmp_lt (tgt := 32) (pc' := 21) C dX8_row_18 rfl rfl (fun c3 => ?_) (fun c3 => ?_)
      · rw [if_pos c3] at h
        refine r_aload_n (pc' := 33) C dX8_row_32 rfl 0 rfl ?_
        refine r_getR (pc' := 36) C flX8_19 sh_0 rfl dX8_row_33 rfl ?_
        refine r_getR (pc' := 39) C flX8_417 sh_3 rfl dX8_row_36 rfl ?_
        refine r_iload_n (pc' := 40) C dX8_row_39 rfl 1 rfl ?_
        obtain ⟨q4, h⟩ := ck h
        refine r_lald (pc' := 41) C sh_4 (vin q4) dX8_row_40 rfl ?_
        have h := Option.some.inj h
        subst h
        exact r_lret C dX8_row_41 hE
      · rw [if_neg c3] at h
        cases h

/-! BorrowedWeightModel.thrown()I -/
def X9_thrown (N : Nat)   (σ : Sg) : Option (Int32) :=
  some (gi σ 149 0)
set_option maxRecDepth 100000 in
set_option maxHeartbeats 4000000 in
theorem X9_thrown_ok {E : Ev}  {N : Nat}  {σ : Sg} {r : Int32} (h : X9_thrown N   σ = some r) : Cm E (0) yX9_thrown cX9_thrown 1 (some .int) [.ref 149] SH0 SH0 σ σ (some (.int r)) 0 0 := by
  refine Cm.intro (by decide +kernel) (Nat.le_of_ble_eq_true rfl) (fun _ h => by obtain ⟨_, _, _, _, _, _, h⟩ := h; exact h) (fun Z C hE => ?_)
  show Wm E Z 0 0 SH0 σ 0 [(0, .ref 149)] []
  unfold X9_thrown at h
  refine r_aload_n (pc' := 1) C dX9_thrown_0 rfl 0 rfl ?_
  refine r_getI (pc' := 4) C flX9_3 sh_149 rfl dX9_thrown_1 rfl ?_
  have h := Option.some.inj h
  subst h
  exact r_ret C rfl dX9_thrown_4 hE

/-! BorrowedWeightModel.sign(I)I -/
def X9_sign_l18 (N : Nat)  (k53 : Sg → Option (Int32 × Sg))  : Nat → Int32 → Int32 → Sg → Option (Int32 × Sg)
  | 0, _, _, _ => none
  | n + 1, v1, v2, σ =>
    if 4 ≤ v2 then (k53 σ) else (if inb ((gi σ 149 11) + v2) 80 = true then bnS (wi σ 155 ((gi σ 149 11) + v2).toNatClampNeg ((v1 >>> ((24 - (8 * v2)) &&& 31)) &&& 255)) fun σ6 => X9_sign_l18 N k53 n v1 (v2 + 1) σ6 else none)
set_option maxRecDepth 100000 in
set_option maxHeartbeats 4000000 in
theorem X9_sign_l18_ok {E : Ev}  {N : Nat} {k53 : Sg → Option (Int32 × Sg)}  (hk53 : ∀ (σ : Sg) (r : Int32 × Sg), k53 σ = some r → Gp E RX9 cX9_sign (some .int) 3 (0) SH0 r.2 (some (.int r.1)) σ 53 [(0, .ref 149)] []) : ∀ (n : Nat) (v1 : Int32) (v2 : Int32) (σ : Sg) (r : Int32 × Sg), X9_sign_l18 N k53 n v1 v2 σ = some r → Gp E RX9 cX9_sign (some .int) 3 (0) SH0 r.2 (some (.int r.1)) σ 18 [(0, .ref 149), (1, .int v1), (2, .int v2)] [] := by
  intro n
  induction n with
  | zero => intro v1 v2 σ r h; cases h
  | succ n ih =>
    intro v1 v2 σ r h Z C hE
    unfold X9_sign_l18 at h
    refine r_iload_n (pc' := 19) C dX9_sign_18 rfl 2 rfl ?_
    refine r_iconst (pc' := 20) C dX9_sign_19 rfl kc_4 ?_
    refine r_icmp_ge (tgt := 53) (pc' := 23) C dX9_sign_20 rfl rfl (fun c4 => ?_) (fun c4 => ?_)
    · rw [if_pos c4] at h
      refine r_sub [0] rfl ?_
      exact hk53 _ _ h Z C hE
    · rw [if_neg c4] at h
      refine r_aload_n (pc' := 24) C dX9_sign_23 rfl 0 rfl ?_
      refine r_getR (pc' := 27) C flX9_40 sh_149 rfl dX9_sign_24 rfl ?_
      refine r_aload_n (pc' := 28) C dX9_sign_27 rfl 0 rfl ?_
      refine r_getI (pc' := 31) C flX9_141 sh_149 rfl dX9_sign_28 rfl ?_
      refine r_iload_n (pc' := 32) C dX9_sign_31 rfl 2 rfl ?_
      refine r_iadd (pc' := 33) C dX9_sign_32 rfl ?_
      refine r_iload_n (pc' := 34) C dX9_sign_33 rfl 1 rfl ?_
      refine r_bipush (pc' := 36) C dX9_sign_34 rfl kb_24 ?_
      refine r_bipush (pc' := 38) C dX9_sign_36 rfl kb_8 ?_
      refine r_iload_n (pc' := 39) C dX9_sign_38 rfl 2 rfl ?_
      refine r_imul (pc' := 40) C dX9_sign_39 rfl ?_
      refine r_isub (pc' := 41) C dX9_sign_40 rfl ?_
      refine r_ishr (pc' := 42) C dX9_sign_41 rfl ?_
      refine r_sipush (pc' := 45) C dX9_sign_42 rfl ks_255 ?_
      refine r_iand (pc' := 46) C dX9_sign_45 rfl ?_
      obtain ⟨q5, h⟩ := ck h
      obtain ⟨σ6, e7, h⟩ := bs h
      refine r_iast (pc' := 47) (σ1 := σ6) C sh_155 (vin q5) dX9_sign_46 rfl e7 ?_
      refine r_iinc (pc' := 50) (v := v2 + 1) (lv2 := [(2, .int (v2 + 1)), (0, .ref 149), (1, .int v1)]) C dX9_sign_47 rfl 2 rfl rfl (Nat.le_of_ble_eq_true rfl) rfl ?_
      refine r_goto (tgt := 18) C dX9_sign_50 rfl ?_
      refine r_sub [1, 2, 0] rfl ?_
      exact ih _ _ _ _ h Z C hE
def X9_sign_j53 (N : Nat)    (σ : Sg) : Option (Int32 × Sg) :=
  bnS (wi σ 149 11 ((gi σ 149 11) + 4)) fun σ8 => some (gi σ8 149 11, σ8)
set_option maxRecDepth 100000 in
set_option maxHeartbeats 4000000 in
theorem X9_sign_j53_ok {E : Ev}  {N : Nat}     {σ : Sg} {r : Int32 × Sg} (h : X9_sign_j53 N    σ = some r) : Gp E RX9 cX9_sign (some .int) 3 (0) SH0 r.2 (some (.int r.1)) σ 53 [(0, .ref 149)] [] := by
  intro Z C hE
  unfold X9_sign_j53 at h
  refine r_aload_n (pc' := 54) C dX9_sign_53 rfl 0 rfl ?_
  refine r_dup (pc' := 55) C dX9_sign_54 rfl rfl ?_
  refine r_getI (pc' := 58) C flX9_141 sh_149 rfl dX9_sign_55 rfl ?_
  refine r_iconst (pc' := 59) C dX9_sign_58 rfl kc_4 ?_
  refine r_iadd (pc' := 60) C dX9_sign_59 rfl ?_
  obtain ⟨σ8, e9, h⟩ := bs h
  refine r_putI (pc' := 63) (σ1 := σ8) C fpX9_141 sh_149 rfl rfl rfl dX9_sign_60 rfl e9 ?_
  refine r_aload_n (pc' := 64) C dX9_sign_63 rfl 0 rfl ?_
  refine r_getI (pc' := 67) C flX9_141 sh_149 rfl dX9_sign_64 rfl ?_
  have h := Option.some.inj h
  subst h
  exact r_ret C rfl dX9_sign_67 hE
def X9_sign (N : Nat)  (v1 : Int32) (σ : Sg) : Option (Int32 × Sg) :=
  bnS (wi σ 149 0 0) fun σ1 => if (gi σ1 149 11) ≤ 76 then (X9_sign_l18 N (fun σ => X9_sign_j53 N σ) N v1 0 σ1) else (some ((-1), σ1))
set_option maxRecDepth 100000 in
set_option maxHeartbeats 4000000 in
theorem X9_sign_ok {E : Ev}  {N : Nat} {v1 : Int32} {σ : Sg} {r : Int32 × Sg} (h : X9_sign N  v1 σ = some r) : Cm E (0) yX9_sign cX9_sign 3 (some .int) [.ref 149, .int v1] SH0 SH0 σ r.2 (some (.int r.1)) 0 0 := by
  refine Cm.intro (by decide +kernel) (Nat.le_of_ble_eq_true rfl) (fun _ h => by obtain ⟨_, _, _, _, _, _, h⟩ := h; exact h) (fun Z C hE => ?_)
  show Wm E Z 0 0 SH0 σ 0 [(0, .ref 149), (1, .int v1)] []
  unfold X9_sign at h
  refine r_aload_n (pc' := 1) C dX9_sign_0 rfl 0 rfl ?_
  refine r_iconst (pc' := 2) C dX9_sign_1 rfl kc_0 ?_
  obtain ⟨σ1, e2, h⟩ := bs h
  refine r_putI (pc' := 5) (σ1 := σ1) C fpX9_3 sh_149 rfl rfl rfl dX9_sign_2 rfl e2 ?_
  refine r_aload_n (pc' := 6) C dX9_sign_5 rfl 0 rfl ?_
  refine r_getI (pc' := 9) C flX9_141 sh_149 rfl dX9_sign_6 rfl ?_
  refine r_bipush (pc' := 11) C dX9_sign_9 rfl kb_76 ?_
  refine r_icmp_le (tgt := 16) (pc' := 14) C dX9_sign_11 rfl rfl (fun c3 => ?_) (fun c3 => ?_)
  · rw [if_pos c3] at h
    refine r_iconst (pc' := 17) C dX9_sign_16 rfl kc_0 ?_
    refine r_istore_n (pc' := 18) (lv2 := [(2, .int 0), (0, .ref 149), (1, .int v1)]) C dX9_sign_17 rfl rfl (Nat.le_of_ble_eq_true rfl) rfl ?_
    refine r_sub [1, 2, 0] rfl ?_
    exact X9_sign_l18_ok  (fun _ _ h Z C hE => by exact X9_sign_j53_ok  h Z C hE) N _ _ _ _ h Z C hE
  · rw [if_neg c3] at h
    refine r_iconst (pc' := 15) C dX9_sign_14 rfl kc_m1 ?_
    have h := Option.some.inj h
    subst h
    exact r_ret C rfl dX9_sign_15 hE

/-! BorrowedWeightModel.in(JJJ)Z -/
def X9_in (N : Nat)  (v0 : Int64) (v2 : Int64) (v4 : Int64) (σ : Sg) : Option (Int32) :=
  if (lg_cmp v0 v2) < 0 then (some 0) else (if 0 < (lg_cmp v0 v4) then (some 0) else (some 1))
set_option maxRecDepth 100000 in
set_option maxHeartbeats 4000000 in
theorem X9_in_ok {E : Ev}  {N : Nat} {v0 : Int64} {v2 : Int64} {v4 : Int64} {σ : Sg} {r : Int32} (h : X9_in N  v0 v2 v4 σ = some r) : Cm E (0) yX9_in cX9_in 6 (some .boolean) [.long v0, .long v2, .long v4] SH0 SH0 σ σ (some (.int r)) 0 0 := by
  refine Cm.intro (by decide +kernel) (Nat.le_of_ble_eq_true rfl) (fun _ h => by obtain ⟨_, _, _, _, _, _, h⟩ := h; exact h) (fun Z C hE => ?_)
  show Wm E Z 0 0 SH0 σ 0 [(0, .long v0), (2, .long v2), (4, .long v4)] []
  unfold X9_in at h
  refine r_lload_n (pc' := 1) C dX9_in_0 rfl 0 rfl ?_
  refine r_lload_n (pc' := 2) C dX9_in_1 rfl 1 rfl ?_
  refine r_lcmp (pc' := 3) C dX9_in_2 rfl ?_
  refine r_if_lt (tgt := 17) (pc' := 6) C dX9_in_3 rfl rfl (fun c1 => ?_) (fun c1 => ?_)
  · rw [if_pos c1] at h
    refine r_iconst (pc' := 18) C dX9_in_17 rfl kc_0 ?_
    have h := Option.some.inj h
    subst h
    exact r_ret C rfl dX9_in_18 hE
  · rw [if_neg c1] at h
    refine r_lload_n (pc' := 7) C dX9_in_6 rfl 0 rfl ?_
    refine r_lload (pc' := 9) C dX9_in_7 rfl 2 rfl ?_
    refine r_lcmp (pc' := 10) C dX9_in_9 rfl ?_
    refine r_if_gt (tgt := 17) (pc' := 13) C dX9_in_10 rfl rfl (fun c2 => ?_) (fun c2 => ?_)
    · rw [if_pos c2] at h
      refine r_iconst (pc' := 18) C dX9_in_17 rfl kc_0 ?_
      have h := Option.some.inj h
      subst h
      exact r_ret C rfl dX9_in_18 hE
    · rw [if_neg c2] at h
      refine r_iconst (pc' := 14) C dX9_in_13 rfl kc_1 ?_
      refine r_goto (tgt := 18) C dX9_in_14 rfl ?_
      have h := Option.some.inj h
      subst h
      exact r_ret C rfl dX9_in_18 hE

/-! BorrowedWeightModel.end(I)Z -/
def X9_end (N : Nat)  (v1 : Int32) (σ : Sg) : Option (Int32 × Sg) :=
  bnS (wi σ 149 0 0) fun σ1 => (X9_in N v1.toInt64 0 ((gi σ1 149 11).toInt64) σ1).bind fun r3 => (if r3 = 0 then (some (0, σ1)) else (bnS (wi σ1 149 11 v1) fun σ6 => some (1, σ6)))
set_option maxRecDepth 100000 in
set_option maxHeartbeats 4000000 in
theorem X9_end_ok {E : Ev}  {N : Nat} {v1 : Int32} {σ : Sg} {r : Int32 × Sg} (h : X9_end N  v1 σ = some r) : Cm E (1) yX9_end cX9_end 2 (some .boolean) [.ref 149, .int v1] SH0 SH0 σ r.2 (some (.int r.1)) 0 0 := by
  refine Cm.intro (by decide +kernel) (Nat.le_of_ble_eq_true rfl) (fun _ h => by obtain ⟨_, _, _, _, _, _, h⟩ := h; exact h) (fun Z C hE => ?_)
  show Wm E Z 0 0 SH0 σ 0 [(0, .ref 149), (1, .int v1)] []
  unfold X9_end at h
  refine r_aload_n (pc' := 1) C dX9_end_0 rfl 0 rfl ?_
  refine r_iconst (pc' := 2) C dX9_end_1 rfl kc_0 ?_
  obtain ⟨σ1, e2, h⟩ := bs h
  refine r_putI (pc' := 5) (σ1 := σ1) C fpX9_3 sh_149 rfl rfl rfl dX9_end_2 rfl e2 ?_
  refine r_iload_n (pc' := 6) C dX9_end_5 rfl 1 rfl ?_
  refine r_i2l (pc' := 7) C dX9_end_6 rfl rfl ?_
  refine r_lconst (pc' := 8) C dX9_end_7 rfl kl_0 ?_
  refine r_aload_n (pc' := 9) C dX9_end_8 rfl 0 rfl ?_
  refine r_getI (pc' := 12) C flX9_141 sh_149 rfl dX9_end_9 rfl ?_
  refine r_i2l (pc' := 13) C dX9_end_12 rfl rfl ?_
  obtain ⟨r3, e4, h⟩ := bd h
  refine r_cS1 (pc' := 16) C (X9_in_ok  e4) mlX9_119 ceX9_in csX9_in rfl (Nat.le_of_ble_eq_true rfl) rfl (Nat.le_of_ble_eq_true rfl) dX9_end_13 rfl (kk := ?_)
  refine r_if_ne (tgt := 21) (pc' := 19) C dX9_end_16 rfl rfl (fun c5 => ?_) (fun c5 => ?_)
  · rw [if_neg c5] at h
    refine r_aload_n (pc' := 22) C dX9_end_21 rfl 0 rfl ?_
    refine r_iload_n (pc' := 23) C dX9_end_22 rfl 1 rfl ?_
    obtain ⟨σ6, e7, h⟩ := bs h
    refine r_putI (pc' := 26) (σ1 := σ6) C fpX9_141 sh_149 rfl rfl rfl dX9_end_23 rfl e7 ?_
    refine r_iconst (pc' := 27) C dX9_end_26 rfl kc_1 ?_
    have h := Option.some.inj h
    subst h
    exact r_ret C rfl dX9_end_27 hE
  · rw [if_pos c5] at h
    refine r_iconst (pc' := 20) C dX9_end_19 rfl kc_0 ?_
    have h := Option.some.inj h
    subst h
    exact r_ret C rfl dX9_end_20 hE

/-! BorrowedWeightModel.begins(I)I -/
def X9_begins (N : Nat)  (v1 : Int32) (σ : Sg) : Option (Int32 × Sg) :=
  bnS (wi σ 149 11 0) fun σ1 => bnS (wi σ1 149 12 0) fun σ3 => bnS (wi σ3 149 14 0) fun σ5 => (J9_min_7cf53 N (gi σ 149 11) v1 σ5).bind fun r7 => (bnS (wi σ5 149 13 r7) fun σ9 => some (gi σ 149 11, σ9))
set_option maxRecDepth 100000 in
set_option maxHeartbeats 4000000 in
theorem X9_begins_ok {E : Ev}  {N : Nat} {v1 : Int32} {σ : Sg} {r : Int32 × Sg} (h : X9_begins N  v1 σ = some r) : Cm E (1) yX9_begins cX9_begins 3 (some .int) [.ref 149, .int v1] SH0 SH0 σ r.2 (some (.int r.1)) 0 0 := by
  refine Cm.intro (by decide +kernel) (Nat.le_of_ble_eq_true rfl) (fun _ h => by obtain ⟨_, _, _, _, _, _, h⟩ := h; exact h) (fun Z C hE => ?_)
  show Wm E Z 0 0 SH0 σ 0 [(0, .ref 149), (1, .int v1)] []
  unfold X9_begins at h
  refine r_aload_n (pc' := 1) C dX9_begins_0 rfl 0 rfl ?_
  refine r_getI (pc' := 4) C flX9_141 sh_149 rfl dX9_begins_1 rfl ?_
  refine r_istore_n (pc' := 5) (lv2 := [(2, .int (gi σ 149 11)), (0, .ref 149), (1, .int v1)]) C dX9_begins_4 rfl rfl (Nat.le_of_ble_eq_true rfl) rfl ?_
  refine r_aload_n (pc' := 6) C dX9_begins_5 rfl 1 rfl ?_
  refine r_iconst (pc' := 7) C dX9_begins_6 rfl kc_0 ?_
  obtain ⟨σ1, e2, h⟩ := bs h
  refine r_putI (pc' := 10) (σ1 := σ1) C fpX9_141 sh_149 rfl rfl rfl dX9_begins_7 rfl e2 ?_
  refine r_aload_n (pc' := 11) C dX9_begins_10 rfl 1 rfl ?_
  refine r_iconst (pc' := 12) C dX9_begins_11 rfl kc_0 ?_
  obtain ⟨σ3, e4, h⟩ := bs h
  refine r_putI (pc' := 15) (σ1 := σ3) C fpX9_144 sh_149 rfl rfl rfl dX9_begins_12 rfl e4 ?_
  refine r_aload_n (pc' := 16) C dX9_begins_15 rfl 1 rfl ?_
  refine r_iconst (pc' := 17) C dX9_begins_16 rfl kc_0 ?_
  obtain ⟨σ5, e6, h⟩ := bs h
  refine r_putI (pc' := 20) (σ1 := σ5) C fpX9_147 sh_149 rfl rfl rfl dX9_begins_17 rfl e6 ?_
  refine r_aload_n (pc' := 21) C dX9_begins_20 rfl 1 rfl ?_
  refine r_iload_n (pc' := 22) C dX9_begins_21 rfl 0 rfl ?_
  refine r_iload_n (pc' := 23) C dX9_begins_22 rfl 2 rfl ?_
  obtain ⟨r7, e8, h⟩ := bd h
  refine r_cS1 (pc' := 26) C (J9_min_7cf53_ok  e8) mlX9_150 ceJ9_min_7cf53 csJ9_min_7cf53 rfl (Nat.le_of_ble_eq_true rfl) rfl (Nat.le_of_ble_eq_true rfl) dX9_begins_23 rfl (kk := ?_)
  obtain ⟨σ9, e10, h⟩ := bs h
  refine r_putI (pc' := 29) (σ1 := σ9) C fpX9_156 sh_149 rfl rfl rfl dX9_begins_26 rfl e10 ?_
  refine r_iload_n (pc' := 30) C dX9_begins_29 rfl 0 rfl ?_
  have h := Option.some.inj h
  subst h
  exact r_ret C rfl dX9_begins_30 hE

/-! BorrowedWeightModel.digitIn(II)I -/
def X9_digitIn (N : Nat)  (v1 : Int32) (v2 : Int32) (σ : Sg) : Option (Int32 × Sg) :=
  if (gi σ 149 13) ≤ (gi σ 149 12) then (some ((-1), σ)) else (if inb (gi σ 149 12) 80 = true then (X9_in N (((gi σ 155 (gi σ 149 12).toNatClampNeg) - 48).toInt64) v1.toInt64 v2.toInt64 σ).bind fun r3 => (if r3 = 0 then (some ((-1), σ)) else (bnS (wi σ 149 12 ((gi σ 149 12) + 1)) fun σ6 => if inb ((gi σ6 149 12) - 1) 80 = true then some ((gi σ6 155 ((gi σ6 149 12) - 1).toNatClampNeg) - 48, σ6) else none)) else none)
set_option maxRecDepth 100000 in
set_option maxHeartbeats 4000000 in
theorem X9_digitIn_ok {E : Ev}  {N : Nat} {v1 : Int32} {v2 : Int32} {σ : Sg} {r : Int32 × Sg} (h : X9_digitIn N  v1 v2 σ = some r) : Cm E (1) yX9_digitIn cX9_digitIn 3 (some .int) [.ref 149, .int v1, .int v2] SH0 SH0 σ r.2 (some (.int r.1)) 0 0 := by
  refine Cm.intro (by decide +kernel) (Nat.le_of_ble_eq_true rfl) (fun _ h => by obtain ⟨_, _, _, _, _, _, h⟩ := h; exact h) (fun Z C hE => ?_)
  show Wm E Z 0 0 SH0 σ 0 [(0, .ref 149), (1, .int v1), (2, .int v2)] []
  unfold X9_digitIn at h
  refine r_aload_n (pc' := 1) C dX9_digitIn_0 rfl 0 rfl ?_
  refine r_getI (pc' := 4) C flX9_144 sh_149 rfl dX9_digitIn_1 rfl ?_
  refine r_aload_n (pc' := 5) C dX9_digitIn_4 rfl 0 rfl ?_
  refine r_getI (pc' := 8) C flX9_156 sh_149 rfl dX9_digitIn_5 rfl ?_
  refine r_icmp_ge (tgt := 34) (pc' := 11) C dX9_digitIn_8 rfl rfl (fun c1 => ?_) (fun c1 => ?_)
  · rw [if_pos c1] at h
    refine r_iconst (pc' := 35) C dX9_digitIn_34 rfl kc_m1 ?_
    have h := Option.some.inj h
    subst h
    exact r_ret C rfl dX9_digitIn_35 hE
  · rw [if_neg c1] at h
    refine r_aload_n (pc' := 12) C dX9_digitIn_11 rfl 0 rfl ?_
    refine r_getR (pc' := 15) C flX9_40 sh_149 rfl dX9_digitIn_12 rfl ?_
    refine r_aload_n (pc' := 16) C dX9_digitIn_15 rfl 0 rfl ?_
    refine r_getI (pc' := 19) C flX9_144 sh_149 rfl dX9_digitIn_16 rfl ?_
    obtain ⟨q2, h⟩ := ck h
    refine r_iald (pc' := 20) C sh_155 (vin q2) dX9_digitIn_19 rfl ?_
    refine r_bipush (pc' := 22) C dX9_digitIn_20 rfl kb_48 ?_
    refine r_isub (pc' := 23) C dX9_digitIn_22 rfl ?_
    refine r_i2l (pc' := 24) C dX9_digitIn_23 rfl rfl ?_
    refine r_iload_n (pc' := 25) C dX9_digitIn_24 rfl 1 rfl ?_
    refine r_i2l (pc' := 26) C dX9_digitIn_25 rfl rfl ?_
    refine r_iload_n (pc' := 27) C dX9_digitIn_26 rfl 2 rfl ?_
    refine r_i2l (pc' := 28) C dX9_digitIn_27 rfl rfl ?_
    obtain ⟨r3, e4, h⟩ := bd h
    refine r_cS1 (pc' := 31) C (X9_in_ok  e4) mlX9_119 ceX9_in csX9_in rfl (Nat.le_of_ble_eq_true rfl) rfl (Nat.le_of_ble_eq_true rfl) dX9_digitIn_28 rfl (kk := ?_)
    refine r_if_ne (tgt := 36) (pc' := 34) C dX9_digitIn_31 rfl rfl (fun c5 => ?_) (fun c5 => ?_)
    · rw [if_neg c5] at h
      refine r_aload_n (pc' := 37) C dX9_digitIn_36 rfl 0 rfl ?_
      refine r_dup (pc' := 38) C dX9_digitIn_37 rfl rfl ?_
      refine r_getI (pc' := 41) C flX9_144 sh_149 rfl dX9_digitIn_38 rfl ?_
      refine r_iconst (pc' := 42) C dX9_digitIn_41 rfl kc_1 ?_
      refine r_iadd (pc' := 43) C dX9_digitIn_42 rfl ?_
      obtain ⟨σ6, e7, h⟩ := bs h
      refine r_putI (pc' := 46) (σ1 := σ6) C fpX9_144 sh_149 rfl rfl rfl dX9_digitIn_43 rfl e7 ?_
      refine r_aload_n (pc' := 47) C dX9_digitIn_46 rfl 0 rfl ?_
      refine r_getR (pc' := 50) C flX9_40 sh_149 rfl dX9_digitIn_47 rfl ?_
      refine r_aload_n (pc' := 51) C dX9_digitIn_50 rfl 0 rfl ?_
      refine r_getI (pc' := 54) C flX9_144 sh_149 rfl dX9_digitIn_51 rfl ?_
      refine r_iconst (pc' := 55) C dX9_digitIn_54 rfl kc_1 ?_
      refine r_isub (pc' := 56) C dX9_digitIn_55 rfl ?_
      obtain ⟨q8, h⟩ := ck h
      refine r_iald (pc' := 57) C sh_155 (vin q8) dX9_digitIn_56 rfl ?_
      refine r_bipush (pc' := 59) C dX9_digitIn_57 rfl kb_48 ?_
      refine r_isub (pc' := 60) C dX9_digitIn_59 rfl ?_
      have h := Option.some.inj h
      subst h
      exact r_ret C rfl dX9_digitIn_60 hE
    · rw [if_pos c5] at h
      refine r_iconst (pc' := 35) C dX9_digitIn_34 rfl kc_m1 ?_
      have h := Option.some.inj h
      subst h
      exact r_ret C rfl dX9_digitIn_35 hE

/-! BorrowedWeightModel.flag(Z)I -/
def X9_flag (N : Nat)  (v0 : Int32) (σ : Sg) : Option (Int32) :=
  if v0 = 0 then (some 0) else (some 1)
set_option maxRecDepth 100000 in
set_option maxHeartbeats 4000000 in
theorem X9_flag_ok {E : Ev}  {N : Nat} {v0 : Int32} {σ : Sg} {r : Int32} (h : X9_flag N  v0 σ = some r) : Cm E (0) yX9_flag cX9_flag 1 (some .int) [.int v0] SH0 SH0 σ σ (some (.int r)) 0 0 := by
  refine Cm.intro (by decide +kernel) (Nat.le_of_ble_eq_true rfl) (fun _ h => by obtain ⟨_, _, _, _, _, _, h⟩ := h; exact h) (fun Z C hE => ?_)
  show Wm E Z 0 0 SH0 σ 0 [(0, .int v0)] []
  unfold X9_flag at h
  refine r_iload_n (pc' := 1) C dX9_flag_0 rfl 0 rfl ?_
  refine r_if_eq (tgt := 8) (pc' := 4) C dX9_flag_1 rfl rfl (fun c1 => ?_) (fun c1 => ?_)
  · rw [if_pos c1] at h
    refine r_iconst (pc' := 9) C dX9_flag_8 rfl kc_0 ?_
    have h := Option.some.inj h
    subst h
    exact r_ret C rfl dX9_flag_9 hE
  · rw [if_neg c1] at h
    refine r_iconst (pc' := 5) C dX9_flag_4 rfl kc_1 ?_
    refine r_goto (tgt := 9) C dX9_flag_5 rfl ?_
    have h := Option.some.inj h
    subst h
    exact r_ret C rfl dX9_flag_9 hE

/-! BorrowedWeightModel.takes(I)Z -/
def X9_takes_j29 (N : Nat)   (s0 : Int32) (σ : Sg) : Option (Int32 × Sg) :=
  (X9_flag N s0 σ).bind fun r2 => (bnS (wi σ 149 12 ((gi σ 149 12) + r2)) fun σ4 => if isB s0 = true then some (s0, σ4) else none)
set_option maxRecDepth 100000 in
set_option maxHeartbeats 4000000 in
theorem X9_takes_j29_ok {E : Ev}  {N : Nat}    {s0 : Int32} {σ : Sg} {r : Int32 × Sg} (h : X9_takes_j29 N   s0 σ = some r) : Gp E RX9 cX9_takes (some .boolean) 3 (1) SH0 r.2 (some (.int r.1)) σ 29 [(0, .ref 149)] [.int s0] := by
  intro Z C hE
  unfold X9_takes_j29 at h
  refine r_istore_n (pc' := 30) (lv2 := [(2, .int s0), (0, .ref 149)]) C dX9_takes_29 rfl rfl (Nat.le_of_ble_eq_true rfl) rfl ?_
  refine r_aload_n (pc' := 31) C dX9_takes_30 rfl 1 rfl ?_
  refine r_dup (pc' := 32) C dX9_takes_31 rfl rfl ?_
  refine r_getI (pc' := 35) C flX9_144 sh_149 rfl dX9_takes_32 rfl ?_
  refine r_iload_n (pc' := 36) C dX9_takes_35 rfl 0 rfl ?_
  obtain ⟨r2, e3, h⟩ := bd h
  refine r_cS1 (pc' := 39) C (X9_flag_ok  e3) mlX9_159 ceX9_flag csX9_flag rfl (Nat.le_of_ble_eq_true rfl) rfl (Nat.le_of_ble_eq_true rfl) dX9_takes_36 rfl (kk := ?_)
  refine r_iadd (pc' := 40) C dX9_takes_39 rfl ?_
  obtain ⟨σ4, e5, h⟩ := bs h
  refine r_putI (pc' := 43) (σ1 := σ4) C fpX9_144 sh_149 rfl rfl rfl dX9_takes_40 rfl e5 ?_
  refine r_iload_n (pc' := 44) C dX9_takes_43 rfl 0 rfl ?_
  obtain ⟨q6, h⟩ := ck h
  have h := Option.some.inj h
  subst h
  exact r_ret C (nisB q6) dX9_takes_44 hE
def X9_takes (N : Nat)  (v1 : Int32) (σ : Sg) : Option (Int32 × Sg) :=
  if (gi σ 149 13) ≤ (gi σ 149 12) then (X9_takes_j29 N 0 σ) else (if inb (gi σ 149 12) 80 = true then if (gi σ 155 (gi σ 149 12).toNatClampNeg) = v1 then (X9_takes_j29 N 1 σ) else (X9_takes_j29 N 0 σ) else none)
set_option maxRecDepth 100000 in
set_option maxHeartbeats 4000000 in
theorem X9_takes_ok {E : Ev}  {N : Nat} {v1 : Int32} {σ : Sg} {r : Int32 × Sg} (h : X9_takes N  v1 σ = some r) : Cm E (1) yX9_takes cX9_takes 3 (some .boolean) [.ref 149, .int v1] SH0 SH0 σ r.2 (some (.int r.1)) 0 0 := by
  refine Cm.intro (by decide +kernel) (Nat.le_of_ble_eq_true rfl) (fun _ h => by obtain ⟨_, _, _, _, _, _, h⟩ := h; exact h) (fun Z C hE => ?_)
  show Wm E Z 0 0 SH0 σ 0 [(0, .ref 149), (1, .int v1)] []
  unfold X9_takes at h
  refine r_aload_n (pc' := 1) C dX9_takes_0 rfl 0 rfl ?_
  refine r_getI (pc' := 4) C flX9_144 sh_149 rfl dX9_takes_1 rfl ?_
  refine r_aload_n (pc' := 5) C dX9_takes_4 rfl 0 rfl ?_
  refine r_getI (pc' := 8) C flX9_156 sh_149 rfl dX9_takes_5 rfl ?_
  refine r_icmp_ge (tgt := 28) (pc' := 11) C dX9_takes_8 rfl rfl (fun c1 => ?_) (fun c1 => ?_)
  · rw [if_pos c1] at h
    refine r_iconst (pc' := 29) C dX9_takes_28 rfl kc_0 ?_
    refine r_sub [0] rfl ?_
    exact X9_takes_j29_ok  h Z C hE
  · rw [if_neg c1] at h
    refine r_aload_n (pc' := 12) C dX9_takes_11 rfl 0 rfl ?_
    refine r_getR (pc' := 15) C flX9_40 sh_149 rfl dX9_takes_12 rfl ?_
    refine r_aload_n (pc' := 16) C dX9_takes_15 rfl 0 rfl ?_
    refine r_getI (pc' := 19) C flX9_144 sh_149 rfl dX9_takes_16 rfl ?_
    obtain ⟨q7, h⟩ := ck h
    refine r_iald (pc' := 20) C sh_155 (vin q7) dX9_takes_19 rfl ?_
    refine r_iload_n (pc' := 21) C dX9_takes_20 rfl 1 rfl ?_
    refine r_icmp_ne (tgt := 28) (pc' := 24) C dX9_takes_21 rfl rfl (fun c8 => ?_) (fun c8 => ?_)
    · rw [if_neg c8] at h
      refine r_iconst (pc' := 29) C dX9_takes_28 rfl kc_0 ?_
      refine r_sub [0] rfl ?_
      exact X9_takes_j29_ok  h Z C hE
    · rw [if_pos c8] at h
      refine r_iconst (pc' := 25) C dX9_takes_24 rfl kc_1 ?_
      refine r_goto (tgt := 29) C dX9_takes_25 rfl ?_
      refine r_sub [0] rfl ?_
      exact X9_takes_j29_ok  h Z C hE
