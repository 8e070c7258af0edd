/-! BorrowedWeightModel.isFewer(II)Z -/
def X9_isFewer (N : Nat)  (v0 : Int32) (v1 : Int32) (σ : Sg) : Option (Int32) :=
  if v1 < 0 then (some 1) else ((J6_bitCount_0f7a4 N v0 σ).bind fun r2 => ((J6_bitCount_0f7a4 N v1 σ).bind fun r4 => (if r4 ≤ r2 then (some 0) else (some 1))))
set_option maxRecDepth 100000 in
set_option maxHeartbeats 4000000 in
theorem X9_isFewer_ok {E : Ev}  {N : Nat} {v0 : Int32} {v1 : Int32} {σ : Sg} {r : Int32} (h : X9_isFewer N  v0 v1 σ = some r) : Cm E (1) yX9_isFewer cX9_isFewer 2 (some .boolean) [.int v0, .int v1] SH0 SH0 σ σ (some (.int r)) 0 0 := by
  refine Cm.intro (by decide +kernel) (Nat.le_of_ble_eq_true rfl) (fun _ h => by obtain ⟨_, _, _, _, _, _, h⟩ := h; exact h) (fun Z C hE => ?_)
  show Wm E Z 0 0 SH0 σ 0 [(0, .int v0), (1, .int v1)] []
  unfold X9_isFewer at h
  refine r_iload_n (pc' := 1) C dX9_isFewer_0 rfl 1 rfl ?_
  refine r_if_lt (tgt := 15) (pc' := 4) C dX9_isFewer_1 rfl rfl (fun c1 => ?_) (fun c1 => ?_)
  · rw [if_pos c1] at h
    refine r_iconst (pc' := 16) C dX9_isFewer_15 rfl kc_1 ?_
    refine r_goto (tgt := 20) C dX9_isFewer_16 rfl ?_
    have h := Option.some.inj h
    subst h
    exact r_ret C rfl dX9_isFewer_20 hE
  · rw [if_neg c1] at h
    refine r_iload_n (pc' := 5) C dX9_isFewer_4 rfl 0 rfl ?_
    obtain ⟨r2, e3, h⟩ := bd h
    refine r_cS1 (pc' := 8) C (J6_bitCount_0f7a4_ok  e3) mlX9_135 ceJ6_bitCount_0f7a4 csJ6_bitCount_0f7a4 rfl (Nat.le_of_ble_eq_true rfl) rfl (Nat.le_of_ble_eq_true rfl) dX9_isFewer_5 rfl (kk := ?_)
    refine r_iload_n (pc' := 9) C dX9_isFewer_8 rfl 1 rfl ?_
    obtain ⟨r4, e5, h⟩ := bd h
    refine r_cS1 (pc' := 12) C (J6_bitCount_0f7a4_ok  e5) mlX9_135 ceJ6_bitCount_0f7a4 csJ6_bitCount_0f7a4 rfl (Nat.le_of_ble_eq_true rfl) rfl (Nat.le_of_ble_eq_true rfl) dX9_isFewer_9 rfl (kk := ?_)
    refine r_icmp_ge (tgt := 19) (pc' := 15) C dX9_isFewer_12 rfl rfl (fun c6 => ?_) (fun c6 => ?_)
    · rw [if_pos c6] at h
      refine r_iconst (pc' := 20) C dX9_isFewer_19 rfl kc_0 ?_
      have h := Option.some.inj h
      subst h
      exact r_ret C rfl dX9_isFewer_20 hE
    · rw [if_neg c6] at h
      refine r_iconst (pc' := 16) C dX9_isFewer_15 rfl kc_1 ?_
      refine r_goto (tgt := 20) C dX9_isFewer_16 rfl ?_
      have h := Option.some.inj h
      subst h
      exact r_ret C rfl dX9_isFewer_20 hE

/-! BorrowedWeightModel.lifts(I)I -/
def X9_lifts_l23 (N : Nat)  (k65 : Int32 → Sg → Option (Int32 × Sg))  : Nat → Int32 → Int32 → Int32 → Sg → Option (Int32 × Sg)
  | 0, _, _, _, _ => none
  | n + 1, v1, v2, v3, σ =>
    (X9_all N σ).bind fun r6 => (if r6 < v3 then (k65 v2 σ) else ((X9_isFewer N v3 v2 σ).bind fun r9 => (if r9 = 0 then (X9_lifts_l23 N k65 n v1 v2 (v3 + 1) σ) else ((X9_sumOf N 153 0 v3 σ).bind fun r12 => (if r12 < v1 then (X9_lifts_l23 N k65 n v1 v2 (v3 + 1) σ) else (X9_lifts_l23 N k65 n v1 v3 (v3 + 1) σ))))))
set_option maxRecDepth 100000 in
set_option maxHeartbeats 4000000 in
theorem X9_lifts_l23_ok {E : Ev}  {N : Nat} {k65 : Int32 → Sg → Option (Int32 × Sg)}  (hk65 : ∀ (v2 : Int32) (σ : Sg) (r : Int32 × Sg), k65 v2 σ = some r → Gp E RX9 cX9_lifts (some .int) 4 (2) SH0 r.2 (some (.int r.1)) σ 65 [(0, .ref 149), (2, .int v2)] []) : ∀ (n : Nat) (v1 : Int32) (v2 : Int32) (v3 : Int32) (σ : Sg) (r : Int32 × Sg), X9_lifts_l23 N k65 n v1 v2 v3 σ = some r → Gp E RX9 cX9_lifts (some .int) 4 (2) SH0 r.2 (some (.int r.1)) σ 23 [(0, .ref 149), (1, .int v1), (2, .int v2), (3, .int v3)] [] := by
  intro n
  induction n with
  | zero => intro v1 v2 v3 σ r h; cases h
  | succ n ih =>
    intro v1 v2 v3 σ r h Z C hE
    unfold X9_lifts_l23 at h
    refine r_iload_n (pc' := 24) C dX9_lifts_23 rfl 3 rfl ?_
    refine r_aload_n (pc' := 25) C dX9_lifts_24 rfl 0 rfl ?_
    obtain ⟨r6, e7, h⟩ := bd h
    refine r_cV1 (pc' := 28) C (X9_all_ok  e7) mlX9_131 ceX9_all cvX9_all sh_149 rfl rfl rfl (Nat.le_of_ble_eq_true rfl) rfl (Nat.le_of_ble_eq_true rfl) dX9_lifts_25 rfl (kk := ?_)
    refine r_icmp_gt (tgt := 65) (pc' := 31) C dX9_lifts_28 rfl rfl (fun c8 => ?_) (fun c8 => ?_)
    · rw [if_pos c8] at h
      refine r_sub [0, 2] rfl ?_
      exact hk65 _ _ _ h Z C hE
    · rw [if_neg c8] at h
      refine r_iload_n (pc' := 32) C dX9_lifts_31 rfl 3 rfl ?_
      refine r_iload_n (pc' := 33) C dX9_lifts_32 rfl 2 rfl ?_
      obtain ⟨r9, e10, h⟩ := bd h
      refine r_cS1 (pc' := 36) C (X9_isFewer_ok  e10) mlX9_395 ceX9_isFewer csX9_isFewer rfl (Nat.le_of_ble_eq_true rfl) rfl (Nat.le_of_ble_eq_true rfl) dX9_lifts_33 rfl (kk := ?_)
      refine r_if_eq (tgt := 57) (pc' := 39) C dX9_lifts_36 rfl rfl (fun c11 => ?_) (fun c11 => ?_)
      · rw [if_pos c11] at h
        refine r_iload_n (pc' := 58) C dX9_lifts_57 rfl 2 rfl ?_
        refine r_istore_n (pc' := 59) (lv2 := [(2, .int v2), (0, .ref 149), (1, .int v1), (3, .int v3)]) C dX9_lifts_58 rfl rfl (Nat.le_of_ble_eq_true rfl) rfl ?_
        refine r_iinc (pc' := 62) (v := v3 + 1) (lv2 := [(3, .int (v3 + 1)), (2, .int v2), (0, .ref 149), (1, .int v1)]) C dX9_lifts_59 rfl 3 rfl rfl (Nat.le_of_ble_eq_true rfl) rfl ?_
        refine r_goto (tgt := 23) C dX9_lifts_62 rfl ?_
        refine r_sub [2, 3, 1, 0] rfl ?_
        exact ih _ _ _ _ _ h Z C hE
      · rw [if_neg c11] at h
        refine r_aload_n (pc' := 40) C dX9_lifts_39 rfl 0 rfl ?_
        refine r_aload_n (pc' := 41) C dX9_lifts_40 rfl 0 rfl ?_
        refine r_getR (pc' := 44) C flX9_34 sh_149 rfl dX9_lifts_41 rfl ?_
        refine r_iconst (pc' := 45) C dX9_lifts_44 rfl kc_0 ?_
        refine r_iload_n (pc' := 46) C dX9_lifts_45 rfl 3 rfl ?_
        obtain ⟨r12, e13, h⟩ := bd h
        refine r_cV1 (pc' := 49) C (X9_sumOf_ok mac_153 e13) mlX9_274 ceX9_sumOf cvX9_sumOf sh_149 rfl rfl rfl (Nat.le_of_ble_eq_true rfl) rfl (Nat.le_of_ble_eq_true rfl) dX9_lifts_46 rfl (kk := ?_)
        refine r_iload_n (pc' := 50) C dX9_lifts_49 rfl 1 rfl ?_
        refine r_icmp_lt (tgt := 57) (pc' := 53) C dX9_lifts_50 rfl rfl (fun c14 => ?_) (fun c14 => ?_)
        · rw [if_pos c14] at h
          refine r_iload_n (pc' := 58) C dX9_lifts_57 rfl 2 rfl ?_
          refine r_istore_n (pc' := 59) (lv2 := [(2, .int v2), (0, .ref 149), (1, .int v1), (3, .int v3)]) C dX9_lifts_58 rfl rfl (Nat.le_of_ble_eq_true rfl) rfl ?_
          refine r_iinc (pc' := 62) (v := v3 + 1) (lv2 := [(3, .int (v3 + 1)), (2, .int v2), (0, .ref 149), (1, .int v1)]) C dX9_lifts_59 rfl 3 rfl rfl (Nat.le_of_ble_eq_true rfl) rfl ?_
          refine r_goto (tgt := 23) C dX9_lifts_62 rfl ?_
          refine r_sub [2, 3, 1, 0] rfl ?_
          exact ih _ _ _ _ _ h Z C hE
        · rw [if_neg c14] at h
          refine r_iload_n (pc' := 54) C dX9_lifts_53 rfl 3 rfl ?_
          refine r_goto (tgt := 58) C dX9_lifts_54 rfl ?_
          refine r_istore_n (pc' := 59) (lv2 := [(2, .int v3), (0, .ref 149), (1, .int v1), (3, .int v3)]) C dX9_lifts_58 rfl rfl (Nat.le_of_ble_eq_true rfl) rfl ?_
          refine r_iinc (pc' := 62) (v := v3 + 1) (lv2 := [(3, .int (v3 + 1)), (2, .int v3), (0, .ref 149), (1, .int v1)]) C dX9_lifts_59 rfl 3 rfl rfl (Nat.le_of_ble_eq_true rfl) rfl ?_
          refine r_goto (tgt := 23) C dX9_lifts_62 rfl ?_
          refine r_sub [2, 3, 1, 0] rfl ?_
          exact ih _ _ _ _ _ h Z C hE
def X9_lifts_j65 (N : Nat)   (v2 : Int32) (σ : Sg) : Option (Int32 × Sg) :=
  if 0 ≤ v2 then (bnS (wi σ 149 1 0) fun σ16 => (X9_enters N v2.toInt64 σ16).bind fun r18 => ((J6_bitCount_0f7a4 N v2 r18).bind fun r20 => (some (r20, r18)))) else (some ((-2), σ))
set_option maxRecDepth 100000 in
set_option maxHeartbeats 4000000 in
theorem X9_lifts_j65_ok {E : Ev}  {N : Nat}    {v2 : Int32} {σ : Sg} {r : Int32 × Sg} (h : X9_lifts_j65 N   v2 σ = some r) : Gp E RX9 cX9_lifts (some .int) 4 (2) SH0 r.2 (some (.int r.1)) σ 65 [(0, .ref 149), (2, .int v2)] [] := by
  intro Z C hE
  unfold X9_lifts_j65 at h
  refine r_iload_n (pc' := 66) C dX9_lifts_65 rfl 1 rfl ?_
  refine r_if_ge (tgt := 72) (pc' := 69) C dX9_lifts_66 rfl rfl (fun c15 => ?_) (fun c15 => ?_)
  · rw [if_pos c15] at h
    refine r_aload_n (pc' := 73) C dX9_lifts_72 rfl 0 rfl ?_
    refine r_iconst (pc' := 74) C dX9_lifts_73 rfl kc_0 ?_
    obtain ⟨σ16, e17, h⟩ := bs h
    refine r_putI (pc' := 77) (σ1 := σ16) C fpX9_15 sh_149 rfl rfl rfl dX9_lifts_74 rfl e17 ?_
    refine r_aload_n (pc' := 78) C dX9_lifts_77 rfl 0 rfl ?_
    refine r_iload_n (pc' := 79) C dX9_lifts_78 rfl 1 rfl ?_
    refine r_i2l (pc' := 80) C dX9_lifts_79 rfl rfl ?_
    obtain ⟨r18, e19, h⟩ := bd h
    refine r_cV0 (pc' := 83) C (X9_enters_ok  e19) mlX9_327 ceX9_enters cvX9_enters sh_149 rfl rfl rfl (Nat.le_of_ble_eq_true rfl) rfl (Nat.le_of_ble_eq_true rfl) dX9_lifts_80 rfl (kk := ?_)
    refine r_iload_n (pc' := 84) C dX9_lifts_83 rfl 1 rfl ?_
    obtain ⟨r20, e21, h⟩ := bd h
    refine r_cS1 (pc' := 87) C (J6_bitCount_0f7a4_ok  e21) mlX9_135 ceJ6_bitCount_0f7a4 csJ6_bitCount_0f7a4 rfl (Nat.le_of_ble_eq_true rfl) rfl (Nat.le_of_ble_eq_true rfl) dX9_lifts_84 rfl (kk := ?_)
    have h := Option.some.inj h
    subst h
    exact r_ret C rfl dX9_lifts_87 hE
  · rw [if_neg c15] at h
    refine r_bipush (pc' := 71) C dX9_lifts_69 rfl kb_m2 ?_
    have h := Option.some.inj h
    subst h
    exact r_ret C rfl dX9_lifts_71 hE
def X9_lifts (N : Nat)  (v1 : Int32) (σ : Sg) : Option (Int32 × Sg) :=
  bnS (wi σ 149 0 0) fun σ1 => (X9_in N v1.toInt64 1 72 σ1).bind fun r3 => (if r3 = 0 then (some ((-1), σ1)) else (X9_lifts_l23 N (fun v2 σ => X9_lifts_j65 N v2 σ) N v1 (-1) 0 σ1))
set_option maxRecDepth 100000 in
set_option maxHeartbeats 4000000 in
theorem X9_lifts_ok {E : Ev}  {N : Nat} {v1 : Int32} {σ : Sg} {r : Int32 × Sg} (h : X9_lifts N  v1 σ = some r) : Cm E (2) yX9_lifts cX9_lifts 4 (some .int) [.ref 149, .int v1] SH0 SH0 σ r.2 (some (.int r.1)) 0 0 := by
  refine Cm.intro (by decide +kernel) (Nat.le_of_ble_eq_true rfl) (fun _ h => by obtain ⟨_, _, _, _, _, _, h⟩ := h; exact h) (fun Z C hE => ?_)
  show Wm E Z 0 0 SH0 σ 0 [(0, .ref 149), (1, .int v1)] []
  unfold X9_lifts at h
  refine r_aload_n (pc' := 1) C dX9_lifts_0 rfl 0 rfl ?_
  refine r_iconst (pc' := 2) C dX9_lifts_1 rfl kc_0 ?_
  obtain ⟨σ1, e2, h⟩ := bs h
  refine r_putI (pc' := 5) (σ1 := σ1) C fpX9_3 sh_149 rfl rfl rfl dX9_lifts_2 rfl e2 ?_
  refine r_iload_n (pc' := 6) C dX9_lifts_5 rfl 1 rfl ?_
  refine r_i2l (pc' := 7) C dX9_lifts_6 rfl rfl ?_
  refine r_lconst (pc' := 8) C dX9_lifts_7 rfl kl_1 ?_
  refine r_ldc2 (pc' := 11) C cnX9_393 dX9_lifts_8 rfl ?_
  obtain ⟨r3, e4, h⟩ := bd h
  refine r_cS1 (pc' := 14) C (X9_in_ok  e4) mlX9_119 ceX9_in csX9_in rfl (Nat.le_of_ble_eq_true rfl) rfl (Nat.le_of_ble_eq_true rfl) dX9_lifts_11 rfl (kk := ?_)
  refine r_if_ne (tgt := 19) (pc' := 17) C dX9_lifts_14 rfl rfl (fun c5 => ?_) (fun c5 => ?_)
  · rw [if_neg c5] at h
    refine r_iconst (pc' := 20) C dX9_lifts_19 rfl kc_m1 ?_
    refine r_istore_n (pc' := 21) (lv2 := [(2, .int (-1)), (0, .ref 149), (1, .int v1)]) C dX9_lifts_20 rfl rfl (Nat.le_of_ble_eq_true rfl) rfl ?_
    refine r_iconst (pc' := 22) C dX9_lifts_21 rfl kc_0 ?_
    refine r_istore_n (pc' := 23) (lv2 := [(3, .int 0), (2, .int (-1)), (0, .ref 149), (1, .int v1)]) C dX9_lifts_22 rfl rfl (Nat.le_of_ble_eq_true rfl) rfl ?_
    refine r_sub [2, 3, 1, 0] rfl ?_
    exact X9_lifts_l23_ok  (fun _ _ _ h Z C hE => by exact X9_lifts_j65_ok  h Z C hE) N _ _ _ _ _ h Z C hE
  · rw [if_pos c5] at h
    refine r_iconst (pc' := 18) C dX9_lifts_17 rfl kc_m1 ?_
    have h := Option.some.inj h
    subst h
    exact r_ret C rfl dX9_lifts_18 hE

/-! BorrowedWeightModel.just(I)I -/
def X9_just_j77 (N : Nat)  (kr : Int32 → Int32 → Int32 → Int32 → Sg → Option (Int32 × Sg)) (v1 : Int32) (v3 : Int32) (v4 : Int32) (v5 : Int32) (s0 : Int32) (σ : Sg) : Option (Int32 × Sg) :=
  (X9_flag N v5 σ).bind fun r13 => (kr v1 s0 (v3 + r13) (v4 + 1) σ)
set_option maxRecDepth 100000 in
set_option maxHeartbeats 4000000 in
theorem X9_just_j77_ok {E : Ev}  {N : Nat} {kr : Int32 → Int32 → Int32 → Int32 → Sg → Option (Int32 × Sg)}  (hkr : ∀ (v1 : Int32) (v2 : Int32) (v3 : Int32) (v4 : Int32) (σ : Sg) (r : Int32 × Sg), kr v1 v2 v3 v4 σ = some r → Gp E RX9 cX9_just (some .int) 6 (2) SH0 r.2 (some (.int r.1)) σ 26 [(0, .ref 149), (1, .int v1), (2, .int v2), (3, .int v3), (4, .int v4)] []) {v1 : Int32} {v3 : Int32} {v4 : Int32} {v5 : Int32} {s0 : Int32} {σ : Sg} {r : Int32 × Sg} (h : X9_just_j77 N  kr v1 v3 v4 v5 s0 σ = some r) : Gp E RX9 cX9_just (some .int) 6 (2) SH0 r.2 (some (.int r.1)) σ 77 [(0, .ref 149), (1, .int v1), (3, .int v3), (4, .int v4), (5, .int v5)] [.int s0] := by
  intro Z C hE
  unfold X9_just_j77 at h
  refine r_istore_n (pc' := 78) (lv2 := [(2, .int s0), (0, .ref 149), (1, .int v1), (3, .int v3), (4, .int v4), (5, .int v5)]) C dX9_just_77 rfl rfl (Nat.le_of_ble_eq_true rfl) rfl ?_
  refine r_iload_n (pc' := 79) C dX9_just_78 rfl 3 rfl ?_
  refine r_iload (pc' := 81) C dX9_just_79 rfl 5 rfl ?_
  obtain ⟨r13, e14, h⟩ := bd h
  refine r_cS1 (pc' := 84) C (X9_flag_ok  e14) mlX9_159 ceX9_flag csX9_flag rfl (Nat.le_of_ble_eq_true rfl) rfl (Nat.le_of_ble_eq_true rfl) dX9_just_81 rfl (kk := ?_)
  refine r_iadd (pc' := 85) C dX9_just_84 rfl ?_
  refine r_istore_n (pc' := 86) (lv2 := [(3, .int (v3 + r13)), (2, .int s0), (0, .ref 149), (1, .int v1), (4, .int v4), (5, .int v5)]) C dX9_just_85 rfl rfl (Nat.le_of_ble_eq_true rfl) rfl ?_
  refine r_iinc (pc' := 89) (v := v4 + 1) (lv2 := [(4, .int (v4 + 1)), (3, .int (v3 + r13)), (2, .int s0), (0, .ref 149), (1, .int v1), (5, .int v5)]) C dX9_just_86 rfl 4 rfl rfl (Nat.le_of_ble_eq_true rfl) rfl ?_
  refine r_goto (tgt := 26) C dX9_just_89 rfl ?_
  refine r_sub [3, 4, 2, 1, 0] rfl ?_
  exact hkr _ _ _ _ _ _ h Z C hE
def X9_just_j55 (N : Nat)  (kr : Int32 → Int32 → Int32 → Int32 → Sg → Option (Int32 × Sg)) (v1 : Int32) (v2 : Int32) (v3 : Int32) (v4 : Int32) (s0 : Int32) (σ : Sg) : Option (Int32 × Sg) :=
  if s0 = 0 then (X9_just_j77 N kr v1 v3 v4 s0 v2 σ) else ((X9_isFewer N v4 v2 σ).bind fun r15 => (if r15 = 0 then (X9_just_j77 N kr v1 v3 v4 s0 v2 σ) else (X9_just_j77 N kr v1 v3 v4 s0 v4 σ)))
set_option maxRecDepth 100000 in
set_option maxHeartbeats 4000000 in
theorem X9_just_j55_ok {E : Ev}  {N : Nat} {kr : Int32 → Int32 → Int32 → Int32 → Sg → Option (Int32 × Sg)}  (hkr : ∀ (v1 : Int32) (v2 : Int32) (v3 : Int32) (v4 : Int32) (σ : Sg) (r : Int32 × Sg), kr v1 v2 v3 v4 σ = some r → Gp E RX9 cX9_just (some .int) 6 (2) SH0 r.2 (some (.int r.1)) σ 26 [(0, .ref 149), (1, .int v1), (2, .int v2), (3, .int v3), (4, .int v4)] []) {v1 : Int32} {v2 : Int32} {v3 : Int32} {v4 : Int32} {s0 : Int32} {σ : Sg} {r : Int32 × Sg} (h : X9_just_j55 N  kr v1 v2 v3 v4 s0 σ = some r) : Gp E RX9 cX9_just (some .int) 6 (2) SH0 r.2 (some (.int r.1)) σ 55 [(0, .ref 149), (1, .int v1), (2, .int v2), (3, .int v3), (4, .int v4)] [.int s0] := by
  intro Z C hE
  unfold X9_just_j55 at h
  refine r_istore (pc' := 57) (lv2 := [(5, .int s0), (0, .ref 149), (1, .int v1), (2, .int v2), (3, .int v3), (4, .int v4)]) C dX9_just_55 rfl (Nat.le_of_ble_eq_true rfl) rfl ?_
  refine r_iload (pc' := 59) C dX9_just_57 rfl 0 rfl ?_
  refine r_if_eq (tgt := 76) (pc' := 62) C dX9_just_59 rfl rfl (fun c12 => ?_) (fun c12 => ?_)
  · rw [if_pos c12] at h
    refine r_iload_n (pc' := 77) C dX9_just_76 rfl 3 rfl ?_
    refine r_sub [1, 2, 4, 5, 0] rfl ?_
    exact X9_just_j77_ok  hkr h Z C hE
  · rw [if_neg c12] at h
    refine r_iload (pc' := 64) C dX9_just_62 rfl 5 rfl ?_
    refine r_iload_n (pc' := 65) C dX9_just_64 rfl 3 rfl ?_
    obtain ⟨r15, e16, h⟩ := bd h
    refine r_cS1 (pc' := 68) C (X9_isFewer_ok  e16) mlX9_395 ceX9_isFewer csX9_isFewer rfl (Nat.le_of_ble_eq_true rfl) rfl (Nat.le_of_ble_eq_true rfl) dX9_just_65 rfl (kk := ?_)
    refine r_if_eq (tgt := 76) (pc' := 71) C dX9_just_68 rfl rfl (fun c17 => ?_) (fun c17 => ?_)
    · rw [if_pos c17] at h
      refine r_iload_n (pc' := 77) C dX9_just_76 rfl 3 rfl ?_
      refine r_sub [1, 2, 4, 5, 0] rfl ?_
      exact X9_just_j77_ok  hkr h Z C hE
    · rw [if_neg c17] at h
      refine r_iload (pc' := 73) C dX9_just_71 rfl 5 rfl ?_
      refine r_goto (tgt := 77) C dX9_just_73 rfl ?_
      refine r_sub [1, 2, 4, 5, 0] rfl ?_
      exact X9_just_j77_ok  hkr h Z C hE
def X9_just_l26 (N : Nat)  (k92 : Int32 → Int32 → Sg → Option (Int32 × Sg))  : Nat → Int32 → Int32 → Int32 → Int32 → Sg → Option (Int32 × Sg)
  | 0, _, _, _, _, _ => none
  | n + 1, v1, v2, v3, v4, σ =>
    (X9_all N σ).bind fun r6 => (if r6 < v4 then (k92 v2 v3 σ) else ((X9_sumOf N 153 0 v4 σ).bind fun r9 => (if r9 = v1 then (X9_just_j55 N (fun v1 v2 v3 v4 σ => X9_just_l26 N k92 n v1 v2 v3 v4 σ) v1 v2 v3 v4 1 σ) else (X9_just_j55 N (fun v1 v2 v3 v4 σ => X9_just_l26 N k92 n v1 v2 v3 v4 σ) v1 v2 v3 v4 0 σ))))
set_option maxRecDepth 100000 in
set_option maxHeartbeats 4000000 in
theorem X9_just_l26_ok {E : Ev}  {N : Nat} {k92 : Int32 → Int32 → Sg → Option (Int32 × Sg)}  (hk92 : ∀ (v2 : Int32) (v3 : Int32) (σ : Sg) (r : Int32 × Sg), k92 v2 v3 σ = some r → Gp E RX9 cX9_just (some .int) 6 (2) SH0 r.2 (some (.int r.1)) σ 92 [(0, .ref 149), (2, .int v2), (3, .int v3)] []) : ∀ (n : Nat) (v1 : Int32) (v2 : Int32) (v3 : Int32) (v4 : Int32) (σ : Sg) (r : Int32 × Sg), X9_just_l26 N k92 n v1 v2 v3 v4 σ = some r → Gp E RX9 cX9_just (some .int) 6 (2) SH0 r.2 (some (.int r.1)) σ 26 [(0, .ref 149), (1, .int v1), (2, .int v2), (3, .int v3), (4, .int v4)] [] := by
  intro n
  induction n with
  | zero => intro v1 v2 v3 v4 σ r h; cases h
  | succ n ih =>
    intro v1 v2 v3 v4 σ r h Z C hE
    unfold X9_just_l26 at h
    refine r_iload (pc' := 28) C dX9_just_26 rfl 4 rfl ?_
    refine r_aload_n (pc' := 29) C dX9_just_28 rfl 0 rfl ?_
    obtain ⟨r6, e7, h⟩ := bd h
    refine r_cV1 (pc' := 32) C (X9_all_ok  e7) mlX9_131 ceX9_all cvX9_all sh_149 rfl rfl rfl (Nat.le_of_ble_eq_true rfl) rfl (Nat.le_of_ble_eq_true rfl) dX9_just_29 rfl (kk := ?_)
    refine r_icmp_gt (tgt := 92) (pc' := 35) C dX9_just_32 rfl rfl (fun c8 => ?_) (fun c8 => ?_)
    · rw [if_pos c8] at h
      refine r_sub [0, 2, 3] rfl ?_
      exact hk92 _ _ _ _ h Z C hE
    · rw [if_neg c8] at h
      refine r_aload_n (pc' := 36) C dX9_just_35 rfl 0 rfl ?_
      refine r_aload_n (pc' := 37) C dX9_just_36 rfl 0 rfl ?_
      refine r_getR (pc' := 40) C flX9_34 sh_149 rfl dX9_just_37 rfl ?_
      refine r_iconst (pc' := 41) C dX9_just_40 rfl kc_0 ?_
      refine r_iload (pc' := 43) C dX9_just_41 rfl 4 rfl ?_
      obtain ⟨r9, e10, h⟩ := bd h
      refine r_cV1 (pc' := 46) C (X9_sumOf_ok mac_153 e10) mlX9_274 ceX9_sumOf cvX9_sumOf sh_149 rfl rfl rfl (Nat.le_of_ble_eq_true rfl) rfl (Nat.le_of_ble_eq_true rfl) dX9_just_43 rfl (kk := ?_)
      refine r_iload_n (pc' := 47) C dX9_just_46 rfl 1 rfl ?_
      refine r_icmp_ne (tgt := 54) (pc' := 50) C dX9_just_47 rfl rfl (fun c11 => ?_) (fun c11 => ?_)
      · rw [if_neg c11] at h
        refine r_iconst (pc' := 55) C dX9_just_54 rfl kc_0 ?_
        exact X9_just_j55_ok  ih h Z C hE
      · rw [if_pos c11] at h
        refine r_iconst (pc' := 51) C dX9_just_50 rfl kc_1 ?_
        refine r_goto (tgt := 55) C dX9_just_51 rfl ?_
        exact X9_just_j55_ok  ih h Z C hE
def X9_just_j92 (N : Nat)   (v2 : Int32) (v3 : Int32) (σ : Sg) : Option (Int32 × Sg) :=
  if 0 ≤ v2 then (bnS (wi σ 149 1 0) fun σ19 => (X9_enters N v2.toInt64 σ19).bind fun r21 => ((X9_enters N v3.toInt64 r21).bind fun r23 => ((J6_bitCount_0f7a4 N v2 r23).bind fun r25 => (some (r25, r23))))) else (some ((-2), σ))
set_option maxRecDepth 100000 in
set_option maxHeartbeats 4000000 in
theorem X9_just_j92_ok {E : Ev}  {N : Nat}    {v2 : Int32} {v3 : Int32} {σ : Sg} {r : Int32 × Sg} (h : X9_just_j92 N   v2 v3 σ = some r) : Gp E RX9 cX9_just (some .int) 6 (2) SH0 r.2 (some (.int r.1)) σ 92 [(0, .ref 149), (2, .int v2), (3, .int v3)] [] := by
  intro Z C hE
  unfold X9_just_j92 at h
  refine r_iload_n (pc' := 93) C dX9_just_92 rfl 1 rfl ?_
  refine r_if_ge (tgt := 99) (pc' := 96) C dX9_just_93 rfl rfl (fun c18 => ?_) (fun c18 => ?_)
  · rw [if_pos c18] at h
    refine r_aload_n (pc' := 100) C dX9_just_99 rfl 0 rfl ?_
    refine r_iconst (pc' := 101) C dX9_just_100 rfl kc_0 ?_
    obtain ⟨σ19, e20, h⟩ := bs h
    refine r_putI (pc' := 104) (σ1 := σ19) C fpX9_15 sh_149 rfl rfl rfl dX9_just_101 rfl e20 ?_
    refine r_aload_n (pc' := 105) C dX9_just_104 rfl 0 rfl ?_
    refine r_iload_n (pc' := 106) C dX9_just_105 rfl 1 rfl ?_
    refine r_i2l (pc' := 107) C dX9_just_106 rfl rfl ?_
    obtain ⟨r21, e22, h⟩ := bd h
    refine r_cV0 (pc' := 110) C (X9_enters_ok  e22) mlX9_327 ceX9_enters cvX9_enters sh_149 rfl rfl rfl (Nat.le_of_ble_eq_true rfl) rfl (Nat.le_of_ble_eq_true rfl) dX9_just_107 rfl (kk := ?_)
    refine r_aload_n (pc' := 111) C dX9_just_110 rfl 0 rfl ?_
    refine r_iload_n (pc' := 112) C dX9_just_111 rfl 2 rfl ?_
    refine r_i2l (pc' := 113) C dX9_just_112 rfl rfl ?_
    obtain ⟨r23, e24, h⟩ := bd h
    refine r_cV0 (pc' := 116) C (X9_enters_ok  e24) mlX9_327 ceX9_enters cvX9_enters sh_149 rfl rfl rfl (Nat.le_of_ble_eq_true rfl) rfl (Nat.le_of_ble_eq_true rfl) dX9_just_113 rfl (kk := ?_)
    refine r_iload_n (pc' := 117) C dX9_just_116 rfl 1 rfl ?_
    obtain ⟨r25, e26, h⟩ := bd h
    refine r_cS1 (pc' := 120) C (J6_bitCount_0f7a4_ok  e26) mlX9_135 ceJ6_bitCount_0f7a4 csJ6_bitCount_0f7a4 rfl (Nat.le_of_ble_eq_true rfl) rfl (Nat.le_of_ble_eq_true rfl) dX9_just_117 rfl (kk := ?_)
    have h := Option.some.inj h
    subst h
    exact r_ret C rfl dX9_just_120 hE
  · rw [if_neg c18] at h
    refine r_bipush (pc' := 98) C dX9_just_96 rfl kb_m2 ?_
    have h := Option.some.inj h
    subst h
    exact r_ret C rfl dX9_just_98 hE
def X9_just (N : Nat)  (v1 : Int32) (σ : Sg) : Option (Int32 × Sg) :=
  bnS (wi σ 149 0 0) fun σ1 => (X9_in N v1.toInt64 0 72 σ1).bind fun r3 => (if r3 = 0 then (some ((-1), σ1)) else (X9_just_l26 N (fun v2 v3 σ => X9_just_j92 N v2 v3 σ) N v1 (-1) 0 0 σ1))
set_option maxRecDepth 100000 in
set_option maxHeartbeats 4000000 in
theorem X9_just_ok {E : Ev}  {N : Nat} {v1 : Int32} {σ : Sg} {r : Int32 × Sg} (h : X9_just N  v1 σ = some r) : Cm E (2) yX9_just cX9_just 6 (some .int) [.ref 149, .int v1] SH0 SH0 σ r.2 (some (.int r.1)) 0 0 := by
  refine Cm.intro (by decide +kernel) (Nat.le_of_ble_eq_true rfl) (fun _ h => by obtain ⟨_, _, _, _, _, _, h⟩ := h; exact h) (fun Z C hE => ?_)
  show Wm E Z 0 0 SH0 σ 0 [(0, .ref 149), (1, .int v1)] []
  unfold X9_just at h
  refine r_aload_n (pc' := 1) C dX9_just_0 rfl 0 rfl ?_
  refine r_iconst (pc' := 2) C dX9_just_1 rfl kc_0 ?_
  obtain ⟨σ1, e2, h⟩ := bs h
  refine r_putI (pc' := 5) (σ1 := σ1) C fpX9_3 sh_149 rfl rfl rfl dX9_just_2 rfl e2 ?_
  refine r_iload_n (pc' := 6) C dX9_just_5 rfl 1 rfl ?_
  refine r_i2l (pc' := 7) C dX9_just_6 rfl rfl ?_
  refine r_lconst (pc' := 8) C dX9_just_7 rfl kl_0 ?_
  refine r_ldc2 (pc' := 11) C cnX9_393 dX9_just_8 rfl ?_
  obtain ⟨r3, e4, h⟩ := bd h
  refine r_cS1 (pc' := 14) C (X9_in_ok  e4) mlX9_119 ceX9_in csX9_in rfl (Nat.le_of_ble_eq_true rfl) rfl (Nat.le_of_ble_eq_true rfl) dX9_just_11 rfl (kk := ?_)
  refine r_if_ne (tgt := 19) (pc' := 17) C dX9_just_14 rfl rfl (fun c5 => ?_) (fun c5 => ?_)
  · rw [if_neg c5] at h
    refine r_iconst (pc' := 20) C dX9_just_19 rfl kc_m1 ?_
    refine r_istore_n (pc' := 21) (lv2 := [(2, .int (-1)), (0, .ref 149), (1, .int v1)]) C dX9_just_20 rfl rfl (Nat.le_of_ble_eq_true rfl) rfl ?_
    refine r_iconst (pc' := 22) C dX9_just_21 rfl kc_0 ?_
    refine r_istore_n (pc' := 23) (lv2 := [(3, .int 0), (2, .int (-1)), (0, .ref 149), (1, .int v1)]) C dX9_just_22 rfl rfl (Nat.le_of_ble_eq_true rfl) rfl ?_
    refine r_iconst (pc' := 24) C dX9_just_23 rfl kc_0 ?_
    refine r_istore (pc' := 26) (lv2 := [(4, .int 0), (3, .int 0), (2, .int (-1)), (0, .ref 149), (1, .int v1)]) C dX9_just_24 rfl (Nat.le_of_ble_eq_true rfl) rfl ?_
    refine r_sub [3, 4, 2, 1, 0] rfl ?_
    exact X9_just_l26_ok  (fun _ _ _ _ h Z C hE => by exact X9_just_j92_ok  h Z C hE) N _ _ _ _ _ _ h Z C hE
  · rw [if_pos c5] at h
    refine r_iconst (pc' := 18) C dX9_just_17 rfl kc_m1 ?_
    have h := Option.some.inj h
    subst h
    exact r_ret C rfl dX9_just_18 hE

/-! BorrowedWeightModel.evens()I -/
def X9_evens_l23 (N : Nat)  (k80 : Int32 → Int32 → Sg → Option (Int32 × Sg))  : Nat → Int32 → Int32 → Int32 → Sg → Option (Int32 × Sg)
  | 0, _, _, _, _ => none
  | n + 1, v1, v2, v3, σ =>
    (X9_all N σ).bind fun r7 => (if r7 < v3 then (k80 v1 v2 σ) else ((X9_sumOf N 153 0 v3 σ).bind fun r10 => ((J9_abs_0f7a4 N (v1 - (2 * r10)) σ).bind fun r12 => ((X9_sumOf N 153 0 v2 σ).bind fun r14 => ((J9_abs_0f7a4 N (v1 - (2 * r14)) σ).bind fun r16 => (if r16 ≤ r12 then (X9_evens_l23 N k80 n v1 v2 (v3 + 1) σ) else (X9_evens_l23 N k80 n v1 v3 (v3 + 1) σ)))))))
set_option maxRecDepth 100000 in
set_option maxHeartbeats 4000000 in
theorem X9_evens_l23_ok {E : Ev}  {N : Nat} {k80 : Int32 → Int32 → Sg → Option (Int32 × Sg)}  (hk80 : ∀ (v1 : Int32) (v2 : Int32) (σ : Sg) (r : Int32 × Sg), k80 v1 v2 σ = some r → Gp E RX9 cX9_evens (some .int) 4 (2) SH0 r.2 (some (.int r.1)) σ 80 [(0, .ref 149), (1, .int v1), (2, .int v2)] []) : ∀ (n : Nat) (v1 : Int32) (v2 : Int32) (v3 : Int32) (σ : Sg) (r : Int32 × Sg), X9_evens_l23 N k80 n v1 v2 v3 σ = some r → Gp E RX9 cX9_evens (some .int) 4 (2) SH0 r.2 (some (.int r.1)) σ 23 [(0, .ref 149), (1, .int v1), (2, .int v2), (3, .int v3)] [] := by
  intro n
  induction n with
  | zero => intro v1 v2 v3 σ r h; cases h
  | succ n ih =>
    intro v1 v2 v3 σ r h Z C hE
    unfold X9_evens_l23 at h
    refine r_iload_n (pc' := 24) C dX9_evens_23 rfl 3 rfl ?_
    refine r_aload_n (pc' := 25) C dX9_evens_24 rfl 0 rfl ?_
    obtain ⟨r7, e8, h⟩ := bd h
    refine r_cV1 (pc' := 28) C (X9_all_ok  e8) mlX9_131 ceX9_all cvX9_all sh_149 rfl rfl rfl (Nat.le_of_ble_eq_true rfl) rfl (Nat.le_of_ble_eq_true rfl) dX9_evens_25 rfl (kk := ?_)
    refine r_icmp_gt (tgt := 80) (pc' := 31) C dX9_evens_28 rfl rfl (fun c9 => ?_) (fun c9 => ?_)
    · rw [if_pos c9] at h
      refine r_sub [0, 1, 2] rfl ?_
      exact hk80 _ _ _ _ h Z C hE
    · rw [if_neg c9] at h
      refine r_iload_n (pc' := 32) C dX9_evens_31 rfl 1 rfl ?_
      refine r_iconst (pc' := 33) C dX9_evens_32 rfl kc_2 ?_
      refine r_aload_n (pc' := 34) C dX9_evens_33 rfl 0 rfl ?_
      refine r_aload_n (pc' := 35) C dX9_evens_34 rfl 0 rfl ?_
      refine r_getR (pc' := 38) C flX9_34 sh_149 rfl dX9_evens_35 rfl ?_
      refine r_iconst (pc' := 39) C dX9_evens_38 rfl kc_0 ?_
      refine r_iload_n (pc' := 40) C dX9_evens_39 rfl 3 rfl ?_
      obtain ⟨r10, e11, h⟩ := bd h
      refine r_cV1 (pc' := 43) C (X9_sumOf_ok mac_153 e11) mlX9_274 ceX9_sumOf cvX9_sumOf sh_149 rfl rfl rfl (Nat.le_of_ble_eq_true rfl) rfl (Nat.le_of_ble_eq_true rfl) dX9_evens_40 rfl (kk := ?_)
      refine r_imul (pc' := 44) C dX9_evens_43 rfl ?_
      refine r_isub (pc' := 45) C dX9_evens_44 rfl ?_
      obtain ⟨r12, e13, h⟩ := bd h
      refine r_cS1 (pc' := 48) C (J9_abs_0f7a4_ok  e13) mlX9_398 ceJ9_abs_0f7a4 csJ9_abs_0f7a4 rfl (Nat.le_of_ble_eq_true rfl) rfl (Nat.le_of_ble_eq_true rfl) dX9_evens_45 rfl (kk := ?_)
      refine r_iload_n (pc' := 49) C dX9_evens_48 rfl 1 rfl ?_
      refine r_iconst (pc' := 50) C dX9_evens_49 rfl kc_2 ?_
      refine r_aload_n (pc' := 51) C dX9_evens_50 rfl 0 rfl ?_
      refine r_aload_n (pc' := 52) C dX9_evens_51 rfl 0 rfl ?_
      refine r_getR (pc' := 55) C flX9_34 sh_149 rfl dX9_evens_52 rfl ?_
      refine r_iconst (pc' := 56) C dX9_evens_55 rfl kc_0 ?_
      refine r_iload_n (pc' := 57) C dX9_evens_56 rfl 2 rfl ?_
      obtain ⟨r14, e15, h⟩ := bd h
      refine r_cV1 (pc' := 60) C (X9_sumOf_ok mac_153 e15) mlX9_274 ceX9_sumOf cvX9_sumOf sh_149 rfl rfl rfl (Nat.le_of_ble_eq_true rfl) rfl (Nat.le_of_ble_eq_true rfl) dX9_evens_57 rfl (kk := ?_)
      refine r_imul (pc' := 61) C dX9_evens_60 rfl ?_
      refine r_isub (pc' := 62) C dX9_evens_61 rfl ?_
      obtain ⟨r16, e17, h⟩ := bd h
      refine r_cS1 (pc' := 65) C (J9_abs_0f7a4_ok  e17) mlX9_398 ceJ9_abs_0f7a4 csJ9_abs_0f7a4 rfl (Nat.le_of_ble_eq_true rfl) rfl (Nat.le_of_ble_eq_true rfl) dX9_evens_62 rfl (kk := ?_)
      refine r_icmp_ge (tgt := 72) (pc' := 68) C dX9_evens_65 rfl rfl (fun c18 => ?_) (fun c18 => ?_)
      · rw [if_pos c18] at h
        refine r_iload_n (pc' := 73) C dX9_evens_72 rfl 2 rfl ?_
        refine r_istore_n (pc' := 74) (lv2 := [(2, .int v2), (0, .ref 149), (1, .int v1), (3, .int v3)]) C dX9_evens_73 rfl rfl (Nat.le_of_ble_eq_true rfl) rfl ?_
        refine r_iinc (pc' := 77) (v := v3 + 1) (lv2 := [(3, .int (v3 + 1)), (2, .int v2), (0, .ref 149), (1, .int v1)]) C dX9_evens_74 rfl 3 rfl rfl (Nat.le_of_ble_eq_true rfl) rfl ?_
        refine r_goto (tgt := 23) C dX9_evens_77 rfl ?_
        refine r_sub [2, 3, 1, 0] rfl ?_
        exact ih _ _ _ _ _ h Z C hE
      · rw [if_neg c18] at h
        refine r_iload_n (pc' := 69) C dX9_evens_68 rfl 3 rfl ?_
        refine r_goto (tgt := 73) C dX9_evens_69 rfl ?_
        refine r_istore_n (pc' := 74) (lv2 := [(2, .int v3), (0, .ref 149), (1, .int v1), (3, .int v3)]) C dX9_evens_73 rfl rfl (Nat.le_of_ble_eq_true rfl) rfl ?_
        refine r_iinc (pc' := 77) (v := v3 + 1) (lv2 := [(3, .int (v3 + 1)), (2, .int v3), (0, .ref 149), (1, .int v1)]) C dX9_evens_74 rfl 3 rfl rfl (Nat.le_of_ble_eq_true rfl) rfl ?_
        refine r_goto (tgt := 23) C dX9_evens_77 rfl ?_
        refine r_sub [2, 3, 1, 0] rfl ?_
        exact ih _ _ _ _ _ h Z C hE
def X9_evens_j80 (N : Nat)   (v1 : Int32) (v2 : Int32) (σ : Sg) : Option (Int32 × Sg) :=
  bnS (wi σ 149 1 0) fun σ19 => (X9_enters N v2.toInt64 σ19).bind fun r21 => ((X9_sumOf N 153 0 v2 r21).bind fun r23 => ((X9_enters N r23.toInt64 r21).bind fun r25 => ((X9_sumOf N 153 0 v2 r25).bind fun r27 => ((J9_abs_0f7a4 N (v1 - (2 * r27)) r25).bind fun r29 => (some (r29, r25))))))
set_option maxRecDepth 100000 in
set_option maxHeartbeats 4000000 in
theorem X9_evens_j80_ok {E : Ev}  {N : Nat}    {v1 : Int32} {v2 : Int32} {σ : Sg} {r : Int32 × Sg} (h : X9_evens_j80 N   v1 v2 σ = some r) : Gp E RX9 cX9_evens (some .int) 4 (2) SH0 r.2 (some (.int r.1)) σ 80 [(0, .ref 149), (1, .int v1), (2, .int v2)] [] := by
  intro Z C hE
  unfold X9_evens_j80 at h
  refine r_aload_n (pc' := 81) C dX9_evens_80 rfl 0 rfl ?_
  refine r_iconst (pc' := 82) C dX9_evens_81 rfl kc_0 ?_
  obtain ⟨σ19, e20, h⟩ := bs h
  refine r_putI (pc' := 85) (σ1 := σ19) C fpX9_15 sh_149 rfl rfl rfl dX9_evens_82 rfl e20 ?_
  refine r_aload_n (pc' := 86) C dX9_evens_85 rfl 0 rfl ?_
  refine r_iload_n (pc' := 87) C dX9_evens_86 rfl 2 rfl ?_
  refine r_i2l (pc' := 88) C dX9_evens_87 rfl rfl ?_
  obtain ⟨r21, e22, h⟩ := bd h
  refine r_cV0 (pc' := 91) C (X9_enters_ok  e22) mlX9_327 ceX9_enters cvX9_enters sh_149 rfl rfl rfl (Nat.le_of_ble_eq_true rfl) rfl (Nat.le_of_ble_eq_true rfl) dX9_evens_88 rfl (kk := ?_)
  refine r_aload_n (pc' := 92) C dX9_evens_91 rfl 0 rfl ?_
  refine r_aload_n (pc' := 93) C dX9_evens_92 rfl 0 rfl ?_
  refine r_aload_n (pc' := 94) C dX9_evens_93 rfl 0 rfl ?_
  refine r_getR (pc' := 97) C flX9_34 sh_149 rfl dX9_evens_94 rfl ?_
  refine r_iconst (pc' := 98) C dX9_evens_97 rfl kc_0 ?_
  refine r_iload_n (pc' := 99) C dX9_evens_98 rfl 2 rfl ?_
  obtain ⟨r23, e24, h⟩ := bd h
  refine r_cV1 (pc' := 102) C (X9_sumOf_ok mac_153 e24) mlX9_274 ceX9_sumOf cvX9_sumOf sh_149 rfl rfl rfl (Nat.le_of_ble_eq_true rfl) rfl (Nat.le_of_ble_eq_true rfl) dX9_evens_99 rfl (kk := ?_)
  refine r_i2l (pc' := 103) C dX9_evens_102 rfl rfl ?_
  obtain ⟨r25, e26, h⟩ := bd h
  refine r_cV0 (pc' := 106) C (X9_enters_ok  e26) mlX9_327 ceX9_enters cvX9_enters sh_149 rfl rfl rfl (Nat.le_of_ble_eq_true rfl) rfl (Nat.le_of_ble_eq_true rfl) dX9_evens_103 rfl (kk := ?_)
  refine r_iload_n (pc' := 107) C dX9_evens_106 rfl 1 rfl ?_
  refine r_iconst (pc' := 108) C dX9_evens_107 rfl kc_2 ?_
  refine r_aload_n (pc' := 109) C dX9_evens_108 rfl 0 rfl ?_
  refine r_aload_n (pc' := 110) C dX9_evens_109 rfl 0 rfl ?_
  refine r_getR (pc' := 113) C flX9_34 sh_149 rfl dX9_evens_110 rfl ?_
  refine r_iconst (pc' := 114) C dX9_evens_113 rfl kc_0 ?_
  refine r_iload_n (pc' := 115) C dX9_evens_114 rfl 2 rfl ?_
  obtain ⟨r27, e28, h⟩ := bd h
  refine r_cV1 (pc' := 118) C (X9_sumOf_ok mac_153 e28) mlX9_274 ceX9_sumOf cvX9_sumOf sh_149 rfl rfl rfl (Nat.le_of_ble_eq_true rfl) rfl (Nat.le_of_ble_eq_true rfl) dX9_evens_115 rfl (kk := ?_)
  refine r_imul (pc' := 119) C dX9_evens_118 rfl ?_
  refine r_isub (pc' := 120) C dX9_evens_119 rfl ?_
  obtain ⟨r29, e30, h⟩ := bd h
  refine r_cS1 (pc' := 123) C (J9_abs_0f7a4_ok  e30) mlX9_398 ceJ9_abs_0f7a4 csJ9_abs_0f7a4 rfl (Nat.le_of_ble_eq_true rfl) rfl (Nat.le_of_ble_eq_true rfl) dX9_evens_120 rfl (kk := ?_)
  have h := Option.some.inj h
  subst h
  exact r_ret C rfl dX9_evens_123 hE
def X9_evens (N : Nat)   (σ : Sg) : Option (Int32 × Sg) :=
  bnS (wi σ 149 0 0) fun σ1 => (X9_all N σ1).bind fun r3 => ((X9_sumOf N 153 0 r3 σ1).bind fun r5 => (X9_evens_l23 N (fun v1 v2 σ => X9_evens_j80 N v1 v2 σ) N r5 0 1 σ1))
set_option maxRecDepth 100000 in
set_option maxHeartbeats 4000000 in
theorem X9_evens_ok {E : Ev}  {N : Nat}  {σ : Sg} {r : Int32 × Sg} (h : X9_evens N   σ = some r) : Cm E (2) yX9_evens cX9_evens 4 (some .int) [.ref 149] SH0 SH0 σ r.2 (some (.int r.1)) 0 0 := by
  refine Cm.intro (by decide +kernel) (Nat.le_of_ble_eq_true rfl) (fun _ h => by obtain ⟨_, _, _, _, _, _, h⟩ := h; exact h) (fun Z C hE => ?_)
  show Wm E Z 0 0 SH0 σ 0 [(0, .ref 149)] []
  unfold X9_evens at h
  refine r_aload_n (pc' := 1) C dX9_evens_0 rfl 0 rfl ?_
  refine r_iconst (pc' := 2) C dX9_evens_1 rfl kc_0 ?_
  obtain ⟨σ1, e2, h⟩ := bs h
  refine r_putI (pc' := 5) (σ1 := σ1) C fpX9_3 sh_149 rfl rfl rfl dX9_evens_2 rfl e2 ?_
  refine r_aload_n (pc' := 6) C dX9_evens_5 rfl 0 rfl ?_
  refine r_aload_n (pc' := 7) C dX9_evens_6 rfl 0 rfl ?_
  refine r_getR (pc' := 10) C flX9_34 sh_149 rfl dX9_evens_7 rfl ?_
  refine r_iconst (pc' := 11) C dX9_evens_10 rfl kc_0 ?_
  refine r_aload_n (pc' := 12) C dX9_evens_11 rfl 0 rfl ?_
  obtain ⟨r3, e4, h⟩ := bd h
  refine r_cV1 (pc' := 15) C (X9_all_ok  e4) mlX9_131 ceX9_all cvX9_all sh_149 rfl rfl rfl (Nat.le_of_ble_eq_true rfl) rfl (Nat.le_of_ble_eq_true rfl) dX9_evens_12 rfl (kk := ?_)
  obtain ⟨r5, e6, h⟩ := bd h
  refine r_cV1 (pc' := 18) C (X9_sumOf_ok mac_153 e6) mlX9_274 ceX9_sumOf cvX9_sumOf sh_149 rfl rfl rfl (Nat.le_of_ble_eq_true rfl) rfl (Nat.le_of_ble_eq_true rfl) dX9_evens_15 rfl (kk := ?_)
  refine r_istore_n (pc' := 19) (lv2 := [(1, .int r5), (0, .ref 149)]) C dX9_evens_18 rfl rfl (Nat.le_of_ble_eq_true rfl) rfl ?_
  refine r_iconst (pc' := 20) C dX9_evens_19 rfl kc_0 ?_
  refine r_istore_n (pc' := 21) (lv2 := [(2, .int 0), (1, .int r5), (0, .ref 149)]) C dX9_evens_20 rfl rfl (Nat.le_of_ble_eq_true rfl) rfl ?_
  refine r_iconst (pc' := 22) C dX9_evens_21 rfl kc_1 ?_
  refine r_istore_n (pc' := 23) (lv2 := [(3, .int 1), (2, .int 0), (1, .int r5), (0, .ref 149)]) C dX9_evens_22 rfl rfl (Nat.le_of_ble_eq_true rfl) rfl ?_
  refine r_sub [3, 2, 1, 0] rfl ?_
  exact X9_evens_l23_ok  (fun _ _ _ _ h Z C hE => by exact X9_evens_j80_ok  h Z C hE) N _ _ _ _ _ h Z C hE

/-! BorrowedWeightModel.order()I -/
def X9_order_l27 (N : Nat)  (k84 : Int32 → Int32 → Sg → Option (Int32 × Sg))  : Nat → Int32 → Int32 → Int32 → Sg → Option (Int32 × Sg)
  | 0, _, _, _, _ => none
  | n + 1, v1, v2, v3, σ =>
    if (gi σ 149 3) ≤ v3 then (k84 v1 v2 σ) else ((X9_has N v1 v3 σ).bind fun r9 => (if r9 = 0 then (X9_order_l27 N k84 n v1 v2 (v3 + 1) σ) else (if v2 < 0 then (X9_order_l27 N k84 n v1 v3 (v3 + 1) σ) else ((X9_above N 153 (1 <<< (v3 &&& 31)) σ).bind fun r13 => ((X9_above N 153 (1 <<< (v2 &&& 31)) r13.2).bind fun r15 => (if r13.1 ≤ r15.1 then (X9_order_l27 N k84 n v1 v2 (v3 + 1) r15.2) else (X9_order_l27 N k84 n v1 v3 (v3 + 1) r15.2)))))))
set_option maxRecDepth 100000 in
set_option maxHeartbeats 4000000 in
theorem X9_order_l27_ok {E : Ev}  {N : Nat} {k84 : Int32 → Int32 → Sg → Option (Int32 × Sg)}  (hk84 : ∀ (v1 : Int32) (v2 : Int32) (σ : Sg) (r : Int32 × Sg), k84 v1 v2 σ = some r → Gp E RX9 cX9_order (some .int) 4 (6) SH0 r.2 (some (.int r.1)) σ 84 [(0, .ref 149), (1, .int v1), (2, .int v2)] []) : ∀ (n : Nat) (v1 : Int32) (v2 : Int32) (v3 : Int32) (σ : Sg) (r : Int32 × Sg), X9_order_l27 N k84 n v1 v2 v3 σ = some r → Gp E RX9 cX9_order (some .int) 4 (6) SH0 r.2 (some (.int r.1)) σ 27 [(0, .ref 149), (1, .int v1), (2, .int v2), (3, .int v3)] [] := by
  intro n
  induction n with
  | zero => intro v1 v2 v3 σ r h; cases h
  | succ n ih =>
    intro v1 v2 v3 σ r h Z C hE
    unfold X9_order_l27 at h
    refine r_iload_n (pc' := 28) C dX9_order_27 rfl 3 rfl ?_
    refine r_aload_n (pc' := 29) C dX9_order_28 rfl 0 rfl ?_
    refine r_getI (pc' := 32) C flX9_116 sh_149 rfl dX9_order_29 rfl ?_
    refine r_icmp_ge (tgt := 84) (pc' := 35) C dX9_order_32 rfl rfl (fun c8 => ?_) (fun c8 => ?_)
    · rw [if_pos c8] at h
      refine r_sub [0, 1, 2] rfl ?_
      exact hk84 _ _ _ _ h Z C hE
    · rw [if_neg c8] at h
      refine r_iload_n (pc' := 36) C dX9_order_35 rfl 1 rfl ?_
      refine r_iload_n (pc' := 37) C dX9_order_36 rfl 3 rfl ?_
      obtain ⟨r9, e10, h⟩ := bd h
      refine r_cS1 (pc' := 40) C (X9_has_ok  e10) mlX9_127 ceX9_has csX9_has rfl (Nat.le_of_ble_eq_true rfl) rfl (Nat.le_of_ble_eq_true rfl) dX9_order_37 rfl (kk := ?_)
      refine r_if_eq (tgt := 76) (pc' := 43) C dX9_order_40 rfl rfl (fun c11 => ?_) (fun c11 => ?_)
      · rw [if_pos c11] at h
        refine r_iload_n (pc' := 77) C dX9_order_76 rfl 2 rfl ?_
        refine r_istore_n (pc' := 78) (lv2 := [(2, .int v2), (0, .ref 149), (1, .int v1), (3, .int v3)]) C dX9_order_77 rfl rfl (Nat.le_of_ble_eq_true rfl) rfl ?_
        refine r_iinc (pc' := 81) (v := v3 + 1) (lv2 := [(3, .int (v3 + 1)), (2, .int v2), (0, .ref 149), (1, .int v1)]) C dX9_order_78 rfl 3 rfl rfl (Nat.le_of_ble_eq_true rfl) rfl ?_
        refine r_goto (tgt := 27) C dX9_order_81 rfl ?_
        refine r_sub [2, 3, 1, 0] rfl ?_
        exact ih _ _ _ _ _ h Z C hE
      · rw [if_neg c11] at h
        refine r_iload_n (pc' := 44) C dX9_order_43 rfl 2 rfl ?_
        refine r_if_lt (tgt := 72) (pc' := 47) C dX9_order_44 rfl rfl (fun c12 => ?_) (fun c12 => ?_)
        · rw [if_pos c12] at h
          refine r_iload_n (pc' := 73) C dX9_order_72 rfl 3 rfl ?_
          refine r_goto (tgt := 77) C dX9_order_73 rfl ?_
          refine r_istore_n (pc' := 78) (lv2 := [(2, .int v3), (0, .ref 149), (1, .int v1), (3, .int v3)]) C dX9_order_77 rfl rfl (Nat.le_of_ble_eq_true rfl) rfl ?_
          refine r_iinc (pc' := 81) (v := v3 + 1) (lv2 := [(3, .int (v3 + 1)), (2, .int v3), (0, .ref 149), (1, .int v1)]) C dX9_order_78 rfl 3 rfl rfl (Nat.le_of_ble_eq_true rfl) rfl ?_
          refine r_goto (tgt := 27) C dX9_order_81 rfl ?_
          refine r_sub [2, 3, 1, 0] rfl ?_
          exact ih _ _ _ _ _ h Z C hE
        · rw [if_neg c12] at h
          refine r_aload_n (pc' := 48) C dX9_order_47 rfl 0 rfl ?_
          refine r_aload_n (pc' := 49) C dX9_order_48 rfl 0 rfl ?_
          refine r_getR (pc' := 52) C flX9_34 sh_149 rfl dX9_order_49 rfl ?_
          refine r_iconst (pc' := 53) C dX9_order_52 rfl kc_1 ?_
          refine r_iload_n (pc' := 54) C dX9_order_53 rfl 3 rfl ?_
          refine r_ishl (pc' := 55) C dX9_order_54 rfl ?_
          obtain ⟨r13, e14, h⟩ := bd h
          refine r_cV1 (pc' := 58) C (X9_above_ok mac_153 e14) mlX9_287 ceX9_above cvX9_above sh_149 rfl rfl rfl (Nat.le_of_ble_eq_true rfl) rfl (Nat.le_of_ble_eq_true rfl) dX9_order_55 rfl (kk := ?_)
          refine r_aload_n (pc' := 59) C dX9_order_58 rfl 0 rfl ?_
          refine r_aload_n (pc' := 60) C dX9_order_59 rfl 0 rfl ?_
          refine r_getR (pc' := 63) C flX9_34 sh_149 rfl dX9_order_60 rfl ?_
          refine r_iconst (pc' := 64) C dX9_order_63 rfl kc_1 ?_
          refine r_iload_n (pc' := 65) C dX9_order_64 rfl 2 rfl ?_
          refine r_ishl (pc' := 66) C dX9_order_65 rfl ?_
          obtain ⟨r15, e16, h⟩ := bd h
          refine r_cV1 (pc' := 69) C (X9_above_ok mac_153 e16) mlX9_287 ceX9_above cvX9_above sh_149 rfl rfl rfl (Nat.le_of_ble_eq_true rfl) rfl (Nat.le_of_ble_eq_true rfl) dX9_order_66 rfl (kk := ?_)
          refine r_icmp_le (tgt := 76) (pc' := 72) C dX9_order_69 rfl rfl (fun c17 => ?_) (fun c17 => ?_)
          · rw [if_pos c17] at h
            refine r_iload_n (pc' := 77) C dX9_order_76 rfl 2 rfl ?_
            refine r_istore_n (pc' := 78) (lv2 := [(2, .int v2), (0, .ref 149), (1, .int v1), (3, .int v3)]) C dX9_order_77 rfl rfl (Nat.le_of_ble_eq_true rfl) rfl ?_
            refine r_iinc (pc' := 81) (v := v3 + 1) (lv2 := [(3, .int (v3 + 1)), (2, .int v2), (0, .ref 149), (1, .int v1)]) C dX9_order_78 rfl 3 rfl rfl (Nat.le_of_ble_eq_true rfl) rfl ?_
            refine r_goto (tgt := 27) C dX9_order_81 rfl ?_
            refine r_sub [2, 3, 1, 0] rfl ?_
            exact ih _ _ _ _ _ h Z C hE
          · rw [if_neg c17] at h
            refine r_iload_n (pc' := 73) C dX9_order_72 rfl 3 rfl ?_
            refine r_goto (tgt := 77) C dX9_order_73 rfl ?_
            refine r_istore_n (pc' := 78) (lv2 := [(2, .int v3), (0, .ref 149), (1, .int v1), (3, .int v3)]) C dX9_order_77 rfl rfl (Nat.le_of_ble_eq_true rfl) rfl ?_
            refine r_iinc (pc' := 81) (v := v3 + 1) (lv2 := [(3, .int (v3 + 1)), (2, .int v3), (0, .ref 149), (1, .int v1)]) C dX9_order_78 rfl 3 rfl rfl (Nat.le_of_ble_eq_true rfl) rfl ?_
            refine r_goto (tgt := 27) C dX9_order_81 rfl ?_
            refine r_sub [2, 3, 1, 0] rfl ?_
            exact ih _ _ _ _ _ h Z C hE
def X9_order_j84 (N : Nat)  (kr : Int32 → Sg → Option (Int32 × Sg)) (v1 : Int32) (v2 : Int32) (σ : Sg) : Option (Int32 × Sg) :=
  (X9_enters N v2.toInt64 σ).bind fun r18 => (kr (v1 &&& ((1 <<< (v2 &&& 31)) ^^^ (-1))) r18)
set_option maxRecDepth 100000 in
set_option maxHeartbeats 4000000 in
theorem X9_order_j84_ok {E : Ev}  {N : Nat} {kr : Int32 → Sg → Option (Int32 × Sg)}  (hkr : ∀ (v1 : Int32) (σ : Sg) (r : Int32 × Sg), kr v1 σ = some r → Gp E RX9 cX9_order (some .int) 4 (6) SH0 r.2 (some (.int r.1)) σ 19 [(0, .ref 149), (1, .int v1)] []) {v1 : Int32} {v2 : Int32} {σ : Sg} {r : Int32 × Sg} (h : X9_order_j84 N  kr v1 v2 σ = some r) : Gp E RX9 cX9_order (some .int) 4 (6) SH0 r.2 (some (.int r.1)) σ 84 [(0, .ref 149), (1, .int v1), (2, .int v2)] [] := by
  intro Z C hE
  unfold X9_order_j84 at h
  refine r_iload_n (pc' := 85) C dX9_order_84 rfl 1 rfl ?_
  refine r_iconst (pc' := 86) C dX9_order_85 rfl kc_1 ?_
  refine r_iload_n (pc' := 87) C dX9_order_86 rfl 2 rfl ?_
  refine r_ishl (pc' := 88) C dX9_order_87 rfl ?_
  refine r_iconst (pc' := 89) C dX9_order_88 rfl kc_m1 ?_
  refine r_ixor (pc' := 90) C dX9_order_89 rfl ?_
  refine r_iand (pc' := 91) C dX9_order_90 rfl ?_
  refine r_istore_n (pc' := 92) (lv2 := [(1, .int (v1 &&& ((1 <<< (v2 &&& 31)) ^^^ (-1)))), (0, .ref 149), (2, .int v2)]) C dX9_order_91 rfl rfl (Nat.le_of_ble_eq_true rfl) rfl ?_
  refine r_aload_n (pc' := 93) C dX9_order_92 rfl 1 rfl ?_
  refine r_iload_n (pc' := 94) C dX9_order_93 rfl 2 rfl ?_
  refine r_i2l (pc' := 95) C dX9_order_94 rfl rfl ?_
  obtain ⟨r18, e19, h⟩ := bd h
  refine r_cV0 (pc' := 98) C (X9_enters_ok  e19) mlX9_327 ceX9_enters cvX9_enters sh_149 rfl rfl rfl (Nat.le_of_ble_eq_true rfl) rfl (Nat.le_of_ble_eq_true rfl) dX9_order_95 rfl (kk := ?_)
  refine r_goto (tgt := 19) C dX9_order_98 rfl ?_
  refine r_sub [1, 0] rfl ?_
  exact hkr _ _ _ h Z C hE
def X9_order_l19 (N : Nat)    : Nat → Int32 → Sg → Option (Int32 × Sg)
  | 0, _, _ => none
  | n + 1, v1, σ =>
    if v1 = 0 then (some (gi σ 149 1, σ)) else (X9_order_l27 N (fun v1 v2 σ => X9_order_j84 N (fun v1 σ => X9_order_l19 N n v1 σ) v1 v2 σ) N v1 (-1) 0 σ)
set_option maxRecDepth 100000 in
set_option maxHeartbeats 4000000 in
theorem X9_order_l19_ok {E : Ev}  {N : Nat}    : ∀ (n : Nat) (v1 : Int32) (σ : Sg) (r : Int32 × Sg), X9_order_l19 N n v1 σ = some r → Gp E RX9 cX9_order (some .int) 4 (6) SH0 r.2 (some (.int r.1)) σ 19 [(0, .ref 149), (1, .int v1)] [] := by
  intro n
  induction n with
  | zero => intro v1 σ r h; cases h
  | succ n ih =>
    intro v1 σ r h Z C hE
    unfold X9_order_l19 at h
    refine r_iload_n (pc' := 20) C dX9_order_19 rfl 1 rfl ?_
    refine r_if_eq (tgt := 101) (pc' := 23) C dX9_order_20 rfl rfl (fun c7 => ?_) (fun c7 => ?_)
    · rw [if_pos c7] at h
      refine r_aload_n (pc' := 102) C dX9_order_101 rfl 0 rfl ?_
      refine r_getI (pc' := 105) C flX9_15 sh_149 rfl dX9_order_102 rfl ?_
      have h := Option.some.inj h
      subst h
      exact r_ret C rfl dX9_order_105 hE
    · rw [if_neg c7] at h
      refine r_iconst (pc' := 24) C dX9_order_23 rfl kc_m1 ?_
      refine r_istore_n (pc' := 25) (lv2 := [(2, .int (-1)), (0, .ref 149), (1, .int v1)]) C dX9_order_24 rfl rfl (Nat.le_of_ble_eq_true rfl) rfl ?_
      refine r_iconst (pc' := 26) C dX9_order_25 rfl kc_0 ?_
      refine r_istore_n (pc' := 27) (lv2 := [(3, .int 0), (2, .int (-1)), (0, .ref 149), (1, .int v1)]) C dX9_order_26 rfl rfl (Nat.le_of_ble_eq_true rfl) rfl ?_
      refine r_sub [2, 3, 1, 0] rfl ?_
      exact X9_order_l27_ok  (fun _ _ _ _ h Z C hE => by exact X9_order_j84_ok  ih h Z C hE) N _ _ _ _ _ h Z C hE
def X9_order (N : Nat)   (σ : Sg) : Option (Int32 × Sg) :=
  bnS (wi σ 149 0 0) fun σ1 => (X9_here N 153 σ1).bind fun r3 => (bnS (wi σ1 149 1 0) fun σ5 => X9_order_l19 N N r3 σ5)
set_option maxRecDepth 100000 in
set_option maxHeartbeats 4000000 in
theorem X9_order_ok {E : Ev}  {N : Nat}  {σ : Sg} {r : Int32 × Sg} (h : X9_order N   σ = some r) : Cm E (6) yX9_order cX9_order 4 (some .int) [.ref 149] SH0 SH0 σ r.2 (some (.int r.1)) 0 0 := by
  refine Cm.intro (by decide +kernel) (Nat.le_of_ble_eq_true rfl) (fun _ h => by obtain ⟨_, _, _, _, _, _, h⟩ := h; exact h) (fun Z C hE => ?_)
  show Wm E Z 0 0 SH0 σ 0 [(0, .ref 149)] []
  unfold X9_order at h
  refine r_aload_n (pc' := 1) C dX9_order_0 rfl 0 rfl ?_
  refine r_iconst (pc' := 2) C dX9_order_1 rfl kc_0 ?_
  obtain ⟨σ1, e2, h⟩ := bs h
  refine r_putI (pc' := 5) (σ1 := σ1) C fpX9_3 sh_149 rfl rfl rfl dX9_order_2 rfl e2 ?_
  refine r_aload_n (pc' := 6) C dX9_order_5 rfl 0 rfl ?_
  refine r_aload_n (pc' := 7) C dX9_order_6 rfl 0 rfl ?_
  refine r_getR (pc' := 10) C flX9_34 sh_149 rfl dX9_order_7 rfl ?_
  obtain ⟨r3, e4, h⟩ := bd h
  refine r_cV1 (pc' := 13) C (X9_here_ok mac_153 e4) mlX9_307 ceX9_here cvX9_here sh_149 rfl rfl rfl (Nat.le_of_ble_eq_true rfl) rfl (Nat.le_of_ble_eq_true rfl) dX9_order_10 rfl (kk := ?_)
  refine r_istore_n (pc' := 14) (lv2 := [(1, .int r3), (0, .ref 149)]) C dX9_order_13 rfl rfl (Nat.le_of_ble_eq_true rfl) rfl ?_
  refine r_aload_n (pc' := 15) C dX9_order_14 rfl 1 rfl ?_
  refine r_iconst (pc' := 16) C dX9_order_15 rfl kc_0 ?_
  obtain ⟨σ5, e6, h⟩ := bs h
  refine r_putI (pc' := 19) (σ1 := σ5) C fpX9_15 sh_149 rfl rfl rfl dX9_order_16 rfl e6 ?_
  refine r_sub [1, 0] rfl ?_
  exact X9_order_l19_ok  N _ _ _ h Z C hE

/-! BorrowedWeightModel.common(JJ)J -/
def X9_common_b (N : Nat) (fC : Int64 → Int64 → Sg → Option (Int64)) (v0 : Int64) (v2 : Int64) (σ : Sg) : Option (Int64) :=
  if (lg_cmp v2 0) = 0 then (some v0) else (if v2 = 0 then none else (fC v2 (v0 - v0 / v2 * v2) σ).bind fun r3 => (some r3))
set_option maxRecDepth 100000 in
set_option maxHeartbeats 4000000 in
theorem X9_common_b_ok {E : Ev}  {d : Nat} {fC : Int64 → Int64 → Sg → Option (Int64)} (hfC : ∀ (a0 : Int64) (a1 : Int64) (σ : Sg) (r : Int64), fC a0 a1 σ = some r → Cm E (d) yX9_common cX9_common 4 (some .long) [.long a0, .long a1] SH0 SH0 σ σ (some (.long r)) 0 0) {N : Nat} {v0 : Int64} {v2 : Int64} {σ : Sg} {r : Int64} (h : X9_common_b N fC v0 v2 σ = some r) : Cm E (d + 1) yX9_common cX9_common 4 (some .long) [.long v0, .long v2] SH0 SH0 σ σ (some (.long r)) 0 0 := by
  refine Cm.intro (by decide +kernel) (Nat.le_of_ble_eq_true rfl) (fun _ h => by obtain ⟨_, _, _, _, _, _, h⟩ := h; exact h) (fun Z C hE => ?_)
  show Wm E Z 0 0 SH0 σ 0 [(0, .long v0), (2, .long v2)] []
  unfold X9_common_b at h
  refine r_lload_n (pc' := 1) C dX9_common_0 rfl 1 rfl ?_
  refine r_lconst (pc' := 2) C dX9_common_1 rfl kl_0 ?_
  refine r_lcmp (pc' := 3) C dX9_common_2 rfl ?_
  refine r_if_ne (tgt := 10) (pc' := 6) C dX9_common_3 rfl rfl (fun c1 => ?_) (fun c1 => ?_)
  · rw [if_neg c1] at h
    refine r_lload_n (pc' := 11) C dX9_common_10 rfl 1 rfl ?_
    refine r_lload_n (pc' := 12) C dX9_common_11 rfl 0 rfl ?_
    refine r_lload_n (pc' := 13) C dX9_common_12 rfl 1 rfl ?_
    obtain ⟨q2, h⟩ := ckl h
    refine r_lrem (pc' := 14) C dX9_common_13 rfl q2 ?_
    obtain ⟨r3, e4, h⟩ := bd h
    refine r_cS1 (pc' := 17) C (hfC _ _ _ _ e4) mlX9_7 ceX9_common csX9_common rfl (by omega) rfl (Nat.le_of_ble_eq_true rfl) dX9_common_14 rfl (kk := ?_)
    have h := Option.some.inj h
    subst h
    exact r_lret C dX9_common_17 hE
  · rw [if_pos c1] at h
    refine r_lload_n (pc' := 7) C dX9_common_6 rfl 0 rfl ?_
    refine r_goto (tgt := 17) C dX9_common_7 rfl ?_
    have h := Option.some.inj h
    subst h
    exact r_lret C dX9_common_17 hE
def X9_commonF (N : Nat) : Nat → Int64 → Int64 → Sg → Option Int64
  | 0, _, _, _ => none
  | n + 1, a, b, σ => X9_common_b N (fun a b σ => X9_commonF N n a b σ) a b σ
theorem X9_commonF_ok {E : Ev} {N : Nat} : ∀ (n : Nat) (a b : Int64) (σ : Sg) (r : Int64), X9_commonF N n a b σ = some r → Cm E n yX9_common cX9_common 4 (some .long) [.long a, .long b] SH0 SH0 σ σ (some (.long r)) 0 0
  | 0, _, _, _, _, h => by cases h
  | n + 1, a, b, σ, r, h => X9_common_b_ok (d := n) (fC := fun a b σ => X9_commonF N n a b σ) (fun a b σ r h => X9_commonF_ok n a b σ r h) h
def X9_common (N : Nat) (v0 v2 : Int64) (σ : Sg) : Option Int64 := X9_commonF N 100 v0 v2 σ
theorem X9_common_ok {E : Ev} {N : Nat} {v0 v2 : Int64} {σ : Sg} {r : Int64} (h : X9_common N v0 v2 σ = some r) : Cm E 100 yX9_common cX9_common 4 (some .long) [.long v0, .long v2] SH0 SH0 σ σ (some (.long r)) 0 0 := X9_commonF_ok 100 v0 v2 σ r h

/-! BorrowedWeightModel.storm(II)I -/
def X9_storm_l78 (N : Nat)  (k132 : Int32 → Int32 → Int32 → Int32 → Int32 → Sg → Option (Int32 × Sg))  : Nat → Int32 → Int32 → Int32 → Int32 → Int32 → Int32 → Sg → Option (Int32 × Sg)
  | 0, _, _, _, _, _, _, _ => none
  | n + 1, v1, v2, v3, v4, v5, v6, σ =>
    if (gi σ 149 3) ≤ v6 then (k132 v1 v2 v3 v4 v5 σ) else (if inb (24 + v5) 37 = true then (X9_has N (gi σ 153 (24 + v5).toNatClampNeg) v6 σ).bind fun r18 => (if r18 = 0 then (X9_storm_l78 N k132 n v1 v2 v3 v4 v5 (v6 + 1) σ) else (if inb v4 12 = true then bnS (wi σ 173 v4.toNatClampNeg v5) fun σ22 => if inb v4 12 = true then bnS (wi σ22 174 v4.toNatClampNeg v6) fun σ25 => X9_storm_l78 N k132 n v1 v2 v3 (v4 + 1) v5 (v6 + 1) σ25 else none else none)) else none)
set_option maxRecDepth 100000 in
set_option maxHeartbeats 4000000 in
theorem X9_storm_l78_ok {E : Ev}  {N : Nat} {k132 : Int32 → Int32 → Int32 → Int32 → Int32 → Sg → Option (Int32 × Sg)}  (hk132 : ∀ (v1 : Int32) (v2 : Int32) (v3 : Int32) (v4 : Int32) (v5 : Int32) (σ : Sg) (r : Int32 × Sg), k132 v1 v2 v3 v4 v5 σ = some r → Gp E RX9 cX9_storm (some .int) 13 (101) SH0 r.2 (some (.int r.1)) σ 132 [(0, .ref 149), (1, .int v1), (2, .int v2), (3, .int v3), (4, .int v4), (5, .int v5)] []) : ∀ (n : Nat) (v1 : Int32) (v2 : Int32) (v3 : Int32) (v4 : Int32) (v5 : Int32) (v6 : Int32) (σ : Sg) (r : Int32 × Sg), X9_storm_l78 N k132 n v1 v2 v3 v4 v5 v6 σ = some r → Gp E RX9 cX9_storm (some .int) 13 (101) SH0 r.2 (some (.int r.1)) σ 78 [(0, .ref 149), (1, .int v1), (2, .int v2), (3, .int v3), (4, .int v4), (5, .int v5), (6, .int v6)] [] := by
  intro n
  induction n with
  | zero => intro v1 v2 v3 v4 v5 v6 σ r h; cases h
  | succ n ih =>
    intro v1 v2 v3 v4 v5 v6 σ r h Z C hE
    unfold X9_storm_l78 at h
    refine r_iload (pc' := 80) C dX9_storm_78 rfl 6 rfl ?_
    refine r_aload_n (pc' := 81) C dX9_storm_80 rfl 0 rfl ?_
    refine r_getI (pc' := 84) C flX9_116 sh_149 rfl dX9_storm_81 rfl ?_
    refine r_icmp_ge (tgt := 132) (pc' := 87) C dX9_storm_84 rfl rfl (fun c16 => ?_) (fun c16 => ?_)
    · rw [if_pos c16] at h
      refine r_sub [0, 1, 2, 3, 4, 5] rfl ?_
      exact hk132 _ _ _ _ _ _ _ h Z C hE
    · rw [if_neg c16] at h
      refine r_aload_n (pc' := 88) C dX9_storm_87 rfl 0 rfl ?_
      refine r_getR (pc' := 91) C flX9_34 sh_149 rfl dX9_storm_88 rfl ?_
      refine r_bipush (pc' := 93) C dX9_storm_91 rfl kb_24 ?_
      refine r_iload (pc' := 95) C dX9_storm_93 rfl 5 rfl ?_
      refine r_iadd (pc' := 96) C dX9_storm_95 rfl ?_
      obtain ⟨q17, h⟩ := ck h
      refine r_iald (pc' := 97) C sh_153 (vin q17) dX9_storm_96 rfl ?_
      refine r_iload (pc' := 99) C dX9_storm_97 rfl 6 rfl ?_
      obtain ⟨r18, e19, h⟩ := bd h
      refine r_cS1 (pc' := 102) C (X9_has_ok  e19) mlX9_127 ceX9_has csX9_has rfl (Nat.le_of_ble_eq_true rfl) rfl (Nat.le_of_ble_eq_true rfl) dX9_storm_99 rfl (kk := ?_)
      refine r_if_eq (tgt := 126) (pc' := 105) C dX9_storm_102 rfl rfl (fun c20 => ?_) (fun c20 => ?_)
      · rw [if_pos c20] at h
        refine r_iinc (pc' := 129) (v := v6 + 1) (lv2 := [(6, .int (v6 + 1)), (0, .ref 149), (1, .int v1), (2, .int v2), (3, .int v3), (4, .int v4), (5, .int v5)]) C dX9_storm_126 rfl 6 rfl rfl (Nat.le_of_ble_eq_true rfl) rfl ?_
        refine r_goto (tgt := 78) C dX9_storm_129 rfl ?_
        refine r_sub [1, 2, 3, 4, 5, 6, 0] rfl ?_
        exact ih _ _ _ _ _ _ _ _ h Z C hE
      · rw [if_neg c20] at h
        refine r_aload_n (pc' := 106) C dX9_storm_105 rfl 0 rfl ?_
        refine r_getR (pc' := 109) C flX9_94 sh_149 rfl dX9_storm_106 rfl ?_
        refine r_iload (pc' := 111) C dX9_storm_109 rfl 4 rfl ?_
        refine r_iload (pc' := 113) C dX9_storm_111 rfl 5 rfl ?_
        obtain ⟨q21, h⟩ := ck h
        obtain ⟨σ22, e23, h⟩ := bs h
        refine r_iast (pc' := 114) (σ1 := σ22) C sh_173 (vin q21) dX9_storm_113 rfl e23 ?_
        refine r_aload_n (pc' := 115) C dX9_storm_114 rfl 0 rfl ?_
        refine r_getR (pc' := 118) C flX9_97 sh_149 rfl dX9_storm_115 rfl ?_
        refine r_iload (pc' := 120) C dX9_storm_118 rfl 4 rfl ?_
        refine r_iload (pc' := 122) C dX9_storm_120 rfl 6 rfl ?_
        obtain ⟨q24, h⟩ := ck h
        obtain ⟨σ25, e26, h⟩ := bs h
        refine r_iast (pc' := 123) (σ1 := σ25) C sh_174 (vin q24) dX9_storm_122 rfl e26 ?_
        refine r_iinc (pc' := 126) (v := v4 + 1) (lv2 := [(4, .int (v4 + 1)), (0, .ref 149), (1, .int v1), (2, .int v2), (3, .int v3), (5, .int v5), (6, .int v6)]) C dX9_storm_123 rfl 4 rfl rfl (Nat.le_of_ble_eq_true rfl) rfl ?_
        refine r_iinc (pc' := 129) (v := v6 + 1) (lv2 := [(6, .int (v6 + 1)), (4, .int (v4 + 1)), (0, .ref 149), (1, .int v1), (2, .int v2), (3, .int v3), (5, .int v5)]) C dX9_storm_126 rfl 6 rfl rfl (Nat.le_of_ble_eq_true rfl) rfl ?_
        refine r_goto (tgt := 78) C dX9_storm_129 rfl ?_
        refine r_sub [2, 3, 4, 5, 1, 6, 0] rfl ?_
        exact ih _ _ _ _ _ _ _ _ h Z C hE
def X9_storm_j132 (N : Nat)  (kr : Int32 → Int32 → Int32 → Int32 → Int32 → Sg → Option (Int32 × Sg)) (v1 : Int32) (v2 : Int32) (v3 : Int32) (v4 : Int32) (v5 : Int32) (σ : Sg) : Option (Int32 × Sg) :=
  kr v1 v2 v3 v4 (v5 + 1) σ
set_option maxRecDepth 100000 in
set_option maxHeartbeats 4000000 in
theorem X9_storm_j132_ok {E : Ev}  {N : Nat} {kr : Int32 → Int32 → Int32 → Int32 → Int32 → Sg → Option (Int32 × Sg)}  (hkr : ∀ (v1 : Int32) (v2 : Int32) (v3 : Int32) (v4 : Int32) (v5 : Int32) (σ : Sg) (r : Int32 × Sg), kr v1 v2 v3 v4 v5 σ = some r → Gp E RX9 cX9_storm (some .int) 13 (101) SH0 r.2 (some (.int r.1)) σ 63 [(0, .ref 149), (1, .int v1), (2, .int v2), (3, .int v3), (4, .int v4), (5, .int v5)] []) {v1 : Int32} {v2 : Int32} {v3 : Int32} {v4 : Int32} {v5 : Int32} {σ : Sg} {r : Int32 × Sg} (h : X9_storm_j132 N  kr v1 v2 v3 v4 v5 σ = some r) : Gp E RX9 cX9_storm (some .int) 13 (101) SH0 r.2 (some (.int r.1)) σ 132 [(0, .ref 149), (1, .int v1), (2, .int v2), (3, .int v3), (4, .int v4), (5, .int v5)] [] := by
  intro Z C hE
  unfold X9_storm_j132 at h
  refine r_iinc (pc' := 135) (v := v5 + 1) (lv2 := [(5, .int (v5 + 1)), (0, .ref 149), (1, .int v1), (2, .int v2), (3, .int v3), (4, .int v4)]) C dX9_storm_132 rfl 5 rfl rfl (Nat.le_of_ble_eq_true rfl) rfl ?_
  refine r_goto (tgt := 63) C dX9_storm_135 rfl ?_
  refine r_sub [1, 2, 3, 4, 5, 0] rfl ?_
  exact hkr _ _ _ _ _ _ _ h Z C hE
def X9_storm_l63 (N : Nat)  (k138 : Int32 → Int32 → Int32 → Sg → Option (Int32 × Sg))  : Nat → Int32 → Int32 → Int32 → Int32 → Int32 → Sg → Option (Int32 × Sg)
  | 0, _, _, _, _, _, _ => none
  | n + 1, v1, v2, v3, v4, v5, σ =>
    if (gi σ 149 3) ≤ v5 then (k138 v1 v2 v3 σ) else (X9_storm_l78 N (fun v1 v2 v3 v4 v5 σ => X9_storm_j132 N (fun v1 v2 v3 v4 v5 σ => X9_storm_l63 N k138 n v1 v2 v3 v4 v5 σ) v1 v2 v3 v4 v5 σ) N v1 v2 v3 v4 v5 (v5 + 1) σ)
set_option maxRecDepth 100000 in
set_option maxHeartbeats 4000000 in
theorem X9_storm_l63_ok {E : Ev}  {N : Nat} {k138 : Int32 → Int32 → Int32 → Sg → Option (Int32 × Sg)}  (hk138 : ∀ (v1 : Int32) (v2 : Int32) (v3 : Int32) (σ : Sg) (r : Int32 × Sg), k138 v1 v2 v3 σ = some r → Gp E RX9 cX9_storm (some .int) 13 (101) SH0 r.2 (some (.int r.1)) σ 138 [(0, .ref 149), (1, .int v1), (2, .int v2), (3, .int v3)] []) : ∀ (n : Nat) (v1 : Int32) (v2 : Int32) (v3 : Int32) (v4 : Int32) (v5 : Int32) (σ : Sg) (r : Int32 × Sg), X9_storm_l63 N k138 n v1 v2 v3 v4 v5 σ = some r → Gp E RX9 cX9_storm (some .int) 13 (101) SH0 r.2 (some (.int r.1)) σ 63 [(0, .ref 149), (1, .int v1), (2, .int v2), (3, .int v3), (4, .int v4), (5, .int v5)] [] := by
  intro n
  induction n with
  | zero => intro v1 v2 v3 v4 v5 σ r h; cases h
  | succ n ih =>
    intro v1 v2 v3 v4 v5 σ r h Z C hE
    unfold X9_storm_l63 at h
    refine r_iload (pc' := 65) C dX9_storm_63 rfl 5 rfl ?_
    refine r_aload_n (pc' := 66) C dX9_storm_65 rfl 0 rfl ?_
    refine r_getI (pc' := 69) C flX9_116 sh_149 rfl dX9_storm_66 rfl ?_
    refine r_icmp_ge (tgt := 138) (pc' := 72) C dX9_storm_69 rfl rfl (fun c15 => ?_) (fun c15 => ?_)
    · rw [if_pos c15] at h
      refine r_sub [0, 1, 2, 3] rfl ?_
      exact hk138 _ _ _ _ _ h Z C hE
    · rw [if_neg c15] at h
      refine r_iload (pc' := 74) C dX9_storm_72 rfl 5 rfl ?_
      refine r_iconst (pc' := 75) C dX9_storm_74 rfl kc_1 ?_
      refine r_iadd (pc' := 76) C dX9_storm_75 rfl ?_
      refine r_istore (pc' := 78) (lv2 := [(6, .int (v5 + 1)), (0, .ref 149), (1, .int v1), (2, .int v2), (3, .int v3), (4, .int v4), (5, .int v5)]) C dX9_storm_76 rfl (Nat.le_of_ble_eq_true rfl) rfl ?_
      refine r_sub [1, 2, 3, 4, 5, 6, 0] rfl ?_
      exact X9_storm_l78_ok  (fun _ _ _ _ _ _ _ h Z C hE => by exact X9_storm_j132_ok  ih h Z C hE) N _ _ _ _ _ _ _ _ h Z C hE
def X9_storm_l147 (N : Nat)  (k167 : Int32 → Int32 → Int32 → Int64 → Int64 → Sg → Option (Int32 × Sg))  : Nat → Int32 → Int32 → Int32 → Int64 → Int64 → Int32 → Sg → Option (Int32 × Sg)
  | 0, _, _, _, _, _, _, _ => none
  | n + 1, v1, v2, v3, v5, v7, v9, σ =>
    if v3 ≤ v9 then (k167 v1 v2 v3 v5 v7 σ) else (X9_storm_l147 N k167 n v1 v2 v3 v5 (v7 * 10) (v9 + 1) σ)
set_option maxRecDepth 100000 in
set_option maxHeartbeats 4000000 in
theorem X9_storm_l147_ok {E : Ev}  {N : Nat} {k167 : Int32 → Int32 → Int32 → Int64 → Int64 → Sg → Option (Int32 × Sg)}  (hk167 : ∀ (v1 : Int32) (v2 : Int32) (v3 : Int32) (v5 : Int64) (v7 : Int64) (σ : Sg) (r : Int32 × Sg), k167 v1 v2 v3 v5 v7 σ = some r → Gp E RX9 cX9_storm (some .int) 13 (101) SH0 r.2 (some (.int r.1)) σ 167 [(0, .ref 149), (1, .int v1), (2, .int v2), (3, .int v3), (5, .long v5), (7, .long v7)] []) : ∀ (n : Nat) (v1 : Int32) (v2 : Int32) (v3 : Int32) (v5 : Int64) (v7 : Int64) (v9 : Int32) (σ : Sg) (r : Int32 × Sg), X9_storm_l147 N k167 n v1 v2 v3 v5 v7 v9 σ = some r → Gp E RX9 cX9_storm (some .int) 13 (101) SH0 r.2 (some (.int r.1)) σ 147 [(0, .ref 149), (1, .int v1), (2, .int v2), (3, .int v3), (5, .long v5), (7, .long v7), (9, .int v9)] [] := by
  intro n
  induction n with
  | zero => intro v1 v2 v3 v5 v7 v9 σ r h; cases h
  | succ n ih =>
    intro v1 v2 v3 v5 v7 v9 σ r h Z C hE
    unfold X9_storm_l147 at h
    refine r_iload (pc' := 149) C dX9_storm_147 rfl 6 rfl ?_
    refine r_iload_n (pc' := 150) C dX9_storm_149 rfl 3 rfl ?_
    refine r_icmp_ge (tgt := 167) (pc' := 153) C dX9_storm_150 rfl rfl (fun c27 => ?_) (fun c27 => ?_)
    · rw [if_pos c27] at h
      refine r_sub [0, 1, 2, 3, 4, 5] rfl ?_
      exact hk167 _ _ _ _ _ _ _ h Z C hE
    · rw [if_neg c27] at h
      refine r_lload (pc' := 155) C dX9_storm_153 rfl 5 rfl ?_
      refine r_ldc2 (pc' := 158) C cnX9_401 dX9_storm_155 rfl ?_
      refine r_lmul (pc' := 159) C dX9_storm_158 rfl ?_
      refine r_lstore (pc' := 161) (lv2 := [(7, .long (v7 * 10)), (0, .ref 149), (1, .int v1), (2, .int v2), (3, .int v3), (5, .long v5), (9, .int v9)]) C dX9_storm_159 rfl (Nat.le_of_ble_eq_true rfl) rfl ?_
      refine r_iinc (pc' := 164) (v := v9 + 1) (lv2 := [(9, .int (v9 + 1)), (7, .long (v7 * 10)), (0, .ref 149), (1, .int v1), (2, .int v2), (3, .int v3), (5, .long v5)]) C dX9_storm_161 rfl 6 rfl rfl (Nat.le_of_ble_eq_true rfl) rfl ?_
      refine r_goto (tgt := 147) C dX9_storm_164 rfl ?_
      refine r_sub [2, 3, 4, 5, 6, 1, 0] rfl ?_
      exact ih _ _ _ _ _ _ _ _ h Z C hE
def X9_storm_j216 (N : Nat)  (kr : Int32 → Int32 → Int32 → Int64 → Int64 → Int32 → Int64 → Int32 → Sg → Option (Int32 × Sg)) (v1 : Int32) (v2 : Int32) (v3 : Int32) (v5 : Int64) (v7 : Int64) (v9 : Int32) (v12 : Int32) (s0 : Int64) (s1 : Int64) (σ : Sg) : Option (Int32 × Sg) :=
  (X9_has N v9 v12 σ).bind fun r35 => (if r35 = 0 then (kr v1 v2 v3 v5 v7 v9 (s1 * s0) (v12 + 1) σ) else (if inb v12 12 = true then if inb v12 12 = true then (X9_toggles N 154 (gi σ 173 v12.toNatClampNeg) (gi σ 174 v12.toNatClampNeg) σ).bind fun r40 => (kr v1 v2 v3 v5 v7 v9 (s1 * s0) (v12 + 1) r40) else none else none))
set_option maxRecDepth 100000 in
set_option maxHeartbeats 4000000 in
theorem X9_storm_j216_ok {E : Ev}  {N : Nat} {kr : Int32 → Int32 → Int32 → Int64 → Int64 → Int32 → Int64 → Int32 → Sg → Option (Int32 × Sg)}  (hkr : ∀ (v1 : Int32) (v2 : Int32) (v3 : Int32) (v5 : Int64) (v7 : Int64) (v9 : Int32) (v10 : Int64) (v12 : Int32) (σ : Sg) (r : Int32 × Sg), kr v1 v2 v3 v5 v7 v9 v10 v12 σ = some r → Gp E RX9 cX9_storm (some .int) 13 (101) SH0 r.2 (some (.int r.1)) σ 188 [(0, .ref 149), (1, .int v1), (2, .int v2), (3, .int v3), (5, .long v5), (7, .long v7), (9, .int v9), (10, .long v10), (12, .int v12)] []) {v1 : Int32} {v2 : Int32} {v3 : Int32} {v5 : Int64} {v7 : Int64} {v9 : Int32} {v12 : Int32} {s0 : Int64} {s1 : Int64} {σ : Sg} {r : Int32 × Sg} (h : X9_storm_j216 N  kr v1 v2 v3 v5 v7 v9 v12 s0 s1 σ = some r) : Gp E RX9 cX9_storm (some .int) 13 (101) SH0 r.2 (some (.int r.1)) σ 216 [(0, .ref 149), (1, .int v1), (2, .int v2), (3, .int v3), (5, .long v5), (7, .long v7), (9, .int v9), (12, .int v12)] [.long s0, .long s1] := by
  intro Z C hE
  unfold X9_storm_j216 at h
  refine r_lmul (pc' := 217) C dX9_storm_216 rfl ?_
  refine r_lstore (pc' := 219) (lv2 := [(10, .long (s1 * s0)), (0, .ref 149), (1, .int v1), (2, .int v2), (3, .int v3), (5, .long v5), (7, .long v7), (9, .int v9), (12, .int v12)]) C dX9_storm_217 rfl (Nat.le_of_ble_eq_true rfl) rfl ?_
  refine r_iload (pc' := 221) C dX9_storm_219 rfl 7 rfl ?_
  refine r_iload (pc' := 223) C dX9_storm_221 rfl 8 rfl ?_
  obtain ⟨r35, e36, h⟩ := bd h
  refine r_cS1 (pc' := 226) C (X9_has_ok  e36) mlX9_127 ceX9_has csX9_has rfl (Nat.le_of_ble_eq_true rfl) rfl (Nat.le_of_ble_eq_true rfl) dX9_storm_223 rfl (kk := ?_)
  refine r_if_eq (tgt := 250) (pc' := 229) C dX9_storm_226 rfl rfl (fun c37 => ?_) (fun c37 => ?_)
  · rw [if_pos c37] at h
    refine r_iinc (pc' := 253) (v := v12 + 1) (lv2 := [(12, .int (v12 + 1)), (10, .long (s1 * s0)), (0, .ref 149), (1, .int v1), (2, .int v2), (3, .int v3), (5, .long v5), (7, .long v7), (9, .int v9)]) C dX9_storm_250 rfl 8 rfl rfl (Nat.le_of_ble_eq_true rfl) rfl ?_
    refine r_goto (tgt := 188) C dX9_storm_253 rfl ?_
    refine r_sub [2, 3, 4, 5, 6, 7, 8, 1, 0] rfl ?_
    exact hkr _ _ _ _ _ _ _ _ _ _ h Z C hE
  · rw [if_neg c37] at h
    refine r_aload_n (pc' := 230) C dX9_storm_229 rfl 1 rfl ?_
    refine r_getR (pc' := 233) C flX9_37 sh_149 rfl dX9_storm_230 rfl ?_
    refine r_aload_n (pc' := 234) C dX9_storm_233 rfl 1 rfl ?_
    refine r_getR (pc' := 237) C flX9_94 sh_149 rfl dX9_storm_234 rfl ?_
    refine r_iload (pc' := 239) C dX9_storm_237 rfl 8 rfl ?_
    obtain ⟨q38, h⟩ := ck h
    refine r_iald (pc' := 240) C sh_173 (vin q38) dX9_storm_239 rfl ?_
    refine r_aload_n (pc' := 241) C dX9_storm_240 rfl 1 rfl ?_
    refine r_getR (pc' := 244) C flX9_97 sh_149 rfl dX9_storm_241 rfl ?_
    refine r_iload (pc' := 246) C dX9_storm_244 rfl 8 rfl ?_
    obtain ⟨q39, h⟩ := ck h
    refine r_iald (pc' := 247) C sh_174 (vin q39) dX9_storm_246 rfl ?_
    obtain ⟨r40, e41, h⟩ := bd h
    refine r_cS0 (pc' := 250) C (X9_toggles_ok mac_154 e41) mlX9_212 ceX9_toggles csX9_toggles rfl (Nat.le_of_ble_eq_true rfl) rfl (Nat.le_of_ble_eq_true rfl) dX9_storm_247 rfl (kk := ?_)
    refine r_iinc (pc' := 253) (v := v12 + 1) (lv2 := [(12, .int (v12 + 1)), (10, .long (s1 * s0)), (0, .ref 149), (1, .int v1), (2, .int v2), (3, .int v3), (5, .long v5), (7, .long v7), (9, .int v9)]) C dX9_storm_250 rfl 8 rfl rfl (Nat.le_of_ble_eq_true rfl) rfl ?_
    refine r_goto (tgt := 188) C dX9_storm_253 rfl ?_
    refine r_sub [2, 3, 4, 5, 6, 7, 8, 1, 0] rfl ?_
    exact hkr _ _ _ _ _ _ _ _ _ _ h Z C hE
def X9_storm_l188 (N : Nat)  (k256 : Int32 → Int32 → Int32 → Int64 → Int64 → Int32 → Int64 → Sg → Option (Int32 × Sg))  : Nat → Int32 → Int32 → Int32 → Int64 → Int64 → Int32 → Int64 → Int32 → Sg → Option (Int32 × Sg)
  | 0, _, _, _, _, _, _, _, _, _ => none
  | n + 1, v1, v2, v3, v5, v7, v9, v10, v12, σ =>
    if v3 ≤ v12 then (k256 v1 v2 v3 v5 v7 v9 v10 σ) else ((X9_has N v9 v12 σ).bind fun r32 => (if r32 = 0 then (X9_storm_j216 N (fun v1 v2 v3 v5 v7 v9 v10 v12 σ => X9_storm_l188 N k256 n v1 v2 v3 v5 v7 v9 v10 v12 σ) v1 v2 v3 v5 v7 v9 v12 ((10 - v2).toInt64) v10 σ) else (X9_storm_j216 N (fun v1 v2 v3 v5 v7 v9 v10 v12 σ => X9_storm_l188 N k256 n v1 v2 v3 v5 v7 v9 v10 v12 σ) v1 v2 v3 v5 v7 v9 v12 v2.toInt64 v10 σ)))
set_option maxRecDepth 100000 in
set_option maxHeartbeats 4000000 in
theorem X9_storm_l188_ok {E : Ev}  {N : Nat} {k256 : Int32 → Int32 → Int32 → Int64 → Int64 → Int32 → Int64 → Sg → Option (Int32 × Sg)}  (hk256 : ∀ (v1 : Int32) (v2 : Int32) (v3 : Int32) (v5 : Int64) (v7 : Int64) (v9 : Int32) (v10 : Int64) (σ : Sg) (r : Int32 × Sg), k256 v1 v2 v3 v5 v7 v9 v10 σ = some r → Gp E RX9 cX9_storm (some .int) 13 (101) SH0 r.2 (some (.int r.1)) σ 256 [(0, .ref 149), (1, .int v1), (2, .int v2), (3, .int v3), (5, .long v5), (7, .long v7), (9, .int v9), (10, .long v10)] []) : ∀ (n : Nat) (v1 : Int32) (v2 : Int32) (v3 : Int32) (v5 : Int64) (v7 : Int64) (v9 : Int32) (v10 : Int64) (v12 : Int32) (σ : Sg) (r : Int32 × Sg), X9_storm_l188 N k256 n v1 v2 v3 v5 v7 v9 v10 v12 σ = some r → Gp E RX9 cX9_storm (some .int) 13 (101) SH0 r.2 (some (.int r.1)) σ 188 [(0, .ref 149), (1, .int v1), (2, .int v2), (3, .int v3), (5, .long v5), (7, .long v7), (9, .int v9), (10, .long v10), (12, .int v12)] [] := by
  intro n
  induction n with
  | zero => intro v1 v2 v3 v5 v7 v9 v10 v12 σ r h; cases h
  | succ n ih =>
    intro v1 v2 v3 v5 v7 v9 v10 v12 σ r h Z C hE
    unfold X9_storm_l188 at h
    refine r_iload (pc' := 190) C dX9_storm_188 rfl 8 rfl ?_
    refine r_iload_n (pc' := 191) C dX9_storm_190 rfl 3 rfl ?_
    refine r_icmp_ge (tgt := 256) (pc' := 194) C dX9_storm_191 rfl rfl (fun c31 => ?_) (fun c31 => ?_)
    · rw [if_pos c31] at h
      refine r_sub [0, 1, 2, 3, 4, 5, 6, 7] rfl ?_
      exact hk256 _ _ _ _ _ _ _ _ _ h Z C hE
    · rw [if_neg c31] at h
      refine r_lload (pc' := 196) C dX9_storm_194 rfl 7 rfl ?_
      refine r_iload (pc' := 198) C dX9_storm_196 rfl 6 rfl ?_
      refine r_iload (pc' := 200) C dX9_storm_198 rfl 8 rfl ?_
      obtain ⟨r32, e33, h⟩ := bd h
      refine r_cS1 (pc' := 203) C (X9_has_ok  e33) mlX9_127 ceX9_has csX9_has rfl (Nat.le_of_ble_eq_true rfl) rfl (Nat.le_of_ble_eq_true rfl) dX9_storm_200 rfl (kk := ?_)
      refine r_if_eq (tgt := 211) (pc' := 206) C dX9_storm_203 rfl rfl (fun c34 => ?_) (fun c34 => ?_)
      · rw [if_pos c34] at h
        refine r_bipush (pc' := 213) C dX9_storm_211 rfl kb_10 ?_
        refine r_iload_n (pc' := 214) C dX9_storm_213 rfl 2 rfl ?_
        refine r_isub (pc' := 215) C dX9_storm_214 rfl ?_
        refine r_i2l (pc' := 216) C dX9_storm_215 rfl rfl ?_
        refine r_sub [0, 1, 2, 3, 4, 5, 6, 8] rfl ?_
        exact X9_storm_j216_ok  ih h Z C hE
      · rw [if_neg c34] at h
        refine r_iload_n (pc' := 207) C dX9_storm_206 rfl 2 rfl ?_
        refine r_i2l (pc' := 208) C dX9_storm_207 rfl rfl ?_
        refine r_goto (tgt := 216) C dX9_storm_208 rfl ?_
        refine r_sub [0, 1, 2, 3, 4, 5, 6, 8] rfl ?_
        exact X9_storm_j216_ok  ih h Z C hE
def X9_storm_j256 (N : Nat)  (kr : Int32 → Int32 → Int32 → Int64 → Int64 → Int32 → Sg → Option (Int32 × Sg)) (v1 : Int32) (v2 : Int32) (v3 : Int32) (v5 : Int64) (v7 : Int64) (v9 : Int32) (v10 : Int64) (σ : Sg) : Option (Int32 × Sg) :=
  (X9_bundle N 154 v1 σ).bind fun r42 => ((X9_above N 153 r42 σ).bind fun r44 => (if r44.1 < 0 then (kr v1 v2 v3 (v5 + 0) v7 (v9 + 1) r44.2) else (kr v1 v2 v3 (v5 + v10) v7 (v9 + 1) r44.2)))
set_option maxRecDepth 100000 in
set_option maxHeartbeats 4000000 in
theorem X9_storm_j256_ok {E : Ev}  {N : Nat} {kr : Int32 → Int32 → Int32 → Int64 → Int64 → Int32 → Sg → Option (Int32 × Sg)}  (hkr : ∀ (v1 : Int32) (v2 : Int32) (v3 : Int32) (v5 : Int64) (v7 : Int64) (v9 : Int32) (σ : Sg) (r : Int32 × Sg), kr v1 v2 v3 v5 v7 v9 σ = some r → Gp E RX9 cX9_storm (some .int) 13 (101) SH0 r.2 (some (.int r.1)) σ 170 [(0, .ref 149), (1, .int v1), (2, .int v2), (3, .int v3), (5, .long v5), (7, .long v7), (9, .int v9)] []) {v1 : Int32} {v2 : Int32} {v3 : Int32} {v5 : Int64} {v7 : Int64} {v9 : Int32} {v10 : Int64} {σ : Sg} {r : Int32 × Sg} (h : X9_storm_j256 N  kr v1 v2 v3 v5 v7 v9 v10 σ = some r) : Gp E RX9 cX9_storm (some .int) 13 (101) SH0 r.2 (some (.int r.1)) σ 256 [(0, .ref 149), (1, .int v1), (2, .int v2), (3, .int v3), (5, .long v5), (7, .long v7), (9, .int v9), (10, .long v10)] [] := by
  intro Z C hE
  unfold X9_storm_j256 at h
  refine r_lload (pc' := 258) C dX9_storm_256 rfl 4 rfl ?_
  refine r_aload_n (pc' := 259) C dX9_storm_258 rfl 0 rfl ?_
  refine r_aload_n (pc' := 260) C dX9_storm_259 rfl 0 rfl ?_
  refine r_getR (pc' := 263) C flX9_34 sh_149 rfl dX9_storm_260 rfl ?_
  refine r_aload_n (pc' := 264) C dX9_storm_263 rfl 0 rfl ?_
  refine r_aload_n (pc' := 265) C dX9_storm_264 rfl 0 rfl ?_
  refine r_getR (pc' := 268) C flX9_37 sh_149 rfl dX9_storm_265 rfl ?_
  refine r_iload_n (pc' := 269) C dX9_storm_268 rfl 1 rfl ?_
  obtain ⟨r42, e43, h⟩ := bd h
  refine r_cV1 (pc' := 272) C (X9_bundle_ok mac_154 e43) mlX9_281 ceX9_bundle cvX9_bundle sh_149 rfl rfl rfl (Nat.le_of_ble_eq_true rfl) rfl (Nat.le_of_ble_eq_true rfl) dX9_storm_269 rfl (kk := ?_)
  obtain ⟨r44, e45, h⟩ := bd h
  refine r_cV1 (pc' := 275) C (X9_above_ok mac_153 e45) mlX9_287 ceX9_above cvX9_above sh_149 rfl rfl rfl (Nat.le_of_ble_eq_true rfl) rfl (Nat.le_of_ble_eq_true rfl) dX9_storm_272 rfl (kk := ?_)
  refine r_if_lt (tgt := 283) (pc' := 278) C dX9_storm_275 rfl rfl (fun c46 => ?_) (fun c46 => ?_)
  · rw [if_pos c46] at h
    refine r_lconst (pc' := 284) C dX9_storm_283 rfl kl_0 ?_
    refine r_ladd (pc' := 285) C dX9_storm_284 rfl ?_
    refine r_lstore (pc' := 287) (lv2 := [(5, .long (v5 + 0)), (0, .ref 149), (1, .int v1), (2, .int v2), (3, .int v3), (7, .long v7), (9, .int v9), (10, .long v10)]) C dX9_storm_285 rfl (Nat.le_of_ble_eq_true rfl) rfl ?_
    refine r_iinc (pc' := 290) (v := v9 + 1) (lv2 := [(9, .int (v9 + 1)), (5, .long (v5 + 0)), (0, .ref 149), (1, .int v1), (2, .int v2), (3, .int v3), (7, .long v7), (10, .long v10)]) C dX9_storm_287 rfl 6 rfl rfl (Nat.le_of_ble_eq_true rfl) rfl ?_
    refine r_goto (tgt := 170) C dX9_storm_290 rfl ?_
    refine r_sub [2, 3, 4, 5, 1, 6, 0] rfl ?_
    exact hkr _ _ _ _ _ _ _ _ h Z C hE
  · rw [if_neg c46] at h
    refine r_lload (pc' := 280) C dX9_storm_278 rfl 7 rfl ?_
    refine r_goto (tgt := 284) C dX9_storm_280 rfl ?_
    refine r_ladd (pc' := 285) C dX9_storm_284 rfl ?_
    refine r_lstore (pc' := 287) (lv2 := [(5, .long (v5 + v10)), (0, .ref 149), (1, .int v1), (2, .int v2), (3, .int v3), (7, .long v7), (9, .int v9), (10, .long v10)]) C dX9_storm_285 rfl (Nat.le_of_ble_eq_true rfl) rfl ?_
    refine r_iinc (pc' := 290) (v := v9 + 1) (lv2 := [(9, .int (v9 + 1)), (5, .long (v5 + v10)), (0, .ref 149), (1, .int v1), (2, .int v2), (3, .int v3), (7, .long v7), (10, .long v10)]) C dX9_storm_287 rfl 6 rfl rfl (Nat.le_of_ble_eq_true rfl) rfl ?_
    refine r_goto (tgt := 170) C dX9_storm_290 rfl ?_
    refine r_sub [2, 3, 4, 5, 1, 6, 0] rfl ?_
    exact hkr _ _ _ _ _ _ _ _ h Z C hE
def X9_storm_l170 (N : Nat)  (k293 : Int64 → Int64 → Sg → Option (Int32 × Sg))  : Nat → Int32 → Int32 → Int32 → Int64 → Int64 → Int32 → Sg → Option (Int32 × Sg)
  | 0, _, _, _, _, _, _, _ => none
  | n + 1, v1, v2, v3, v5, v7, v9, σ =>
    if (1 <<< (v3 &&& 31)) ≤ v9 then (k293 v5 v7 σ) else ((X9_copies N σ).bind fun r29 => (X9_storm_l188 N (fun v1 v2 v3 v5 v7 v9 v10 σ => X9_storm_j256 N (fun v1 v2 v3 v5 v7 v9 σ => X9_storm_l170 N k293 n v1 v2 v3 v5 v7 v9 σ) v1 v2 v3 v5 v7 v9 v10 σ) N v1 v2 v3 v5 v7 v9 1 0 r29))
set_option maxRecDepth 100000 in
set_option maxHeartbeats 4000000 in
theorem X9_storm_l170_ok {E : Ev}  {N : Nat} {k293 : Int64 → Int64 → Sg → Option (Int32 × Sg)}  (hk293 : ∀ (v5 : Int64) (v7 : Int64) (σ : Sg) (r : Int32 × Sg), k293 v5 v7 σ = some r → Gp E RX9 cX9_storm (some .int) 13 (101) SH0 r.2 (some (.int r.1)) σ 293 [(0, .ref 149), (5, .long v5), (7, .long v7)] []) : ∀ (n : Nat) (v1 : Int32) (v2 : Int32) (v3 : Int32) (v5 : Int64) (v7 : Int64) (v9 : Int32) (σ : Sg) (r : Int32 × Sg), X9_storm_l170 N k293 n v1 v2 v3 v5 v7 v9 σ = some r → Gp E RX9 cX9_storm (some .int) 13 (101) SH0 r.2 (some (.int r.1)) σ 170 [(0, .ref 149), (1, .int v1), (2, .int v2), (3, .int v3), (5, .long v5), (7, .long v7), (9, .int v9)] [] := by
  intro n
  induction n with
  | zero => intro v1 v2 v3 v5 v7 v9 σ r h; cases h
  | succ n ih =>
    intro v1 v2 v3 v5 v7 v9 σ r h Z C hE
    unfold X9_storm_l170 at h
    refine r_iload (pc' := 172) C dX9_storm_170 rfl 6 rfl ?_
    refine r_iconst (pc' := 173) C dX9_storm_172 rfl kc_1 ?_
    refine r_iload_n (pc' := 174) C dX9_storm_173 rfl 3 rfl ?_
    refine r_ishl (pc' := 175) C dX9_storm_174 rfl ?_
    refine r_icmp_ge (tgt := 293) (pc' := 178) C dX9_storm_175 rfl rfl (fun c28 => ?_) (fun c28 => ?_)
    · rw [if_pos c28] at h
      refine r_sub [0, 4, 5] rfl ?_
      exact hk293 _ _ _ _ h Z C hE
    · rw [if_neg c28] at h
      refine r_aload_n (pc' := 179) C dX9_storm_178 rfl 0 rfl ?_
      obtain ⟨r29, e30, h⟩ := bd h
      refine r_cV0 (pc' := 182) C (X9_copies_ok  e30) mlX9_362 ceX9_copies cvX9_copies sh_149 rfl rfl rfl (Nat.le_of_ble_eq_true rfl) rfl (Nat.le_of_ble_eq_true rfl) dX9_storm_179 rfl (kk := ?_)
      refine r_lconst (pc' := 183) C dX9_storm_182 rfl kl_1 ?_
      refine r_lstore (pc' := 185) (lv2 := [(10, .long 1), (0, .ref 149), (1, .int v1), (2, .int v2), (3, .int v3), (5, .long v5), (7, .long v7), (9, .int v9)]) C dX9_storm_183 rfl (Nat.le_of_ble_eq_true rfl) rfl ?_
      refine r_iconst (pc' := 186) C dX9_storm_185 rfl kc_0 ?_
      refine r_istore (pc' := 188) (lv2 := [(12, .int 0), (10, .long 1), (0, .ref 149), (1, .int v1), (2, .int v2), (3, .int v3), (5, .long v5), (7, .long v7), (9, .int v9)]) C dX9_storm_186 rfl (Nat.le_of_ble_eq_true rfl) rfl ?_
      refine r_sub [2, 3, 4, 5, 6, 7, 8, 1, 0] rfl ?_
      exact X9_storm_l188_ok  (fun _ _ _ _ _ _ _ _ _ h Z C hE => by exact X9_storm_j256_ok  ih h Z C hE) N _ _ _ _ _ _ _ _ _ _ h Z C hE
def X9_storm_j293 (N : Nat)   (v5 : Int64) (v7 : Int64) (σ : Sg) : Option (Int32 × Sg) :=
  (X9_common N v5 v7 σ).bind fun r47 => (bnS (wi σ 149 1 0) fun σ49 => if r47 = 0 then none else (X9_enters N (v5 / r47) σ49).bind fun r52 => (if r47 = 0 then none else (X9_enters N (v7 / r47) r52).bind fun r55 => (some (0, r55))))
set_option maxRecDepth 100000 in
set_option maxHeartbeats 4000000 in
theorem X9_storm_j293_ok {E : Ev}  {N : Nat}    {v5 : Int64} {v7 : Int64} {σ : Sg} {r : Int32 × Sg} (h : X9_storm_j293 N   v5 v7 σ = some r) : Gp E RX9 cX9_storm (some .int) 13 (101) SH0 r.2 (some (.int r.1)) σ 293 [(0, .ref 149), (5, .long v5), (7, .long v7)] [] := by
  intro Z C hE
  unfold X9_storm_j293 at h
  refine r_lload (pc' := 295) C dX9_storm_293 rfl 1 rfl ?_
  refine r_lload (pc' := 297) C dX9_storm_295 rfl 2 rfl ?_
  obtain ⟨r47, e48, h⟩ := bd h
  refine r_cS1 (pc' := 300) C (X9_common_ok  e48) mlX9_7 ceX9_common csX9_common rfl (Nat.le_of_ble_eq_true rfl) rfl (Nat.le_of_ble_eq_true rfl) dX9_storm_297 rfl (kk := ?_)
  refine r_lstore (pc' := 302) (lv2 := [(9, .long r47), (0, .ref 149), (5, .long v5), (7, .long v7)]) C dX9_storm_300 rfl (Nat.le_of_ble_eq_true rfl) rfl ?_
  refine r_aload_n (pc' := 303) C dX9_storm_302 rfl 1 rfl ?_
  refine r_iconst (pc' := 304) C dX9_storm_303 rfl kc_0 ?_
  obtain ⟨σ49, e50, h⟩ := bs h
  refine r_putI (pc' := 307) (σ1 := σ49) C fpX9_15 sh_149 rfl rfl rfl dX9_storm_304 rfl e50 ?_
  refine r_aload_n (pc' := 308) C dX9_storm_307 rfl 1 rfl ?_
  refine r_lload (pc' := 310) C dX9_storm_308 rfl 2 rfl ?_
  refine r_lload (pc' := 312) C dX9_storm_310 rfl 0 rfl ?_
  obtain ⟨q51, h⟩ := ckl h
  refine r_ldiv (pc' := 313) C dX9_storm_312 rfl q51 ?_
  obtain ⟨r52, e53, h⟩ := bd h
  refine r_cV0 (pc' := 316) C (X9_enters_ok  e53) mlX9_327 ceX9_enters cvX9_enters sh_149 rfl rfl rfl (Nat.le_of_ble_eq_true rfl) rfl (Nat.le_of_ble_eq_true rfl) dX9_storm_313 rfl (kk := ?_)
  refine r_aload_n (pc' := 317) C dX9_storm_316 rfl 1 rfl ?_
  refine r_lload (pc' := 319) C dX9_storm_317 rfl 3 rfl ?_
  refine r_lload (pc' := 321) C dX9_storm_319 rfl 0 rfl ?_
  obtain ⟨q54, h⟩ := ckl h
  refine r_ldiv (pc' := 322) C dX9_storm_321 rfl q54 ?_
  obtain ⟨r55, e56, h⟩ := bd h
  refine r_cV0 (pc' := 325) C (X9_enters_ok  e56) mlX9_327 ceX9_enters cvX9_enters sh_149 rfl rfl rfl (Nat.le_of_ble_eq_true rfl) rfl (Nat.le_of_ble_eq_true rfl) dX9_storm_322 rfl (kk := ?_)
  refine r_iconst (pc' := 326) C dX9_storm_325 rfl kc_0 ?_
  have h := Option.some.inj h
  subst h
  exact r_ret C rfl dX9_storm_326 hE
def X9_storm_j167 (N : Nat)   (v1 : Int32) (v2 : Int32) (v3 : Int32) (v5 : Int64) (v7 : Int64) (σ : Sg) : Option (Int32 × Sg) :=
  X9_storm_l170 N (fun v5 v7 σ => X9_storm_j293 N v5 v7 σ) N v1 v2 v3 v5 v7 0 σ
set_option maxRecDepth 100000 in
set_option maxHeartbeats 4000000 in
theorem X9_storm_j167_ok {E : Ev}  {N : Nat}    {v1 : Int32} {v2 : Int32} {v3 : Int32} {v5 : Int64} {v7 : Int64} {σ : Sg} {r : Int32 × Sg} (h : X9_storm_j167 N   v1 v2 v3 v5 v7 σ = some r) : Gp E RX9 cX9_storm (some .int) 13 (101) SH0 r.2 (some (.int r.1)) σ 167 [(0, .ref 149), (1, .int v1), (2, .int v2), (3, .int v3), (5, .long v5), (7, .long v7)] [] := by
  intro Z C hE
  unfold X9_storm_j167 at h
  refine r_iconst (pc' := 168) C dX9_storm_167 rfl kc_0 ?_
  refine r_istore (pc' := 170) (lv2 := [(9, .int 0), (0, .ref 149), (1, .int v1), (2, .int v2), (3, .int v3), (5, .long v5), (7, .long v7)]) C dX9_storm_168 rfl (Nat.le_of_ble_eq_true rfl) rfl ?_
  refine r_sub [1, 2, 3, 4, 5, 6, 0] rfl ?_
  exact X9_storm_l170_ok  (fun _ _ _ _ h Z C hE => by exact X9_storm_j293_ok  h Z C hE) N _ _ _ _ _ _ _ _ h Z C hE
def X9_storm_j138 (N : Nat)   (v1 : Int32) (v2 : Int32) (v3 : Int32) (σ : Sg) : Option (Int32 × Sg) :=
  X9_storm_l147 N (fun v1 v2 v3 v5 v7 σ => X9_storm_j167 N v1 v2 v3 v5 v7 σ) N v1 v2 v3 0 1 0 σ
set_option maxRecDepth 100000 in
set_option maxHeartbeats 4000000 in
theorem X9_storm_j138_ok {E : Ev}  {N : Nat}    {v1 : Int32} {v2 : Int32} {v3 : Int32} {σ : Sg} {r : Int32 × Sg} (h : X9_storm_j138 N   v1 v2 v3 σ = some r) : Gp E RX9 cX9_storm (some .int) 13 (101) SH0 r.2 (some (.int r.1)) σ 138 [(0, .ref 149), (1, .int v1), (2, .int v2), (3, .int v3)] [] := by
  intro Z C hE
  unfold X9_storm_j138 at h
  refine r_lconst (pc' := 139) C dX9_storm_138 rfl kl_0 ?_
  refine r_lstore (pc' := 141) (lv2 := [(5, .long 0), (0, .ref 149), (1, .int v1), (2, .int v2), (3, .int v3)]) C dX9_storm_139 rfl (Nat.le_of_ble_eq_true rfl) rfl ?_
  refine r_lconst (pc' := 142) C dX9_storm_141 rfl kl_1 ?_
  refine r_lstore (pc' := 144) (lv2 := [(7, .long 1), (5, .long 0), (0, .ref 149), (1, .int v1), (2, .int v2), (3, .int v3)]) C dX9_storm_142 rfl (Nat.le_of_ble_eq_true rfl) rfl ?_
  refine r_iconst (pc' := 145) C dX9_storm_144 rfl kc_0 ?_
  refine r_istore (pc' := 147) (lv2 := [(9, .int 0), (7, .long 1), (5, .long 0), (0, .ref 149), (1, .int v1), (2, .int v2), (3, .int v3)]) C dX9_storm_145 rfl (Nat.le_of_ble_eq_true rfl) rfl ?_
  refine r_sub [3, 4, 5, 6, 2, 1, 0] rfl ?_
  exact X9_storm_l147_ok  (fun _ _ _ _ _ _ _ h Z C hE => by exact X9_storm_j167_ok  h Z C hE) N _ _ _ _ _ _ _ _ h Z C hE
def X9_storm (N : Nat)  (v1 : Int32) (v2 : Int32) (σ : Sg) : Option (Int32 × Sg) :=
  bnS (wi σ 149 0 0) fun σ1 => (X9_isThing N v1 σ1).bind fun r3 => (if r3 = 0 then (some ((-1), σ1)) else ((X9_in N v2.toInt64 0 10 σ1).bind fun r6 => (if r6 = 0 then (some ((-1), σ1)) else ((X9_stringMany N 153 σ1).bind fun r9 => ((X9_isHere N 153 v1 σ1).bind fun r11 => (if r11 = 0 then (some ((-2), σ1)) else (if r9 ≤ 12 then (X9_storm_l63 N (fun v1 v2 v3 σ => X9_storm_j138 N v1 v2 v3 σ) N v1 v2 r9 0 0 σ1) else (some ((-2), σ1)))))))))
set_option maxRecDepth 100000 in
set_option maxHeartbeats 4000000 in
theorem X9_storm_ok {E : Ev}  {N : Nat} {v1 : Int32} {v2 : Int32} {σ : Sg} {r : Int32 × Sg} (h : X9_storm N  v1 v2 σ = some r) : Cm E (101) yX9_storm cX9_storm 13 (some .int) [.ref 149, .int v1, .int v2] SH0 SH0 σ r.2 (some (.int r.1)) 0 0 := by
  refine Cm.intro (by decide +kernel) (Nat.le_of_ble_eq_true rfl) (fun _ h => by obtain ⟨_, _, _, _, _, _, h⟩ := h; exact h) (fun Z C hE => ?_)
  show Wm E Z 0 0 SH0 σ 0 [(0, .ref 149), (1, .int v1), (2, .int v2)] []
  unfold X9_storm at h
  refine r_aload_n (pc' := 1) C dX9_storm_0 rfl 0 rfl ?_
  refine r_iconst (pc' := 2) C dX9_storm_1 rfl kc_0 ?_
  obtain ⟨σ1, e2, h⟩ := bs h
  refine r_putI (pc' := 5) (σ1 := σ1) C fpX9_3 sh_149 rfl rfl rfl dX9_storm_2 rfl e2 ?_
  refine r_aload_n (pc' := 6) C dX9_storm_5 rfl 0 rfl ?_
  refine r_iload_n (pc' := 7) C dX9_storm_6 rfl 1 rfl ?_
  obtain ⟨r3, e4, h⟩ := bd h
  refine r_cV1 (pc' := 10) C (X9_isThing_ok  e4) mlX9_123 ceX9_isThing cvX9_isThing sh_149 rfl rfl rfl (Nat.le_of_ble_eq_true rfl) rfl (Nat.le_of_ble_eq_true rfl) dX9_storm_7 rfl (kk := ?_)
  refine r_if_eq (tgt := 25) (pc' := 13) C dX9_storm_10 rfl rfl (fun c5 => ?_) (fun c5 => ?_)
  · rw [if_pos c5] at h
    refine r_iconst (pc' := 26) C dX9_storm_25 rfl kc_m1 ?_
    have h := Option.some.inj h
    subst h
    exact r_ret C rfl dX9_storm_26 hE
  · rw [if_neg c5] at h
    refine r_iload_n (pc' := 14) C dX9_storm_13 rfl 2 rfl ?_
    refine r_i2l (pc' := 15) C dX9_storm_14 rfl rfl ?_
    refine r_lconst (pc' := 16) C dX9_storm_15 rfl kl_0 ?_
    refine r_ldc2 (pc' := 19) C cnX9_401 dX9_storm_16 rfl ?_
    obtain ⟨r6, e7, h⟩ := bd h
    refine r_cS1 (pc' := 22) C (X9_in_ok  e7) mlX9_119 ceX9_in csX9_in rfl (Nat.le_of_ble_eq_true rfl) rfl (Nat.le_of_ble_eq_true rfl) dX9_storm_19 rfl (kk := ?_)
    refine r_if_ne (tgt := 27) (pc' := 25) C dX9_storm_22 rfl rfl (fun c8 => ?_) (fun c8 => ?_)
    · rw [if_neg c8] at h
      refine r_aload_n (pc' := 28) C dX9_storm_27 rfl 0 rfl ?_
      refine r_aload_n (pc' := 29) C dX9_storm_28 rfl 0 rfl ?_
      refine r_getR (pc' := 32) C flX9_34 sh_149 rfl dX9_storm_29 rfl ?_
      obtain ⟨r9, e10, h⟩ := bd h
      refine r_cV1 (pc' := 35) C (X9_stringMany_ok mac_153 e10) mlX9_319 ceX9_stringMany cvX9_stringMany sh_149 rfl rfl rfl (Nat.le_of_ble_eq_true rfl) rfl (Nat.le_of_ble_eq_true rfl) dX9_storm_32 rfl (kk := ?_)
      refine r_istore_n (pc' := 36) (lv2 := [(3, .int r9), (0, .ref 149), (1, .int v1), (2, .int v2)]) C dX9_storm_35 rfl rfl (Nat.le_of_ble_eq_true rfl) rfl ?_
      refine r_aload_n (pc' := 37) C dX9_storm_36 rfl 1 rfl ?_
      refine r_aload_n (pc' := 38) C dX9_storm_37 rfl 1 rfl ?_
      refine r_getR (pc' := 41) C flX9_34 sh_149 rfl dX9_storm_38 rfl ?_
      refine r_iload_n (pc' := 42) C dX9_storm_41 rfl 2 rfl ?_
      obtain ⟨r11, e12, h⟩ := bd h
      refine r_cV1 (pc' := 45) C (X9_isHere_ok mac_153 e12) mlX9_202 ceX9_isHere cvX9_isHere sh_149 rfl rfl rfl (Nat.le_of_ble_eq_true rfl) rfl (Nat.le_of_ble_eq_true rfl) dX9_storm_42 rfl (kk := ?_)
      refine r_if_eq (tgt := 54) (pc' := 48) C dX9_storm_45 rfl rfl (fun c13 => ?_) (fun c13 => ?_)
      · rw [if_pos c13] at h
        refine r_bipush (pc' := 56) C dX9_storm_54 rfl kb_m2 ?_
        have h := Option.some.inj h
        subst h
        exact r_ret C rfl dX9_storm_56 hE
      · rw [if_neg c13] at h
        refine r_iload_n (pc' := 49) C dX9_storm_48 rfl 0 rfl ?_
        refine r_bipush (pc' := 51) C dX9_storm_49 rfl kb_12 ?_
        refine r_icmp_le (tgt := 57) (pc' := 54) C dX9_storm_51 rfl rfl (fun c14 => ?_) (fun c14 => ?_)
        · rw [if_pos c14] at h
          refine r_iconst (pc' := 58) C dX9_storm_57 rfl kc_0 ?_
          refine r_istore (pc' := 60) (lv2 := [(4, .int 0), (3, .int r9), (0, .ref 149), (1, .int v1), (2, .int v2)]) C dX9_storm_58 rfl (Nat.le_of_ble_eq_true rfl) rfl ?_
          refine r_iconst (pc' := 61) C dX9_storm_60 rfl kc_0 ?_
          refine r_istore (pc' := 63) (lv2 := [(5, .int 0), (4, .int 0), (3, .int r9), (0, .ref 149), (1, .int v1), (2, .int v2)]) C dX9_storm_61 rfl (Nat.le_of_ble_eq_true rfl) rfl ?_
          refine r_sub [3, 4, 5, 2, 1, 0] rfl ?_
          exact X9_storm_l63_ok  (fun _ _ _ _ _ h Z C hE => by exact X9_storm_j138_ok  h Z C hE) N _ _ _ _ _ _ _ h Z C hE
        · rw [if_neg c14] at h
          refine r_bipush (pc' := 56) C dX9_storm_54 rfl kb_m2 ?_
          have h := Option.some.inj h
          subst h
          exact r_ret C rfl dX9_storm_56 hE
    · rw [if_pos c8] at h
      refine r_iconst (pc' := 26) C dX9_storm_25 rfl kc_m1 ?_
      have h := Option.some.inj h
      subst h
      exact r_ret C rfl dX9_storm_26 hE

/-! BorrowedWeightModel.pile(II)I -/
def X9_pile (N : Nat)  (v0 : Int32) (v1 : Int32) (σ : Sg) : Option (Int32) :=
  some ((21 * v0) + v1)
set_option maxRecDepth 100000 in
set_option maxHeartbeats 4000000 in
theorem X9_pile_ok {E : Ev}  {N : Nat} {v0 : Int32} {v1 : Int32} {σ : Sg} {r : Int32} (h : X9_pile N  v0 v1 σ = some r) : Cm E (0) yX9_pile cX9_pile 2 (some .int) [.int v0, .int v1] SH0 SH0 σ σ (some (.int r)) 0 0 := by
  refine Cm.intro (by decide +kernel) (Nat.le_of_ble_eq_true rfl) (fun _ h => by obtain ⟨_, _, _, _, _, _, h⟩ := h; exact h) (fun Z C hE => ?_)
  show Wm E Z 0 0 SH0 σ 0 [(0, .int v0), (1, .int v1)] []
  unfold X9_pile at h
  refine r_bipush (pc' := 2) C dX9_pile_0 rfl kb_21 ?_
  refine r_iload_n (pc' := 3) C dX9_pile_2 rfl 0 rfl ?_
  refine r_imul (pc' := 4) C dX9_pile_3 rfl ?_
  refine r_iload_n (pc' := 5) C dX9_pile_4 rfl 1 rfl ?_
  refine r_iadd (pc' := 6) C dX9_pile_5 rfl ?_
  have h := Option.some.inj h
  subst h
  exact r_ret C rfl dX9_pile_6 hE

/-! BorrowedWeightModel.isGood(IIII)Z -/
def X9_isGood (N : Nat)  (v1 : Int32) (v2 : Int32) (v3 : Int32) (v4 : Int32) (σ : Sg) : Option (Int32) :=
  if (v3 + v4) ≤ 0 then (some 0) else (if 3 ≤ (v3 + v4) then (some 0) else (if v1 < v3 then (some 0) else (if v2 < v4 then (some 0) else ((X9_pile N (v1 - v3) (v2 - v4) σ).bind fun r5 => (if inb r5 441 = true then if (gi σ 175 r5.toNatClampNeg) = 0 then (some 1) else (some 0) else none)))))
set_option maxRecDepth 100000 in
set_option maxHeartbeats 4000000 in
theorem X9_isGood_ok {E : Ev}  {N : Nat} {v1 : Int32} {v2 : Int32} {v3 : Int32} {v4 : Int32} {σ : Sg} {r : Int32} (h : X9_isGood N  v1 v2 v3 v4 σ = some r) : Cm E (1) yX9_isGood cX9_isGood 5 (some .boolean) [.ref 149, .int v1, .int v2, .int v3, .int v4] SH0 SH0 σ σ (some (.int r)) 0 0 := by
  refine Cm.intro (by decide +kernel) (Nat.le_of_ble_eq_true rfl) (fun _ h => by obtain ⟨_, _, _, _, _, _, h⟩ := h; exact h) (fun Z C hE => ?_)
  show Wm E Z 0 0 SH0 σ 0 [(0, .ref 149), (1, .int v1), (2, .int v2), (3, .int v3), (4, .int v4)] []
  unfold X9_isGood at h
  refine r_iload_n (pc' := 1) C dX9_isGood_0 rfl 3 rfl ?_
  refine r_iload (pc' := 3) C dX9_isGood_1 rfl 4 rfl ?_
  refine r_iadd (pc' := 4) C dX9_isGood_3 rfl ?_
  refine r_if_le (tgt := 48) (pc' := 7) C dX9_isGood_4 rfl rfl (fun c1 => ?_) (fun c1 => ?_)
  · rw [if_pos c1] at h
    refine r_iconst (pc' := 49) C dX9_isGood_48 rfl kc_0 ?_
    have h := Option.some.inj h
    subst h
    exact r_ret C rfl dX9_isGood_49 hE
  · rw [if_neg c1] at h
    refine r_iload_n (pc' := 8) C dX9_isGood_7 rfl 3 rfl ?_
    refine r_iload (pc' := 10) C dX9_isGood_8 rfl 4 rfl ?_
    refine r_iadd (pc' := 11) C dX9_isGood_10 rfl ?_
    refine r_iconst (pc' := 12) C dX9_isGood_11 rfl kc_3 ?_
    refine r_icmp_ge (tgt := 48) (pc' := 15) C dX9_isGood_12 rfl rfl (fun c2 => ?_) (fun c2 => ?_)
    · rw [if_pos c2] at h
      refine r_iconst (pc' := 49) C dX9_isGood_48 rfl kc_0 ?_
      have h := Option.some.inj h
      subst h
      exact r_ret C rfl dX9_isGood_49 hE
    · rw [if_neg c2] at h
      refine r_iload_n (pc' := 16) C dX9_isGood_15 rfl 3 rfl ?_
      refine r_iload_n (pc' := 17) C dX9_isGood_16 rfl 1 rfl ?_
      refine r_icmp_gt (tgt := 48) (pc' := 20) C dX9_isGood_17 rfl rfl (fun c3 => ?_) (fun c3 => ?_)
      · rw [if_pos c3] at h
        refine r_iconst (pc' := 49) C dX9_isGood_48 rfl kc_0 ?_
        have h := Option.some.inj h
        subst h
        exact r_ret C rfl dX9_isGood_49 hE
      · rw [if_neg c3] at h
        refine r_iload (pc' := 22) C dX9_isGood_20 rfl 4 rfl ?_
        refine r_iload_n (pc' := 23) C dX9_isGood_22 rfl 2 rfl ?_
        refine r_icmp_gt (tgt := 48) (pc' := 26) C dX9_isGood_23 rfl rfl (fun c4 => ?_) (fun c4 => ?_)
        · rw [if_pos c4] at h
          refine r_iconst (pc' := 49) C dX9_isGood_48 rfl kc_0 ?_
          have h := Option.some.inj h
          subst h
          exact r_ret C rfl dX9_isGood_49 hE
        · rw [if_neg c4] at h
          refine r_aload_n (pc' := 27) C dX9_isGood_26 rfl 0 rfl ?_
          refine r_getR (pc' := 30) C flX9_100 sh_149 rfl dX9_isGood_27 rfl ?_
          refine r_iload_n (pc' := 31) C dX9_isGood_30 rfl 1 rfl ?_
          refine r_iload_n (pc' := 32) C dX9_isGood_31 rfl 3 rfl ?_
          refine r_isub (pc' := 33) C dX9_isGood_32 rfl ?_
          refine r_iload_n (pc' := 34) C dX9_isGood_33 rfl 2 rfl ?_
          refine r_iload (pc' := 36) C dX9_isGood_34 rfl 4 rfl ?_
          refine r_isub (pc' := 37) C dX9_isGood_36 rfl ?_
          obtain ⟨r5, e6, h⟩ := bd h
          refine r_cS1 (pc' := 40) C (X9_pile_ok  e6) mlX9_403 ceX9_pile csX9_pile rfl (Nat.le_of_ble_eq_true rfl) rfl (Nat.le_of_ble_eq_true rfl) dX9_isGood_37 rfl (kk := ?_)
          obtain ⟨q7, h⟩ := ck h
          refine r_zald (pc' := 41) C sh_175 (vin q7) dX9_isGood_40 rfl ?_
          refine r_if_ne (tgt := 48) (pc' := 44) C dX9_isGood_41 rfl rfl (fun c8 => ?_) (fun c8 => ?_)
          · rw [if_neg c8] at h
            refine r_iconst (pc' := 49) C dX9_isGood_48 rfl kc_0 ?_
            have h := Option.some.inj h
            subst h
            exact r_ret C rfl dX9_isGood_49 hE
          · rw [if_pos c8] at h
            refine r_iconst (pc' := 45) C dX9_isGood_44 rfl kc_1 ?_
            refine r_goto (tgt := 49) C dX9_isGood_45 rfl ?_
            have h := Option.some.inj h
            subst h
            exact r_ret C rfl dX9_isGood_49 hE

/-! BorrowedWeightModel.run(II)I -/
def X9_run_l62 (N : Nat)  (k100 : Int32 → Int32 → Int32 → Int32 → Int32 → Int32 → Sg → Option (Int32 × Sg))  : Nat → Int32 → Int32 → Int32 → Int32 → Int32 → Int32 → Int32 → Sg → Option (Int32 × Sg)
  | 0, _, _, _, _, _, _, _, _ => none
  | n + 1, v1, v2, v3, v4, v5, v6, v7, σ =>
    if 3 ≤ v7 then (k100 v1 v2 v3 v4 v5 v6 σ) else (if v5 = 0 then ((X9_isGood N v3 v4 v6 v7 σ).bind fun r14 => (if r14 = 0 then (X9_run_l62 N k100 n v1 v2 v3 v4 0 v6 (v7 + 1) σ) else (X9_run_l62 N k100 n v1 v2 v3 v4 1 v6 (v7 + 1) σ))) else (X9_run_l62 N k100 n v1 v2 v3 v4 1 v6 (v7 + 1) σ))
set_option maxRecDepth 100000 in
set_option maxHeartbeats 4000000 in
theorem X9_run_l62_ok {E : Ev}  {N : Nat} {k100 : Int32 → Int32 → Int32 → Int32 → Int32 → Int32 → Sg → Option (Int32 × Sg)}  (hk100 : ∀ (v1 : Int32) (v2 : Int32) (v3 : Int32) (v4 : Int32) (v5 : Int32) (v6 : Int32) (σ : Sg) (r : Int32 × Sg), k100 v1 v2 v3 v4 v5 v6 σ = some r → Gp E RX9 cX9_run (some .int) 8 (2) SH0 r.2 (some (.int r.1)) σ 100 [(0, .ref 149), (1, .int v1), (2, .int v2), (3, .int v3), (4, .int v4), (5, .int v5), (6, .int v6)] []) : ∀ (n : Nat) (v1 : Int32) (v2 : Int32) (v3 : Int32) (v4 : Int32) (v5 : Int32) (v6 : Int32) (v7 : Int32) (σ : Sg) (r : Int32 × Sg), X9_run_l62 N k100 n v1 v2 v3 v4 v5 v6 v7 σ = some r → Gp E RX9 cX9_run (some .int) 8 (2) SH0 r.2 (some (.int r.1)) σ 62 [(0, .ref 149), (1, .int v1), (2, .int v2), (3, .int v3), (4, .int v4), (5, .int v5), (6, .int v6), (7, .int v7)] [] := by
  intro n
  induction n with
  | zero => intro v1 v2 v3 v4 v5 v6 v7 σ r h; cases h
  | succ n ih =>
    intro v1 v2 v3 v4 v5 v6 v7 σ r h Z C hE
    unfold X9_run_l62 at h
    refine r_iload (pc' := 64) C dX9_run_62 rfl 7 rfl ?_
    refine r_iconst (pc' := 65) C dX9_run_64 rfl kc_3 ?_
    refine r_icmp_ge (tgt := 100) (pc' := 68) C dX9_run_65 rfl rfl (fun c12 => ?_) (fun c12 => ?_)
    · rw [if_pos c12] at h
      refine r_sub [0, 1, 2, 3, 4, 5, 6] rfl ?_
      exact hk100 _ _ _ _ _ _ _ _ h Z C hE
    · rw [if_neg c12] at h
      refine r_iload (pc' := 70) C dX9_run_68 rfl 5 rfl ?_
      refine r_if_ne (tgt := 87) (pc' := 73) C dX9_run_70 rfl rfl (fun c13 => ?_) (fun c13 => ?_)
      · rw [if_neg c13] at h
        refine r_iconst (pc' := 88) C dX9_run_87 rfl kc_1 ?_
        refine r_goto (tgt := 92) C dX9_run_88 rfl ?_
        refine r_istore (pc' := 94) (lv2 := [(5, .int 1), (0, .ref 149), (1, .int v1), (2, .int v2), (3, .int v3), (4, .int v4), (6, .int v6), (7, .int v7)]) C dX9_run_92 rfl (Nat.le_of_ble_eq_true rfl) rfl ?_
        refine r_iinc (pc' := 97) (v := v7 + 1) (lv2 := [(7, .int (v7 + 1)), (5, .int 1), (0, .ref 149), (1, .int v1), (2, .int v2), (3, .int v3), (4, .int v4), (6, .int v6)]) C dX9_run_94 rfl 7 rfl rfl (Nat.le_of_ble_eq_true rfl) rfl ?_
        refine r_goto (tgt := 62) C dX9_run_97 rfl ?_
        refine r_sub [2, 3, 4, 5, 6, 1, 7, 0] rfl ?_
        exact ih _ _ _ _ _ _ _ _ _ h Z C hE
      · rw [if_pos c13] at h
        refine r_aload_n (pc' := 74) C dX9_run_73 rfl 0 rfl ?_
        refine r_iload_n (pc' := 75) C dX9_run_74 rfl 3 rfl ?_
        refine r_iload (pc' := 77) C dX9_run_75 rfl 4 rfl ?_
        refine r_iload (pc' := 79) C dX9_run_77 rfl 6 rfl ?_
        refine r_iload (pc' := 81) C dX9_run_79 rfl 7 rfl ?_
        obtain ⟨r14, e15, h⟩ := bd h
        refine r_cV1 (pc' := 84) C (X9_isGood_ok  e15) mlX9_406 ceX9_isGood cvX9_isGood sh_149 rfl rfl rfl (Nat.le_of_ble_eq_true rfl) rfl (Nat.le_of_ble_eq_true rfl) dX9_run_81 rfl (kk := ?_)
        refine r_if_eq (tgt := 91) (pc' := 87) C dX9_run_84 rfl rfl (fun c16 => ?_) (fun c16 => ?_)
        · rw [if_pos c16] at h
          refine r_iconst (pc' := 92) C dX9_run_91 rfl kc_0 ?_
          refine r_istore (pc' := 94) (lv2 := [(5, .int 0), (0, .ref 149), (1, .int v1), (2, .int v2), (3, .int v3), (4, .int v4), (6, .int v6), (7, .int v7)]) C dX9_run_92 rfl (Nat.le_of_ble_eq_true rfl) rfl ?_
          refine r_iinc (pc' := 97) (v := v7 + 1) (lv2 := [(7, .int (v7 + 1)), (5, .int 0), (0, .ref 149), (1, .int v1), (2, .int v2), (3, .int v3), (4, .int v4), (6, .int v6)]) C dX9_run_94 rfl 7 rfl rfl (Nat.le_of_ble_eq_true rfl) rfl ?_
          refine r_goto (tgt := 62) C dX9_run_97 rfl ?_
          refine r_sub [2, 3, 4, 5, 6, 1, 7, 0] rfl ?_
          exact ih _ _ _ _ _ _ _ _ _ h Z C hE
        · rw [if_neg c16] at h
          refine r_iconst (pc' := 88) C dX9_run_87 rfl kc_1 ?_
          refine r_goto (tgt := 92) C dX9_run_88 rfl ?_
          refine r_istore (pc' := 94) (lv2 := [(5, .int 1), (0, .ref 149), (1, .int v1), (2, .int v2), (3, .int v3), (4, .int v4), (6, .int v6), (7, .int v7)]) C dX9_run_92 rfl (Nat.le_of_ble_eq_true rfl) rfl ?_
          refine r_iinc (pc' := 97) (v := v7 + 1) (lv2 := [(7, .int (v7 + 1)), (5, .int 1), (0, .ref 149), (1, .int v1), (2, .int v2), (3, .int v3), (4, .int v4), (6, .int v6)]) C dX9_run_94 rfl 7 rfl rfl (Nat.le_of_ble_eq_true rfl) rfl ?_
          refine r_goto (tgt := 62) C dX9_run_97 rfl ?_
          refine r_sub [2, 3, 4, 5, 6, 1, 7, 0] rfl ?_
          exact ih _ _ _ _ _ _ _ _ _ h Z C hE
def X9_run_j100 (N : Nat)  (kr : Int32 → Int32 → Int32 → Int32 → Int32 → Int32 → Sg → Option (Int32 × Sg)) (v1 : Int32) (v2 : Int32) (v3 : Int32) (v4 : Int32) (v5 : Int32) (v6 : Int32) (σ : Sg) : Option (Int32 × Sg) :=
  kr v1 v2 v3 v4 v5 (v6 + 1) σ
set_option maxRecDepth 100000 in
set_option maxHeartbeats 4000000 in
theorem X9_run_j100_ok {E : Ev}  {N : Nat} {kr : Int32 → Int32 → Int32 → Int32 → Int32 → Int32 → Sg → Option (Int32 × Sg)}  (hkr : ∀ (v1 : Int32) (v2 : Int32) (v3 : Int32) (v4 : Int32) (v5 : Int32) (v6 : Int32) (σ : Sg) (r : Int32 × Sg), kr v1 v2 v3 v4 v5 v6 σ = some r → Gp E RX9 cX9_run (some .int) 8 (2) SH0 r.2 (some (.int r.1)) σ 53 [(0, .ref 149), (1, .int v1), (2, .int v2), (3, .int v3), (4, .int v4), (5, .int v5), (6, .int v6)] []) {v1 : Int32} {v2 : Int32} {v3 : Int32} {v4 : Int32} {v5 : Int32} {v6 : Int32} {σ : Sg} {r : Int32 × Sg} (h : X9_run_j100 N  kr v1 v2 v3 v4 v5 v6 σ = some r) : Gp E RX9 cX9_run (some .int) 8 (2) SH0 r.2 (some (.int r.1)) σ 100 [(0, .ref 149), (1, .int v1), (2, .int v2), (3, .int v3), (4, .int v4), (5, .int v5), (6, .int v6)] [] := by
  intro Z C hE
  unfold X9_run_j100 at h
  refine r_iinc (pc' := 103) (v := v6 + 1) (lv2 := [(6, .int (v6 + 1)), (0, .ref 149), (1, .int v1), (2, .int v2), (3, .int v3), (4, .int v4), (5, .int v5)]) C dX9_run_100 rfl 6 rfl rfl (Nat.le_of_ble_eq_true rfl) rfl ?_
  refine r_goto (tgt := 53) C dX9_run_103 rfl ?_
  refine r_sub [1, 2, 3, 4, 5, 6, 0] rfl ?_
  exact hkr _ _ _ _ _ _ _ _ h Z C hE
def X9_run_l53 (N : Nat)  (k106 : Int32 → Int32 → Int32 → Int32 → Int32 → Sg → Option (Int32 × Sg))  : Nat → Int32 → Int32 → Int32 → Int32 → Int32 → Int32 → Sg → Option (Int32 × Sg)
  | 0, _, _, _, _, _, _, _ => none
  | n + 1, v1, v2, v3, v4, v5, v6, σ =>
    if 3 ≤ v6 then (k106 v1 v2 v3 v4 v5 σ) else (X9_run_l62 N (fun v1 v2 v3 v4 v5 v6 σ => X9_run_j100 N (fun v1 v2 v3 v4 v5 v6 σ => X9_run_l53 N k106 n v1 v2 v3 v4 v5 v6 σ) v1 v2 v3 v4 v5 v6 σ) N v1 v2 v3 v4 v5 v6 0 σ)
set_option maxRecDepth 100000 in
set_option maxHeartbeats 4000000 in
theorem X9_run_l53_ok {E : Ev}  {N : Nat} {k106 : Int32 → Int32 → Int32 → Int32 → Int32 → Sg → Option (Int32 × Sg)}  (hk106 : ∀ (v1 : Int32) (v2 : Int32) (v3 : Int32) (v4 : Int32) (v5 : Int32) (σ : Sg) (r : Int32 × Sg), k106 v1 v2 v3 v4 v5 σ = some r → Gp E RX9 cX9_run (some .int) 8 (2) SH0 r.2 (some (.int r.1)) σ 106 [(0, .ref 149), (1, .int v1), (2, .int v2), (3, .int v3), (4, .int v4), (5, .int v5)] []) : ∀ (n : Nat) (v1 : Int32) (v2 : Int32) (v3 : Int32) (v4 : Int32) (v5 : Int32) (v6 : Int32) (σ : Sg) (r : Int32 × Sg), X9_run_l53 N k106 n v1 v2 v3 v4 v5 v6 σ = some r → Gp E RX9 cX9_run (some .int) 8 (2) SH0 r.2 (some (.int r.1)) σ 53 [(0, .ref 149), (1, .int v1), (2, .int v2), (3, .int v3), (4, .int v4), (5, .int v5), (6, .int v6)] [] := by
  intro n
  induction n with
  | zero => intro v1 v2 v3 v4 v5 v6 σ r h; cases h
  | succ n ih =>
    intro v1 v2 v3 v4 v5 v6 σ r h Z C hE
    unfold X9_run_l53 at h
    refine r_iload (pc' := 55) C dX9_run_53 rfl 6 rfl ?_
    refine r_iconst (pc' := 56) C dX9_run_55 rfl kc_3 ?_
    refine r_icmp_ge (tgt := 106) (pc' := 59) C dX9_run_56 rfl rfl (fun c11 => ?_) (fun c11 => ?_)
    · rw [if_pos c11] at h
      refine r_sub [0, 1, 2, 3, 4, 5] rfl ?_
      exact hk106 _ _ _ _ _ _ _ h Z C hE
    · rw [if_neg c11] at h
      refine r_iconst (pc' := 60) C dX9_run_59 rfl kc_0 ?_
      refine r_istore (pc' := 62) (lv2 := [(7, .int 0), (0, .ref 149), (1, .int v1), (2, .int v2), (3, .int v3), (4, .int v4), (5, .int v5), (6, .int v6)]) C dX9_run_60 rfl (Nat.le_of_ble_eq_true rfl) rfl ?_
      refine r_sub [1, 2, 3, 4, 5, 6, 7, 0] rfl ?_
      exact X9_run_l62_ok  (fun _ _ _ _ _ _ _ _ h Z C hE => by exact X9_run_j100_ok  ih h Z C hE) N _ _ _ _ _ _ _ _ _ h Z C hE
def X9_run_j106 (N : Nat)  (kr : Int32 → Int32 → Int32 → Int32 → Sg → Option (Int32 × Sg)) (v1 : Int32) (v2 : Int32) (v3 : Int32) (v4 : Int32) (v5 : Int32) (σ : Sg) : Option (Int32 × Sg) :=
  (X9_pile N v3 v4 σ).bind fun r17 => (if inb r17 441 = true then bnS (wi σ 175 r17.toNatClampNeg (vp_nar .boolean v5)) fun σ20 => kr v1 v2 v3 (v4 + 1) σ20 else none)
set_option maxRecDepth 100000 in
set_option maxHeartbeats 4000000 in
theorem X9_run_j106_ok {E : Ev}  {N : Nat} {kr : Int32 → Int32 → Int32 → Int32 → Sg → Option (Int32 × Sg)}  (hkr : ∀ (v1 : Int32) (v2 : Int32) (v3 : Int32) (v4 : Int32) (σ : Sg) (r : Int32 × Sg), kr v1 v2 v3 v4 σ = some r → Gp E RX9 cX9_run (some .int) 8 (2) SH0 r.2 (some (.int r.1)) σ 41 [(0, .ref 149), (1, .int v1), (2, .int v2), (3, .int v3), (4, .int v4)] []) {v1 : Int32} {v2 : Int32} {v3 : Int32} {v4 : Int32} {v5 : Int32} {σ : Sg} {r : Int32 × Sg} (h : X9_run_j106 N  kr v1 v2 v3 v4 v5 σ = some r) : Gp E RX9 cX9_run (some .int) 8 (2) SH0 r.2 (some (.int r.1)) σ 106 [(0, .ref 149), (1, .int v1), (2, .int v2), (3, .int v3), (4, .int v4), (5, .int v5)] [] := by
  intro Z C hE
  unfold X9_run_j106 at h
  refine r_aload_n (pc' := 107) C dX9_run_106 rfl 0 rfl ?_
  refine r_getR (pc' := 110) C flX9_100 sh_149 rfl dX9_run_107 rfl ?_
  refine r_iload_n (pc' := 111) C dX9_run_110 rfl 3 rfl ?_
  refine r_iload (pc' := 113) C dX9_run_111 rfl 4 rfl ?_
  obtain ⟨r17, e18, h⟩ := bd h
  refine r_cS1 (pc' := 116) C (X9_pile_ok  e18) mlX9_403 ceX9_pile csX9_pile rfl (Nat.le_of_ble_eq_true rfl) rfl (Nat.le_of_ble_eq_true rfl) dX9_run_113 rfl (kk := ?_)
  refine r_iload (pc' := 118) C dX9_run_116 rfl 5 rfl ?_
  obtain ⟨q19, h⟩ := ck h
  obtain ⟨σ20, e21, h⟩ := bs h
  refine r_zast (pc' := 119) (σ1 := σ20) C sh_175 (vin q19) dX9_run_118 rfl e21 ?_
  refine r_iinc (pc' := 122) (v := v4 + 1) (lv2 := [(4, .int (v4 + 1)), (0, .ref 149), (1, .int v1), (2, .int v2), (3, .int v3), (5, .int v5)]) C dX9_run_119 rfl 4 rfl rfl (Nat.le_of_ble_eq_true rfl) rfl ?_
  refine r_goto (tgt := 41) C dX9_run_122 rfl ?_
  refine r_sub [1, 2, 3, 4, 0] rfl ?_
  exact hkr _ _ _ _ _ _ h Z C hE
def X9_run_l41 (N : Nat)  (k125 : Int32 → Int32 → Int32 → Sg → Option (Int32 × Sg))  : Nat → Int32 → Int32 → Int32 → Int32 → Sg → Option (Int32 × Sg)
  | 0, _, _, _, _, _ => none
  | n + 1, v1, v2, v3, v4, σ =>
    if v2 < v4 then (k125 v1 v2 v3 σ) else (X9_run_l53 N (fun v1 v2 v3 v4 v5 σ => X9_run_j106 N (fun v1 v2 v3 v4 σ => X9_run_l41 N k125 n v1 v2 v3 v4 σ) v1 v2 v3 v4 v5 σ) N v1 v2 v3 v4 0 0 σ)
set_option maxRecDepth 100000 in
set_option maxHeartbeats 4000000 in
theorem X9_run_l41_ok {E : Ev}  {N : Nat} {k125 : Int32 → Int32 → Int32 → Sg → Option (Int32 × Sg)}  (hk125 : ∀ (v1 : Int32) (v2 : Int32) (v3 : Int32) (σ : Sg) (r : Int32 × Sg), k125 v1 v2 v3 σ = some r → Gp E RX9 cX9_run (some .int) 8 (2) SH0 r.2 (some (.int r.1)) σ 125 [(0, .ref 149), (1, .int v1), (2, .int v2), (3, .int v3)] []) : ∀ (n : Nat) (v1 : Int32) (v2 : Int32) (v3 : Int32) (v4 : Int32) (σ : Sg) (r : Int32 × Sg), X9_run_l41 N k125 n v1 v2 v3 v4 σ = some r → Gp E RX9 cX9_run (some .int) 8 (2) SH0 r.2 (some (.int r.1)) σ 41 [(0, .ref 149), (1, .int v1), (2, .int v2), (3, .int v3), (4, .int v4)] [] := by
  intro n
  induction n with
  | zero => intro v1 v2 v3 v4 σ r h; cases h
  | succ n ih =>
    intro v1 v2 v3 v4 σ r h Z C hE
    unfold X9_run_l41 at h
    refine r_iload (pc' := 43) C dX9_run_41 rfl 4 rfl ?_
    refine r_iload_n (pc' := 44) C dX9_run_43 rfl 2 rfl ?_
    refine r_icmp_gt (tgt := 125) (pc' := 47) C dX9_run_44 rfl rfl (fun c10 => ?_) (fun c10 => ?_)
    · rw [if_pos c10] at h
      refine r_sub [0, 1, 2, 3] rfl ?_
      exact hk125 _ _ _ _ _ h Z C hE
    · rw [if_neg c10] at h
      refine r_iconst (pc' := 48) C dX9_run_47 rfl kc_0 ?_
      refine r_istore (pc' := 50) (lv2 := [(5, .int 0), (0, .ref 149), (1, .int v1), (2, .int v2), (3, .int v3), (4, .int v4)]) C dX9_run_48 rfl (Nat.le_of_ble_eq_true rfl) rfl ?_
      refine r_iconst (pc' := 51) C dX9_run_50 rfl kc_0 ?_
      refine r_istore (pc' := 53) (lv2 := [(6, .int 0), (5, .int 0), (0, .ref 149), (1, .int v1), (2, .int v2), (3, .int v3), (4, .int v4)]) C dX9_run_51 rfl (Nat.le_of_ble_eq_true rfl) rfl ?_
      refine r_sub [2, 3, 4, 5, 6, 1, 0] rfl ?_
      exact X9_run_l53_ok  (fun _ _ _ _ _ _ _ h Z C hE => by exact X9_run_j106_ok  ih h Z C hE) N _ _ _ _ _ _ _ _ h Z C hE
def X9_run_j125 (N : Nat)  (kr : Int32 → Int32 → Int32 → Sg → Option (Int32 × Sg)) (v1 : Int32) (v2 : Int32) (v3 : Int32) (σ : Sg) : Option (Int32 × Sg) :=
  kr v1 v2 (v3 + 1) σ
set_option maxRecDepth 100000 in
set_option maxHeartbeats 4000000 in
theorem X9_run_j125_ok {E : Ev}  {N : Nat} {kr : Int32 → Int32 → Int32 → Sg → Option (Int32 × Sg)}  (hkr : ∀ (v1 : Int32) (v2 : Int32) (v3 : Int32) (σ : Sg) (r : Int32 × Sg), kr v1 v2 v3 σ = some r → Gp E RX9 cX9_run (some .int) 8 (2) SH0 r.2 (some (.int r.1)) σ 33 [(0, .ref 149), (1, .int v1), (2, .int v2), (3, .int v3)] []) {v1 : Int32} {v2 : Int32} {v3 : Int32} {σ : Sg} {r : Int32 × Sg} (h : X9_run_j125 N  kr v1 v2 v3 σ = some r) : Gp E RX9 cX9_run (some .int) 8 (2) SH0 r.2 (some (.int r.1)) σ 125 [(0, .ref 149), (1, .int v1), (2, .int v2), (3, .int v3)] [] := by
  intro Z C hE
  unfold X9_run_j125 at h
  refine r_iinc (pc' := 128) (v := v3 + 1) (lv2 := [(3, .int (v3 + 1)), (0, .ref 149), (1, .int v1), (2, .int v2)]) C dX9_run_125 rfl 3 rfl rfl (Nat.le_of_ble_eq_true rfl) rfl ?_
  refine r_goto (tgt := 33) C dX9_run_128 rfl ?_
  refine r_sub [1, 2, 3, 0] rfl ?_
  exact hkr _ _ _ _ _ h Z C hE
def X9_run_l33 (N : Nat)  (k131 : Int32 → Int32 → Sg → Option (Int32 × Sg))  : Nat → Int32 → Int32 → Int32 → Sg → Option (Int32 × Sg)
  | 0, _, _, _, _ => none
  | n + 1, v1, v2, v3, σ =>
    if v1 < v3 then (k131 v1 v2 σ) else (X9_run_l41 N (fun v1 v2 v3 σ => X9_run_j125 N (fun v1 v2 v3 σ => X9_run_l33 N k131 n v1 v2 v3 σ) v1 v2 v3 σ) N v1 v2 v3 0 σ)
set_option maxRecDepth 100000 in
set_option maxHeartbeats 4000000 in
theorem X9_run_l33_ok {E : Ev}  {N : Nat} {k131 : Int32 → Int32 → Sg → Option (Int32 × Sg)}  (hk131 : ∀ (v1 : Int32) (v2 : Int32) (σ : Sg) (r : Int32 × Sg), k131 v1 v2 σ = some r → Gp E RX9 cX9_run (some .int) 8 (2) SH0 r.2 (some (.int r.1)) σ 131 [(0, .ref 149), (1, .int v1), (2, .int v2)] []) : ∀ (n : Nat) (v1 : Int32) (v2 : Int32) (v3 : Int32) (σ : Sg) (r : Int32 × Sg), X9_run_l33 N k131 n v1 v2 v3 σ = some r → Gp E RX9 cX9_run (some .int) 8 (2) SH0 r.2 (some (.int r.1)) σ 33 [(0, .ref 149), (1, .int v1), (2, .int v2), (3, .int v3)] [] := by
  intro n
  induction n with
  | zero => intro v1 v2 v3 σ r h; cases h
  | succ n ih =>
    intro v1 v2 v3 σ r h Z C hE
    unfold X9_run_l33 at h
    refine r_iload_n (pc' := 34) C dX9_run_33 rfl 3 rfl ?_
    refine r_iload_n (pc' := 35) C dX9_run_34 rfl 1 rfl ?_
    refine r_icmp_gt (tgt := 131) (pc' := 38) C dX9_run_35 rfl rfl (fun c9 => ?_) (fun c9 => ?_)
    · rw [if_pos c9] at h
      refine r_sub [0, 1, 2] rfl ?_
      exact hk131 _ _ _ _ h Z C hE
    · rw [if_neg c9] at h
      refine r_iconst (pc' := 39) C dX9_run_38 rfl kc_0 ?_
      refine r_istore (pc' := 41) (lv2 := [(4, .int 0), (0, .ref 149), (1, .int v1), (2, .int v2), (3, .int v3)]) C dX9_run_39 rfl (Nat.le_of_ble_eq_true rfl) rfl ?_
      refine r_sub [1, 2, 3, 4, 0] rfl ?_
      exact X9_run_l41_ok  (fun _ _ _ _ _ h Z C hE => by exact X9_run_j125_ok  ih h Z C hE) N _ _ _ _ _ _ h Z C hE
def X9_run_l146 (N : Nat)  (k190 : Int32 → Int32 → Int32 → Sg → Option (Int32 × Sg))  : Nat → Int32 → Int32 → Int32 → Int32 → Sg → Option (Int32 × Sg)
  | 0, _, _, _, _, _ => none
  | n + 1, v1, v2, v3, v4, σ =>
    if 3 ≤ v4 then (k190 v1 v2 v3 σ) else (if (gi σ 149 1) = 0 then ((X9_isGood N v1 v2 v3 v4 σ).bind fun r27 => (if r27 = 0 then (X9_run_l146 N k190 n v1 v2 v3 (v4 + 1) σ) else ((X9_enters N v3.toInt64 σ).bind fun r30 => ((X9_enters N v4.toInt64 r30).bind fun r32 => (X9_run_l146 N k190 n v1 v2 v3 (v4 + 1) r32))))) else (X9_run_l146 N k190 n v1 v2 v3 (v4 + 1) σ))
set_option maxRecDepth 100000 in
set_option maxHeartbeats 4000000 in
theorem X9_run_l146_ok {E : Ev}  {N : Nat} {k190 : Int32 → Int32 → Int32 → Sg → Option (Int32 × Sg)}  (hk190 : ∀ (v1 : Int32) (v2 : Int32) (v3 : Int32) (σ : Sg) (r : Int32 × Sg), k190 v1 v2 v3 σ = some r → Gp E RX9 cX9_run (some .int) 8 (2) SH0 r.2 (some (.int r.1)) σ 190 [(0, .ref 149), (1, .int v1), (2, .int v2), (3, .int v3)] []) : ∀ (n : Nat) (v1 : Int32) (v2 : Int32) (v3 : Int32) (v4 : Int32) (σ : Sg) (r : Int32 × Sg), X9_run_l146 N k190 n v1 v2 v3 v4 σ = some r → Gp E RX9 cX9_run (some .int) 8 (2) SH0 r.2 (some (.int r.1)) σ 146 [(0, .ref 149), (1, .int v1), (2, .int v2), (3, .int v3), (4, .int v4)] [] := by
  intro n
  induction n with
  | zero => intro v1 v2 v3 v4 σ r h; cases h
  | succ n ih =>
    intro v1 v2 v3 v4 σ r h Z C hE
    unfold X9_run_l146 at h
    refine r_iload (pc' := 148) C dX9_run_146 rfl 4 rfl ?_
    refine r_iconst (pc' := 149) C dX9_run_148 rfl kc_3 ?_
    refine r_icmp_ge (tgt := 190) (pc' := 152) C dX9_run_149 rfl rfl (fun c25 => ?_) (fun c25 => ?_)
    · rw [if_pos c25] at h
      refine r_sub [0, 1, 2, 3] rfl ?_
      exact hk190 _ _ _ _ _ h Z C hE
    · rw [if_neg c25] at h
      refine r_aload_n (pc' := 153) C dX9_run_152 rfl 0 rfl ?_
      refine r_getI (pc' := 156) C flX9_15 sh_149 rfl dX9_run_153 rfl ?_
      refine r_if_ne (tgt := 184) (pc' := 159) C dX9_run_156 rfl rfl (fun c26 => ?_) (fun c26 => ?_)
      · rw [if_neg c26] at h
        refine r_iinc (pc' := 187) (v := v4 + 1) (lv2 := [(4, .int (v4 + 1)), (0, .ref 149), (1, .int v1), (2, .int v2), (3, .int v3)]) C dX9_run_184 rfl 4 rfl rfl (Nat.le_of_ble_eq_true rfl) rfl ?_
        refine r_goto (tgt := 146) C dX9_run_187 rfl ?_
        refine r_sub [1, 2, 3, 4, 0] rfl ?_
        exact ih _ _ _ _ _ _ h Z C hE
      · rw [if_pos c26] at h
        refine r_aload_n (pc' := 160) C dX9_run_159 rfl 0 rfl ?_
        refine r_iload_n (pc' := 161) C dX9_run_160 rfl 1 rfl ?_
        refine r_iload_n (pc' := 162) C dX9_run_161 rfl 2 rfl ?_
        refine r_iload_n (pc' := 163) C dX9_run_162 rfl 3 rfl ?_
        refine r_iload (pc' := 165) C dX9_run_163 rfl 4 rfl ?_
        obtain ⟨r27, e28, h⟩ := bd h
        refine r_cV1 (pc' := 168) C (X9_isGood_ok  e28) mlX9_406 ceX9_isGood cvX9_isGood sh_149 rfl rfl rfl (Nat.le_of_ble_eq_true rfl) rfl (Nat.le_of_ble_eq_true rfl) dX9_run_165 rfl (kk := ?_)
        refine r_if_eq (tgt := 184) (pc' := 171) C dX9_run_168 rfl rfl (fun c29 => ?_) (fun c29 => ?_)
        · rw [if_pos c29] at h
          refine r_iinc (pc' := 187) (v := v4 + 1) (lv2 := [(4, .int (v4 + 1)), (0, .ref 149), (1, .int v1), (2, .int v2), (3, .int v3)]) C dX9_run_184 rfl 4 rfl rfl (Nat.le_of_ble_eq_true rfl) rfl ?_
          refine r_goto (tgt := 146) C dX9_run_187 rfl ?_
          refine r_sub [1, 2, 3, 4, 0] rfl ?_
          exact ih _ _ _ _ _ _ h Z C hE
        · rw [if_neg c29] at h
          refine r_aload_n (pc' := 172) C dX9_run_171 rfl 0 rfl ?_
          refine r_iload_n (pc' := 173) C dX9_run_172 rfl 3 rfl ?_
          refine r_i2l (pc' := 174) C dX9_run_173 rfl rfl ?_
          obtain ⟨r30, e31, h⟩ := bd h
          refine r_cV0 (pc' := 177) C (X9_enters_ok  e31) mlX9_327 ceX9_enters cvX9_enters sh_149 rfl rfl rfl (Nat.le_of_ble_eq_true rfl) rfl (Nat.le_of_ble_eq_true rfl) dX9_run_174 rfl (kk := ?_)
          refine r_aload_n (pc' := 178) C dX9_run_177 rfl 0 rfl ?_
          refine r_iload (pc' := 180) C dX9_run_178 rfl 4 rfl ?_
          refine r_i2l (pc' := 181) C dX9_run_180 rfl rfl ?_
          obtain ⟨r32, e33, h⟩ := bd h
          refine r_cV0 (pc' := 184) C (X9_enters_ok  e33) mlX9_327 ceX9_enters cvX9_enters sh_149 rfl rfl rfl (Nat.le_of_ble_eq_true rfl) rfl (Nat.le_of_ble_eq_true rfl) dX9_run_181 rfl (kk := ?_)
          refine r_iinc (pc' := 187) (v := v4 + 1) (lv2 := [(4, .int (v4 + 1)), (0, .ref 149), (1, .int v1), (2, .int v2), (3, .int v3)]) C dX9_run_184 rfl 4 rfl rfl (Nat.le_of_ble_eq_true rfl) rfl ?_
          refine r_goto (tgt := 146) C dX9_run_187 rfl ?_
          refine r_sub [1, 2, 3, 4, 0] rfl ?_
          exact ih _ _ _ _ _ _ h Z C hE
def X9_run_j190 (N : Nat)  (kr : Int32 → Int32 → Int32 → Sg → Option (Int32 × Sg)) (v1 : Int32) (v2 : Int32) (v3 : Int32) (σ : Sg) : Option (Int32 × Sg) :=
  kr v1 v2 (v3 + 1) σ
set_option maxRecDepth 100000 in
set_option maxHeartbeats 4000000 in
theorem X9_run_j190_ok {E : Ev}  {N : Nat} {kr : Int32 → Int32 → Int32 → Sg → Option (Int32 × Sg)}  (hkr : ∀ (v1 : Int32) (v2 : Int32) (v3 : Int32) (σ : Sg) (r : Int32 × Sg), kr v1 v2 v3 σ = some r → Gp E RX9 cX9_run (some .int) 8 (2) SH0 r.2 (some (.int r.1)) σ 138 [(0, .ref 149), (1, .int v1), (2, .int v2), (3, .int v3)] []) {v1 : Int32} {v2 : Int32} {v3 : Int32} {σ : Sg} {r : Int32 × Sg} (h : X9_run_j190 N  kr v1 v2 v3 σ = some r) : Gp E RX9 cX9_run (some .int) 8 (2) SH0 r.2 (some (.int r.1)) σ 190 [(0, .ref 149), (1, .int v1), (2, .int v2), (3, .int v3)] [] := by
  intro Z C hE
  unfold X9_run_j190 at h
  refine r_iinc (pc' := 193) (v := v3 + 1) (lv2 := [(3, .int (v3 + 1)), (0, .ref 149), (1, .int v1), (2, .int v2)]) C dX9_run_190 rfl 3 rfl rfl (Nat.le_of_ble_eq_true rfl) rfl ?_
  refine r_goto (tgt := 138) C dX9_run_193 rfl ?_
  refine r_sub [1, 2, 3, 0] rfl ?_
  exact hkr _ _ _ _ _ h Z C hE
def X9_run_l138 (N : Nat)  (k196 : Sg → Option (Int32 × Sg))  : Nat → Int32 → Int32 → Int32 → Sg → Option (Int32 × Sg)
  | 0, _, _, _, _ => none
  | n + 1, v1, v2, v3, σ =>
    if 3 ≤ v3 then (k196 σ) else (X9_run_l146 N (fun v1 v2 v3 σ => X9_run_j190 N (fun v1 v2 v3 σ => X9_run_l138 N k196 n v1 v2 v3 σ) v1 v2 v3 σ) N v1 v2 v3 0 σ)
set_option maxRecDepth 100000 in
set_option maxHeartbeats 4000000 in
theorem X9_run_l138_ok {E : Ev}  {N : Nat} {k196 : Sg → Option (Int32 × Sg)}  (hk196 : ∀ (σ : Sg) (r : Int32 × Sg), k196 σ = some r → Gp E RX9 cX9_run (some .int) 8 (2) SH0 r.2 (some (.int r.1)) σ 196 [(0, .ref 149)] []) : ∀ (n : Nat) (v1 : Int32) (v2 : Int32) (v3 : Int32) (σ : Sg) (r : Int32 × Sg), X9_run_l138 N k196 n v1 v2 v3 σ = some r → Gp E RX9 cX9_run (some .int) 8 (2) SH0 r.2 (some (.int r.1)) σ 138 [(0, .ref 149), (1, .int v1), (2, .int v2), (3, .int v3)] [] := by
  intro n
  induction n with
  | zero => intro v1 v2 v3 σ r h; cases h
  | succ n ih =>
    intro v1 v2 v3 σ r h Z C hE
    unfold X9_run_l138 at h
    refine r_iload_n (pc' := 139) C dX9_run_138 rfl 3 rfl ?_
    refine r_iconst (pc' := 140) C dX9_run_139 rfl kc_3 ?_
    refine r_icmp_ge (tgt := 196) (pc' := 143) C dX9_run_140 rfl rfl (fun c24 => ?_) (fun c24 => ?_)
    · rw [if_pos c24] at h
      refine r_sub [0] rfl ?_
      exact hk196 _ _ h Z C hE
    · rw [if_neg c24] at h
      refine r_iconst (pc' := 144) C dX9_run_143 rfl kc_0 ?_
      refine r_istore (pc' := 146) (lv2 := [(4, .int 0), (0, .ref 149), (1, .int v1), (2, .int v2), (3, .int v3)]) C dX9_run_144 rfl (Nat.le_of_ble_eq_true rfl) rfl ?_
      refine r_sub [1, 2, 3, 4, 0] rfl ?_
      exact X9_run_l146_ok  (fun _ _ _ _ _ h Z C hE => by exact X9_run_j190_ok  ih h Z C hE) N _ _ _ _ _ _ h Z C hE
def X9_run_j196 (N : Nat)    (σ : Sg) : Option (Int32 × Sg) :=
  if (gi σ 149 1) ≤ 0 then ((X9_flag N 0 σ).bind fun r35 => (some (r35, σ))) else ((X9_flag N 1 σ).bind fun r37 => (some (r37, σ)))
set_option maxRecDepth 100000 in
set_option maxHeartbeats 4000000 in
theorem X9_run_j196_ok {E : Ev}  {N : Nat}     {σ : Sg} {r : Int32 × Sg} (h : X9_run_j196 N    σ = some r) : Gp E RX9 cX9_run (some .int) 8 (2) SH0 r.2 (some (.int r.1)) σ 196 [(0, .ref 149)] [] := by
  intro Z C hE
  unfold X9_run_j196 at h
  refine r_aload_n (pc' := 197) C dX9_run_196 rfl 0 rfl ?_
  refine r_getI (pc' := 200) C flX9_15 sh_149 rfl dX9_run_197 rfl ?_
  refine r_if_le (tgt := 207) (pc' := 203) C dX9_run_200 rfl rfl (fun c34 => ?_) (fun c34 => ?_)
  · rw [if_pos c34] at h
    refine r_iconst (pc' := 208) C dX9_run_207 rfl kc_0 ?_
    obtain ⟨r35, e36, h⟩ := bd h
    refine r_cS1 (pc' := 211) C (X9_flag_ok  e36) mlX9_159 ceX9_flag csX9_flag rfl (Nat.le_of_ble_eq_true rfl) rfl (Nat.le_of_ble_eq_true rfl) dX9_run_208 rfl (kk := ?_)
    have h := Option.some.inj h
    subst h
    exact r_ret C rfl dX9_run_211 hE
  · rw [if_neg c34] at h
    refine r_iconst (pc' := 204) C dX9_run_203 rfl kc_1 ?_
    refine r_goto (tgt := 208) C dX9_run_204 rfl ?_
    obtain ⟨r37, e38, h⟩ := bd h
    refine r_cS1 (pc' := 211) C (X9_flag_ok  e38) mlX9_159 ceX9_flag csX9_flag rfl (Nat.le_of_ble_eq_true rfl) rfl (Nat.le_of_ble_eq_true rfl) dX9_run_208 rfl (kk := ?_)
    have h := Option.some.inj h
    subst h
    exact r_ret C rfl dX9_run_211 hE
def X9_run_j131 (N : Nat)   (v1 : Int32) (v2 : Int32) (σ : Sg) : Option (Int32 × Sg) :=
  bnS (wi σ 149 1 0) fun σ22 => X9_run_l138 N (fun σ => X9_run_j196 N σ) N v1 v2 0 σ22
set_option maxRecDepth 100000 in
set_option maxHeartbeats 4000000 in
theorem X9_run_j131_ok {E : Ev}  {N : Nat}    {v1 : Int32} {v2 : Int32} {σ : Sg} {r : Int32 × Sg} (h : X9_run_j131 N   v1 v2 σ = some r) : Gp E RX9 cX9_run (some .int) 8 (2) SH0 r.2 (some (.int r.1)) σ 131 [(0, .ref 149), (1, .int v1), (2, .int v2)] [] := by
  intro Z C hE
  unfold X9_run_j131 at h
  refine r_aload_n (pc' := 132) C dX9_run_131 rfl 0 rfl ?_
  refine r_iconst (pc' := 133) C dX9_run_132 rfl kc_0 ?_
  obtain ⟨σ22, e23, h⟩ := bs h
  refine r_putI (pc' := 136) (σ1 := σ22) C fpX9_15 sh_149 rfl rfl rfl dX9_run_133 rfl e23 ?_
  refine r_iconst (pc' := 137) C dX9_run_136 rfl kc_0 ?_
  refine r_istore_n (pc' := 138) (lv2 := [(3, .int 0), (0, .ref 149), (1, .int v1), (2, .int v2)]) C dX9_run_137 rfl rfl (Nat.le_of_ble_eq_true rfl) rfl ?_
  refine r_sub [1, 2, 3, 0] rfl ?_
  exact X9_run_l138_ok  (fun _ _ h Z C hE => by exact X9_run_j196_ok  h Z C hE) N _ _ _ _ _ h Z C hE
def X9_run (N : Nat)  (v1 : Int32) (v2 : Int32) (σ : Sg) : Option (Int32 × Sg) :=
  bnS (wi σ 149 0 0) fun σ1 => (X9_in N v1.toInt64 0 20 σ1).bind fun r3 => (if r3 = 0 then (some ((-1), σ1)) else ((X9_in N v2.toInt64 0 20 σ1).bind fun r6 => (if r6 = 0 then (some ((-1), σ1)) else (X9_run_l33 N (fun v1 v2 σ => X9_run_j131 N v1 v2 σ) N v1 v2 0 σ1))))
set_option maxRecDepth 100000 in
set_option maxHeartbeats 4000000 in
theorem X9_run_ok {E : Ev}  {N : Nat} {v1 : Int32} {v2 : Int32} {σ : Sg} {r : Int32 × Sg} (h : X9_run N  v1 v2 σ = some r) : Cm E (2) yX9_run cX9_run 8 (some .int) [.ref 149, .int v1, .int v2] SH0 SH0 σ r.2 (some (.int r.1)) 0 0 := by
  refine Cm.intro (by decide +kernel) (Nat.le_of_ble_eq_true rfl) (fun _ h => by obtain ⟨_, _, _, _, _, _, h⟩ := h; exact h) (fun Z C hE => ?_)
  show Wm E Z 0 0 SH0 σ 0 [(0, .ref 149), (1, .int v1), (2, .int v2)] []
  unfold X9_run at h
  refine r_aload_n (pc' := 1) C dX9_run_0 rfl 0 rfl ?_
  refine r_iconst (pc' := 2) C dX9_run_1 rfl kc_0 ?_
  obtain ⟨σ1, e2, h⟩ := bs h
  refine r_putI (pc' := 5) (σ1 := σ1) C fpX9_3 sh_149 rfl rfl rfl dX9_run_2 rfl e2 ?_
  refine r_iload_n (pc' := 6) C dX9_run_5 rfl 1 rfl ?_
  refine r_i2l (pc' := 7) C dX9_run_6 rfl rfl ?_
  refine r_lconst (pc' := 8) C dX9_run_7 rfl kl_0 ?_
  refine r_ldc2 (pc' := 11) C cnX9_379 dX9_run_8 rfl ?_
  obtain ⟨r3, e4, h⟩ := bd h
  refine r_cS1 (pc' := 14) C (X9_in_ok  e4) mlX9_119 ceX9_in csX9_in rfl (Nat.le_of_ble_eq_true rfl) rfl (Nat.le_of_ble_eq_true rfl) dX9_run_11 rfl (kk := ?_)
  refine r_if_eq (tgt := 29) (pc' := 17) C dX9_run_14 rfl rfl (fun c5 => ?_) (fun c5 => ?_)
  · rw [if_pos c5] at h
    refine r_iconst (pc' := 30) C dX9_run_29 rfl kc_m1 ?_
    have h := Option.some.inj h
    subst h
    exact r_ret C rfl dX9_run_30 hE
  · rw [if_neg c5] at h
    refine r_iload_n (pc' := 18) C dX9_run_17 rfl 2 rfl ?_
    refine r_i2l (pc' := 19) C dX9_run_18 rfl rfl ?_
    refine r_lconst (pc' := 20) C dX9_run_19 rfl kl_0 ?_
    refine r_ldc2 (pc' := 23) C cnX9_379 dX9_run_20 rfl ?_
    obtain ⟨r6, e7, h⟩ := bd h
    refine r_cS1 (pc' := 26) C (X9_in_ok  e7) mlX9_119 ceX9_in csX9_in rfl (Nat.le_of_ble_eq_true rfl) rfl (Nat.le_of_ble_eq_true rfl) dX9_run_23 rfl (kk := ?_)
    refine r_if_ne (tgt := 31) (pc' := 29) C dX9_run_26 rfl rfl (fun c8 => ?_) (fun c8 => ?_)
    · rw [if_neg c8] at h
      refine r_iconst (pc' := 32) C dX9_run_31 rfl kc_0 ?_
      refine r_istore_n (pc' := 33) (lv2 := [(3, .int 0), (0, .ref 149), (1, .int v1), (2, .int v2)]) C dX9_run_32 rfl rfl (Nat.le_of_ble_eq_true rfl) rfl ?_
      refine r_sub [1, 2, 3, 0] rfl ?_
      exact X9_run_l33_ok  (fun _ _ _ _ h Z C hE => by exact X9_run_j131_ok  h Z C hE) N _ _ _ _ _ h Z C hE
    · rw [if_pos c8] at h
      refine r_iconst (pc' := 30) C dX9_run_29 rfl kc_m1 ?_
      have h := Option.some.inj h
      subst h
      exact r_ret C rfl dX9_run_30 hE
