/-! BorrowedWeightModel.needOf([II)I -/
def X9_needOf_l5 (N : Nat) (k1 : Nat)   : Nat → Int32 → Int32 → Int32 → Sg → Option (Int32 × Sg)
  | 0, _, _, _, _ => none
  | n + 1, v2, v3, v4, σ =>
    if (gi σ 149 3) ≤ v4 then (some (v3, σ)) else ((X9_has N v2 v4 σ).bind fun r2 => (if r2 = 0 then (X9_needOf_l5 N k1 n v2 (v3 + 0) (v4 + 1) σ) else ((X9_need N k1 v4 σ).bind fun r5 => (X9_needOf_l5 N k1 n v2 (v3 + r5.1) (v4 + 1) r5.2))))
set_option maxRecDepth 100000 in
set_option maxHeartbeats 4000000 in
theorem X9_needOf_l5_ok {E : Ev} {k1 : Nat} (hk1 : MaAt SH0 k1) {N : Nat}    : ∀ (n : Nat) (v2 : Int32) (v3 : Int32) (v4 : Int32) (σ : Sg) (r : Int32 × Sg), X9_needOf_l5 N k1 n v2 v3 v4 σ = some r → Gp E RX9 cX9_needOf (some .int) 5 (4) SH0 r.2 (some (.int r.1)) σ 5 [(0, .ref 149), (1, .ref k1), (2, .int v2), (3, .int v3), (4, .int v4)] [] := by
  intro n
  induction n with
  | zero => intro v2 v3 v4 σ r h; cases h
  | succ n ih =>
    intro v2 v3 v4 σ r h Z C hE
    unfold X9_needOf_l5 at h
    refine r_iload (pc' := 7) C dX9_needOf_5 rfl 4 rfl ?_
    refine r_aload_n (pc' := 8) C dX9_needOf_7 rfl 0 rfl ?_
    refine r_getI (pc' := 11) C flX9_116 sh_149 rfl dX9_needOf_8 rfl ?_
    refine r_icmp_ge (tgt := 43) (pc' := 14) C dX9_needOf_11 rfl rfl (fun c1 => ?_) (fun c1 => ?_)
    · rw [if_pos c1] at h
      refine r_iload_n (pc' := 44) C dX9_needOf_43 rfl 3 rfl ?_
      have h := Option.some.inj h
      subst h
      exact r_ret C rfl dX9_needOf_44 hE
    · rw [if_neg c1] at h
      refine r_iload_n (pc' := 15) C dX9_needOf_14 rfl 3 rfl ?_
      refine r_iload_n (pc' := 16) C dX9_needOf_15 rfl 2 rfl ?_
      refine r_iload (pc' := 18) C dX9_needOf_16 rfl 4 rfl ?_
      obtain ⟨r2, e3, h⟩ := bd h
      refine r_cS1 (pc' := 21) C (X9_has_ok  e3) mlX9_127 ceX9_has csX9_has rfl (Nat.le_of_ble_eq_true rfl) rfl (Nat.le_of_ble_eq_true rfl) dX9_needOf_18 rfl (kk := ?_)
      refine r_if_eq (tgt := 34) (pc' := 24) C dX9_needOf_21 rfl rfl (fun c4 => ?_) (fun c4 => ?_)
      · rw [if_pos c4] at h
        refine r_iconst (pc' := 35) C dX9_needOf_34 rfl kc_0 ?_
        refine r_iadd (pc' := 36) C dX9_needOf_35 rfl ?_
        refine r_istore_n (pc' := 37) (lv2 := [(3, .int (v3 + 0)), (0, .ref 149), (1, .ref k1), (2, .int v2), (4, .int v4)]) C dX9_needOf_36 rfl rfl (Nat.le_of_ble_eq_true rfl) rfl ?_
        refine r_iinc (pc' := 40) (v := v4 + 1) (lv2 := [(4, .int (v4 + 1)), (3, .int (v3 + 0)), (0, .ref 149), (1, .ref k1), (2, .int v2)]) C dX9_needOf_37 rfl 4 rfl rfl (Nat.le_of_ble_eq_true rfl) rfl ?_
        refine r_goto (tgt := 5) C dX9_needOf_40 rfl ?_
        refine r_sub [2, 3, 4, 1, 0] rfl ?_
        exact ih _ _ _ _ _ h Z C hE
      · rw [if_neg c4] at h
        refine r_aload_n (pc' := 25) C dX9_needOf_24 rfl 0 rfl ?_
        refine r_aload_n (pc' := 26) C dX9_needOf_25 rfl 1 rfl ?_
        refine r_iload (pc' := 28) C dX9_needOf_26 rfl 4 rfl ?_
        obtain ⟨r5, e6, h⟩ := bd h
        refine r_cV1 (pc' := 31) C (X9_need_ok hk1 e6) mlX9_270 ceX9_need cvX9_need sh_149 rfl rfl rfl (Nat.le_of_ble_eq_true rfl) rfl (Nat.le_of_ble_eq_true rfl) dX9_needOf_28 rfl (kk := ?_)
        refine r_goto (tgt := 35) C dX9_needOf_31 rfl ?_
        refine r_iadd (pc' := 36) C dX9_needOf_35 rfl ?_
        refine r_istore_n (pc' := 37) (lv2 := [(3, .int (v3 + r5.1)), (0, .ref 149), (1, .ref k1), (2, .int v2), (4, .int v4)]) C dX9_needOf_36 rfl rfl (Nat.le_of_ble_eq_true rfl) rfl ?_
        refine r_iinc (pc' := 40) (v := v4 + 1) (lv2 := [(4, .int (v4 + 1)), (3, .int (v3 + r5.1)), (0, .ref 149), (1, .ref k1), (2, .int v2)]) C dX9_needOf_37 rfl 4 rfl rfl (Nat.le_of_ble_eq_true rfl) rfl ?_
        refine r_goto (tgt := 5) C dX9_needOf_40 rfl ?_
        refine r_sub [2, 3, 4, 1, 0] rfl ?_
        exact ih _ _ _ _ _ h Z C hE
def X9_needOf (N : Nat) (k1 : Nat) (v2 : Int32) (σ : Sg) : Option (Int32 × Sg) :=
  X9_needOf_l5 N k1 N v2 0 0 σ
set_option maxRecDepth 100000 in
set_option maxHeartbeats 4000000 in
theorem X9_needOf_ok {E : Ev} {k1 : Nat} (hk1 : MaAt SH0 k1) {N : Nat} {v2 : Int32} {σ : Sg} {r : Int32 × Sg} (h : X9_needOf N k1 v2 σ = some r) : Cm E (4) yX9_needOf cX9_needOf 5 (some .int) [.ref 149, .ref k1, .int v2] SH0 SH0 σ r.2 (some (.int r.1)) 0 0 := by
  refine Cm.intro (by decide +kernel) (Nat.le_of_ble_eq_true rfl) (fun _ h => by obtain ⟨_, _, _, _, _, _, h⟩ := h; exact h) (fun Z C hE => ?_)
  show Wm E Z 0 0 SH0 σ 0 [(0, .ref 149), (1, .ref k1), (2, .int v2)] []
  unfold X9_needOf at h
  refine r_iconst (pc' := 1) C dX9_needOf_0 rfl kc_0 ?_
  refine r_istore_n (pc' := 2) (lv2 := [(3, .int 0), (0, .ref 149), (1, .ref k1), (2, .int v2)]) C dX9_needOf_1 rfl rfl (Nat.le_of_ble_eq_true rfl) rfl ?_
  refine r_iconst (pc' := 3) C dX9_needOf_2 rfl kc_0 ?_
  refine r_istore (pc' := 5) (lv2 := [(4, .int 0), (3, .int 0), (0, .ref 149), (1, .ref k1), (2, .int v2)]) C dX9_needOf_3 rfl (Nat.le_of_ble_eq_true rfl) rfl ?_
  refine r_sub [2, 3, 4, 1, 0] rfl ?_
  exact X9_needOf_l5_ok hk1 N _ _ _ _ _ h Z C hE

/-! BorrowedWeightModel.above([II)I -/
def X9_above (N : Nat) (k1 : Nat) (v2 : Int32) (σ : Sg) : Option (Int32 × Sg) :=
  (X9_sumOf N k1 0 v2 σ).bind fun r1 => ((X9_needOf N k1 v2 σ).bind fun r3 => (some (r1 - r3.1, r3.2)))
set_option maxRecDepth 100000 in
set_option maxHeartbeats 4000000 in
theorem X9_above_ok {E : Ev} {k1 : Nat} (hk1 : MaAt SH0 k1) {N : Nat} {v2 : Int32} {σ : Sg} {r : Int32 × Sg} (h : X9_above N k1 v2 σ = some r) : Cm E (5) yX9_above cX9_above 3 (some .int) [.ref 149, .ref k1, .int v2] SH0 SH0 σ r.2 (some (.int r.1)) 0 0 := by
  refine Cm.intro (by decide +kernel) (Nat.le_of_ble_eq_true rfl) (fun _ h => by obtain ⟨_, _, _, _, _, _, h⟩ := h; exact h) (fun Z C hE => ?_)
  show Wm E Z 0 0 SH0 σ 0 [(0, .ref 149), (1, .ref k1), (2, .int v2)] []
  unfold X9_above at h
  refine r_aload_n (pc' := 1) C dX9_above_0 rfl 0 rfl ?_
  refine r_aload_n (pc' := 2) C dX9_above_1 rfl 1 rfl ?_
  refine r_iconst (pc' := 3) C dX9_above_2 rfl kc_0 ?_
  refine r_iload_n (pc' := 4) C dX9_above_3 rfl 2 rfl ?_
  obtain ⟨r1, e2, h⟩ := bd h
  refine r_cV1 (pc' := 7) C (X9_sumOf_ok hk1 e2) mlX9_274 ceX9_sumOf cvX9_sumOf sh_149 rfl rfl rfl (Nat.le_of_ble_eq_true rfl) rfl (Nat.le_of_ble_eq_true rfl) dX9_above_4 rfl (kk := ?_)
  refine r_aload_n (pc' := 8) C dX9_above_7 rfl 0 rfl ?_
  refine r_aload_n (pc' := 9) C dX9_above_8 rfl 1 rfl ?_
  refine r_iload_n (pc' := 10) C dX9_above_9 rfl 2 rfl ?_
  obtain ⟨r3, e4, h⟩ := bd h
  refine r_cV1 (pc' := 13) C (X9_needOf_ok hk1 e4) mlX9_278 ceX9_needOf cvX9_needOf sh_149 rfl rfl rfl (Nat.le_of_ble_eq_true rfl) rfl (Nat.le_of_ble_eq_true rfl) dX9_above_10 rfl (kk := ?_)
  refine r_isub (pc' := 14) C dX9_above_13 rfl ?_
  have h := Option.some.inj h
  subst h
  exact r_ret C rfl dX9_above_14 hE

/-! BorrowedWeightModel.floating([I)I -/
def X9_floating_j30 (N : Nat) (k1 : Nat) (kr : Int32 → Int32 → Sg → Option (Int32 × Sg)) (v2 : Int32) (v3 : Int32) (s0 : Int32) (σ : Sg) : Option (Int32 × Sg) :=
  (X9_above N k1 s0 σ).bind fun r7 => (if 0 ≤ r7.1 then (kr (v2 ||| 0) (v3 + 1) r7.2) else (kr (v2 ||| s0) (v3 + 1) r7.2))
set_option maxRecDepth 100000 in
set_option maxHeartbeats 4000000 in
theorem X9_floating_j30_ok {E : Ev} {k1 : Nat} (hk1 : MaAt SH0 k1) {N : Nat} {kr : Int32 → Int32 → Sg → Option (Int32 × Sg)}  (hkr : ∀ (v2 : Int32) (v3 : Int32) (σ : Sg) (r : Int32 × Sg), kr v2 v3 σ = some r → Gp E RX9 cX9_floating (some .int) 5 (6) SH0 r.2 (some (.int r.1)) σ 4 [(0, .ref 149), (1, .ref k1), (2, .int v2), (3, .int v3)] []) {v2 : Int32} {v3 : Int32} {s0 : Int32} {σ : Sg} {r : Int32 × Sg} (h : X9_floating_j30 N k1 kr v2 v3 s0 σ = some r) : Gp E RX9 cX9_floating (some .int) 5 (6) SH0 r.2 (some (.int r.1)) σ 30 [(0, .ref 149), (1, .ref k1), (2, .int v2), (3, .int v3)] [.int s0] := by
  intro Z C hE
  unfold X9_floating_j30 at h
  refine r_istore (pc' := 32) (lv2 := [(4, .int s0), (0, .ref 149), (1, .ref k1), (2, .int v2), (3, .int v3)]) C dX9_floating_30 rfl (Nat.le_of_ble_eq_true rfl) rfl ?_
  refine r_iload_n (pc' := 33) C dX9_floating_32 rfl 3 rfl ?_
  refine r_aload_n (pc' := 34) C dX9_floating_33 rfl 1 rfl ?_
  refine r_aload_n (pc' := 35) C dX9_floating_34 rfl 2 rfl ?_
  refine r_iload (pc' := 37) C dX9_floating_35 rfl 0 rfl ?_
  obtain ⟨r7, e8, h⟩ := bd h
  refine r_cV1 (pc' := 40) C (X9_above_ok hk1 e8) mlX9_287 ceX9_above cvX9_above sh_149 rfl rfl rfl (Nat.le_of_ble_eq_true rfl) rfl (Nat.le_of_ble_eq_true rfl) dX9_floating_37 rfl (kk := ?_)
  refine r_if_ge (tgt := 48) (pc' := 43) C dX9_floating_40 rfl rfl (fun c9 => ?_) (fun c9 => ?_)
  · rw [if_pos c9] at h
    refine r_iconst (pc' := 49) C dX9_floating_48 rfl kc_0 ?_
    refine r_ior (pc' := 50) C dX9_floating_49 rfl ?_
    refine r_istore_n (pc' := 51) (lv2 := [(2, .int (v2 ||| 0)), (4, .int s0), (0, .ref 149), (1, .ref k1), (3, .int v3)]) C dX9_floating_50 rfl rfl (Nat.le_of_ble_eq_true rfl) rfl ?_
    refine r_iinc (pc' := 54) (v := v3 + 1) (lv2 := [(3, .int (v3 + 1)), (2, .int (v2 ||| 0)), (4, .int s0), (0, .ref 149), (1, .ref k1)]) C dX9_floating_51 rfl 4 rfl rfl (Nat.le_of_ble_eq_true rfl) rfl ?_
    refine r_goto (tgt := 4) C dX9_floating_54 rfl ?_
    refine r_sub [3, 4, 1, 0] rfl ?_
    exact hkr _ _ _ _ h Z C hE
  · rw [if_neg c9] at h
    refine r_iload (pc' := 45) C dX9_floating_43 rfl 0 rfl ?_
    refine r_goto (tgt := 49) C dX9_floating_45 rfl ?_
    refine r_ior (pc' := 50) C dX9_floating_49 rfl ?_
    refine r_istore_n (pc' := 51) (lv2 := [(2, .int (v2 ||| s0)), (4, .int s0), (0, .ref 149), (1, .ref k1), (3, .int v3)]) C dX9_floating_50 rfl rfl (Nat.le_of_ble_eq_true rfl) rfl ?_
    refine r_iinc (pc' := 54) (v := v3 + 1) (lv2 := [(3, .int (v3 + 1)), (2, .int (v2 ||| s0)), (4, .int s0), (0, .ref 149), (1, .ref k1)]) C dX9_floating_51 rfl 4 rfl rfl (Nat.le_of_ble_eq_true rfl) rfl ?_
    refine r_goto (tgt := 4) C dX9_floating_54 rfl ?_
    refine r_sub [3, 4, 1, 0] rfl ?_
    exact hkr _ _ _ _ h Z C hE
def X9_floating_l4 (N : Nat) (k1 : Nat)   : Nat → Int32 → Int32 → Sg → Option (Int32 × Sg)
  | 0, _, _, _ => none
  | n + 1, v2, v3, σ =>
    if (gi σ 149 3) ≤ v3 then (some (v2, σ)) else ((X9_has N v2 v3 σ).bind fun r2 => (if r2 = 0 then ((X9_bundle N k1 v3 σ).bind fun r5 => (X9_floating_j30 N k1 (fun v2 v3 σ => X9_floating_l4 N k1 n v2 v3 σ) v2 v3 r5 σ)) else (X9_floating_j30 N k1 (fun v2 v3 σ => X9_floating_l4 N k1 n v2 v3 σ) v2 v3 0 σ)))
set_option maxRecDepth 100000 in
set_option maxHeartbeats 4000000 in
theorem X9_floating_l4_ok {E : Ev} {k1 : Nat} (hk1 : MaAt SH0 k1) {N : Nat}    : ∀ (n : Nat) (v2 : Int32) (v3 : Int32) (σ : Sg) (r : Int32 × Sg), X9_floating_l4 N k1 n v2 v3 σ = some r → Gp E RX9 cX9_floating (some .int) 5 (6) SH0 r.2 (some (.int r.1)) σ 4 [(0, .ref 149), (1, .ref k1), (2, .int v2), (3, .int v3)] [] := by
  intro n
  induction n with
  | zero => intro v2 v3 σ r h; cases h
  | succ n ih =>
    intro v2 v3 σ r h Z C hE
    unfold X9_floating_l4 at h
    refine r_iload_n (pc' := 5) C dX9_floating_4 rfl 3 rfl ?_
    refine r_aload_n (pc' := 6) C dX9_floating_5 rfl 0 rfl ?_
    refine r_getI (pc' := 9) C flX9_116 sh_149 rfl dX9_floating_6 rfl ?_
    refine r_icmp_ge (tgt := 57) (pc' := 12) C dX9_floating_9 rfl rfl (fun c1 => ?_) (fun c1 => ?_)
    · rw [if_pos c1] at h
      refine r_iload_n (pc' := 58) C dX9_floating_57 rfl 2 rfl ?_
      have h := Option.some.inj h
      subst h
      exact r_ret C rfl dX9_floating_58 hE
    · rw [if_neg c1] at h
      refine r_iload_n (pc' := 13) C dX9_floating_12 rfl 2 rfl ?_
      refine r_iload_n (pc' := 14) C dX9_floating_13 rfl 3 rfl ?_
      obtain ⟨r2, e3, h⟩ := bd h
      refine r_cS1 (pc' := 17) C (X9_has_ok  e3) mlX9_127 ceX9_has csX9_has rfl (Nat.le_of_ble_eq_true rfl) rfl (Nat.le_of_ble_eq_true rfl) dX9_floating_14 rfl (kk := ?_)
      refine r_if_eq (tgt := 24) (pc' := 20) C dX9_floating_17 rfl rfl (fun c4 => ?_) (fun c4 => ?_)
      · rw [if_pos c4] at h
        refine r_aload_n (pc' := 25) C dX9_floating_24 rfl 0 rfl ?_
        refine r_aload_n (pc' := 26) C dX9_floating_25 rfl 1 rfl ?_
        refine r_iload_n (pc' := 27) C dX9_floating_26 rfl 3 rfl ?_
        obtain ⟨r5, e6, h⟩ := bd h
        refine r_cV1 (pc' := 30) C (X9_bundle_ok hk1 e6) mlX9_281 ceX9_bundle cvX9_bundle sh_149 rfl rfl rfl (Nat.le_of_ble_eq_true rfl) rfl (Nat.le_of_ble_eq_true rfl) dX9_floating_27 rfl (kk := ?_)
        exact X9_floating_j30_ok hk1 ih h Z C hE
      · rw [if_neg c4] at h
        refine r_iconst (pc' := 21) C dX9_floating_20 rfl kc_0 ?_
        refine r_goto (tgt := 30) C dX9_floating_21 rfl ?_
        exact X9_floating_j30_ok hk1 ih h Z C hE
def X9_floating (N : Nat) (k1 : Nat)  (σ : Sg) : Option (Int32 × Sg) :=
  X9_floating_l4 N k1 N 0 0 σ
set_option maxRecDepth 100000 in
set_option maxHeartbeats 4000000 in
theorem X9_floating_ok {E : Ev} {k1 : Nat} (hk1 : MaAt SH0 k1) {N : Nat}  {σ : Sg} {r : Int32 × Sg} (h : X9_floating N k1  σ = some r) : Cm E (6) yX9_floating cX9_floating 5 (some .int) [.ref 149, .ref k1] SH0 SH0 σ r.2 (some (.int r.1)) 0 0 := by
  refine Cm.intro (by decide +kernel) (Nat.le_of_ble_eq_true rfl) (fun _ h => by obtain ⟨_, _, _, _, _, _, h⟩ := h; exact h) (fun Z C hE => ?_)
  show Wm E Z 0 0 SH0 σ 0 [(0, .ref 149), (1, .ref k1)] []
  unfold X9_floating at h
  refine r_iconst (pc' := 1) C dX9_floating_0 rfl kc_0 ?_
  refine r_istore_n (pc' := 2) (lv2 := [(2, .int 0), (0, .ref 149), (1, .ref k1)]) C dX9_floating_1 rfl rfl (Nat.le_of_ble_eq_true rfl) rfl ?_
  refine r_iconst (pc' := 3) C dX9_floating_2 rfl kc_0 ?_
  refine r_istore_n (pc' := 4) (lv2 := [(3, .int 0), (2, .int 0), (0, .ref 149), (1, .ref k1)]) C dX9_floating_3 rfl rfl (Nat.le_of_ble_eq_true rfl) rfl ?_
  refine r_sub [2, 3, 1, 0] rfl ?_
  exact X9_floating_l4_ok hk1 N _ _ _ _ h Z C hE

/-! BorrowedWeightModel.all()I -/
def X9_all (N : Nat)   (σ : Sg) : Option (Int32) :=
  some ((1 <<< ((gi σ 149 3) &&& 31)) - 1)
set_option maxRecDepth 100000 in
set_option maxHeartbeats 4000000 in
theorem X9_all_ok {E : Ev}  {N : Nat}  {σ : Sg} {r : Int32} (h : X9_all N   σ = some r) : Cm E (0) yX9_all cX9_all 1 (some .int) [.ref 149] SH0 SH0 σ σ (some (.int r)) 0 0 := by
  refine Cm.intro (by decide +kernel) (Nat.le_of_ble_eq_true rfl) (fun _ h => by obtain ⟨_, _, _, _, _, _, h⟩ := h; exact h) (fun Z C hE => ?_)
  show Wm E Z 0 0 SH0 σ 0 [(0, .ref 149)] []
  unfold X9_all at h
  refine r_iconst (pc' := 1) C dX9_all_0 rfl kc_1 ?_
  refine r_aload_n (pc' := 2) C dX9_all_1 rfl 0 rfl ?_
  refine r_getI (pc' := 5) C flX9_116 sh_149 rfl dX9_all_2 rfl ?_
  refine r_ishl (pc' := 6) C dX9_all_5 rfl ?_
  refine r_iconst (pc' := 7) C dX9_all_6 rfl kc_1 ?_
  refine r_isub (pc' := 8) C dX9_all_7 rfl ?_
  have h := Option.some.inj h
  subst h
  exact r_ret C rfl dX9_all_8 hE

/-! BorrowedWeightModel.here([I)I -/
def X9_here (N : Nat) (k1 : Nat)  (σ : Sg) : Option (Int32) :=
  (X9_all N σ).bind fun r1 => (if inb 32 37 = true then some (r1 &&& ((gi σ k1 (32 : Int32).toNatClampNeg) ^^^ (-1))) else none)
set_option maxRecDepth 100000 in
set_option maxHeartbeats 4000000 in
theorem X9_here_ok {E : Ev} {k1 : Nat} (hk1 : MaAt SH0 k1) {N : Nat}  {σ : Sg} {r : Int32} (h : X9_here N k1  σ = some r) : Cm E (1) yX9_here cX9_here 2 (some .int) [.ref 149, .ref k1] SH0 SH0 σ σ (some (.int r)) 0 0 := by
  refine Cm.intro (by decide +kernel) (Nat.le_of_ble_eq_true rfl) (fun _ h => by obtain ⟨_, _, _, _, _, _, h⟩ := h; exact h) (fun Z C hE => ?_)
  show Wm E Z 0 0 SH0 σ 0 [(0, .ref 149), (1, .ref k1)] []
  unfold X9_here at h
  refine r_aload_n (pc' := 1) C dX9_here_0 rfl 0 rfl ?_
  obtain ⟨r1, e2, h⟩ := bd h
  refine r_cV1 (pc' := 4) C (X9_all_ok  e2) mlX9_131 ceX9_all cvX9_all sh_149 rfl rfl rfl (Nat.le_of_ble_eq_true rfl) rfl (Nat.le_of_ble_eq_true rfl) dX9_here_1 rfl (kk := ?_)
  refine r_aload_n (pc' := 5) C dX9_here_4 rfl 1 rfl ?_
  refine r_bipush (pc' := 7) C dX9_here_5 rfl kb_32 ?_
  obtain ⟨q3, h⟩ := ck h
  refine r_iald (pc' := 8) C hk1 (vin q3) dX9_here_7 rfl ?_
  refine r_iconst (pc' := 9) C dX9_here_8 rfl kc_m1 ?_
  refine r_ixor (pc' := 10) C dX9_here_9 rfl ?_
  refine r_iand (pc' := 11) C dX9_here_10 rfl ?_
  have h := Option.some.inj h
  subst h
  exact r_ret C rfl dX9_here_11 hE

/-! BorrowedWeightModel.goes([II)V -/
def X9_goes_l56 (N : Nat) (k1 : Nat)   : Nat → Int32 → Int32 → Sg → Option (Sg)
  | 0, _, _, _ => none
  | n + 1, v2, v3, σ =>
    if (gi σ 149 3) ≤ v3 then (if inb (24 + v2) 37 = true then bnS (wi σ k1 (24 + v2).toNatClampNeg 0) fun σ22 => some σ22 else none) else (if inb (24 + v3) 37 = true then if inb (24 + v3) 37 = true then bnS (wi σ k1 (24 + v3).toNatClampNeg ((gi σ k1 (24 + v3).toNatClampNeg) &&& ((1 <<< (v2 &&& 31)) ^^^ (-1)))) fun σ26 => X9_goes_l56 N k1 n v2 (v3 + 1) σ26 else none else none)
set_option maxRecDepth 100000 in
set_option maxHeartbeats 4000000 in
theorem X9_goes_l56_ok {E : Ev} {k1 : Nat} (hk1 : MaAt SH0 k1) {N : Nat}    : ∀ (n : Nat) (v2 : Int32) (v3 : Int32) (σ : Sg) (r : Sg), X9_goes_l56 N k1 n v2 v3 σ = some r → Gp E RX9 cX9_goes none 4 (1) SH0 r (none) σ 56 [(0, .ref 149), (1, .ref k1), (2, .int v2), (3, .int v3)] [] := by
  intro n
  induction n with
  | zero => intro v2 v3 σ r h; cases h
  | succ n ih =>
    intro v2 v3 σ r h Z C hE
    unfold X9_goes_l56 at h
    refine r_iload_n (pc' := 57) C dX9_goes_56 rfl 3 rfl ?_
    refine r_aload_n (pc' := 58) C dX9_goes_57 rfl 0 rfl ?_
    refine r_getI (pc' := 61) C flX9_116 sh_149 rfl dX9_goes_58 rfl ?_
    refine r_icmp_ge (tgt := 84) (pc' := 64) C dX9_goes_61 rfl rfl (fun c20 => ?_) (fun c20 => ?_)
    · rw [if_pos c20] at h
      refine r_aload_n (pc' := 85) C dX9_goes_84 rfl 1 rfl ?_
      refine r_bipush (pc' := 87) C dX9_goes_85 rfl kb_24 ?_
      refine r_iload_n (pc' := 88) C dX9_goes_87 rfl 2 rfl ?_
      refine r_iadd (pc' := 89) C dX9_goes_88 rfl ?_
      refine r_iconst (pc' := 90) C dX9_goes_89 rfl kc_0 ?_
      obtain ⟨q21, h⟩ := ck h
      obtain ⟨σ22, e23, h⟩ := bs h
      refine r_iast (pc' := 91) (σ1 := σ22) C hk1 (vin q21) dX9_goes_90 rfl e23 ?_
      have h := Option.some.inj h
      subst h
      exact r_vret C dX9_goes_91 hE
    · rw [if_neg c20] at h
      refine r_aload_n (pc' := 65) C dX9_goes_64 rfl 1 rfl ?_
      refine r_bipush (pc' := 67) C dX9_goes_65 rfl kb_24 ?_
      refine r_iload_n (pc' := 68) C dX9_goes_67 rfl 3 rfl ?_
      refine r_iadd (pc' := 69) C dX9_goes_68 rfl ?_
      refine r_dup2 (pc' := 70) C dX9_goes_69 rfl rfl rfl ?_
      obtain ⟨q24, h⟩ := ck h
      refine r_iald (pc' := 71) C hk1 (vin q24) dX9_goes_70 rfl ?_
      refine r_iconst (pc' := 72) C dX9_goes_71 rfl kc_1 ?_
      refine r_iload_n (pc' := 73) C dX9_goes_72 rfl 2 rfl ?_
      refine r_ishl (pc' := 74) C dX9_goes_73 rfl ?_
      refine r_iconst (pc' := 75) C dX9_goes_74 rfl kc_m1 ?_
      refine r_ixor (pc' := 76) C dX9_goes_75 rfl ?_
      refine r_iand (pc' := 77) C dX9_goes_76 rfl ?_
      obtain ⟨q25, h⟩ := ck h
      obtain ⟨σ26, e27, h⟩ := bs h
      refine r_iast (pc' := 78) (σ1 := σ26) C hk1 (vin q25) dX9_goes_77 rfl e27 ?_
      refine r_iinc (pc' := 81) (v := v3 + 1) (lv2 := [(3, .int (v3 + 1)), (0, .ref 149), (1, .ref k1), (2, .int v2)]) C dX9_goes_78 rfl 3 rfl rfl (Nat.le_of_ble_eq_true rfl) rfl ?_
      refine r_goto (tgt := 56) C dX9_goes_81 rfl ?_
      refine r_sub [1, 2, 3, 0] rfl ?_
      exact ih _ _ _ _ h Z C hE
def X9_goes (N : Nat) (k1 : Nat) (v2 : Int32) (σ : Sg) : Option (Sg) :=
  bnS (wi σ 149 25 ((gi σ 149 25) + 1)) fun σ1 => if inb v2 37 = true then bnS (wi σ1 149 26 ((gi σ1 149 26) + (gi σ1 k1 v2.toNatClampNeg))) fun σ4 => if inb 35 37 = true then if inb v2 37 = true then (J9_min_7cf53 N 999 ((gi σ4 k1 (35 : Int32).toNatClampNeg) + (gi σ4 k1 v2.toNatClampNeg)) σ4).bind fun r8 => (if inb 35 37 = true then bnS (wi σ4 k1 (35 : Int32).toNatClampNeg r8) fun σ11 => if inb v2 37 = true then bnS (wi σ11 k1 v2.toNatClampNeg 0) fun σ14 => if inb 32 37 = true then if inb 32 37 = true then bnS (wi σ14 k1 (32 : Int32).toNatClampNeg ((gi σ14 k1 (32 : Int32).toNatClampNeg) ||| (1 <<< (v2 &&& 31)))) fun σ18 => X9_goes_l56 N k1 N v2 0 σ18 else none else none else none else none) else none else none else none
set_option maxRecDepth 100000 in
set_option maxHeartbeats 4000000 in
theorem X9_goes_ok {E : Ev} {k1 : Nat} (hk1 : MaAt SH0 k1) {N : Nat} {v2 : Int32} {σ : Sg} {r : Sg} (h : X9_goes N k1 v2 σ = some r) : Cm E (1) yX9_goes cX9_goes 4 none [.ref 149, .ref k1, .int v2] SH0 SH0 σ r (none) 0 0 := by
  refine Cm.intro (by decide +kernel) (Nat.le_of_ble_eq_true rfl) (fun _ h => by obtain ⟨_, _, _, _, _, _, h⟩ := h; exact h) (fun Z C hE => ?_)
  show Wm E Z 0 0 SH0 σ 0 [(0, .ref 149), (1, .ref k1), (2, .int v2)] []
  unfold X9_goes at h
  refine r_aload_n (pc' := 1) C dX9_goes_0 rfl 0 rfl ?_
  refine r_dup (pc' := 2) C dX9_goes_1 rfl rfl ?_
  refine r_getI (pc' := 5) C flX9_297 sh_149 rfl dX9_goes_2 rfl ?_
  refine r_iconst (pc' := 6) C dX9_goes_5 rfl kc_1 ?_
  refine r_iadd (pc' := 7) C dX9_goes_6 rfl ?_
  obtain ⟨σ1, e2, h⟩ := bs h
  refine r_putI (pc' := 10) (σ1 := σ1) C fpX9_297 sh_149 rfl rfl rfl dX9_goes_7 rfl e2 ?_
  refine r_aload_n (pc' := 11) C dX9_goes_10 rfl 0 rfl ?_
  refine r_dup (pc' := 12) C dX9_goes_11 rfl rfl ?_
  refine r_getI (pc' := 15) C flX9_300 sh_149 rfl dX9_goes_12 rfl ?_
  refine r_aload_n (pc' := 16) C dX9_goes_15 rfl 1 rfl ?_
  refine r_iload_n (pc' := 17) C dX9_goes_16 rfl 2 rfl ?_
  obtain ⟨q3, h⟩ := ck h
  refine r_iald (pc' := 18) C hk1 (vin q3) dX9_goes_17 rfl ?_
  refine r_iadd (pc' := 19) C dX9_goes_18 rfl ?_
  obtain ⟨σ4, e5, h⟩ := bs h
  refine r_putI (pc' := 22) (σ1 := σ4) C fpX9_300 sh_149 rfl rfl rfl dX9_goes_19 rfl e5 ?_
  refine r_aload_n (pc' := 23) C dX9_goes_22 rfl 1 rfl ?_
  refine r_bipush (pc' := 25) C dX9_goes_23 rfl kb_35 ?_
  refine r_sipush (pc' := 28) C dX9_goes_25 rfl ks_999 ?_
  refine r_aload_n (pc' := 29) C dX9_goes_28 rfl 1 rfl ?_
  refine r_bipush (pc' := 31) C dX9_goes_29 rfl kb_35 ?_
  obtain ⟨q6, h⟩ := ck h
  refine r_iald (pc' := 32) C hk1 (vin q6) dX9_goes_31 rfl ?_
  refine r_aload_n (pc' := 33) C dX9_goes_32 rfl 1 rfl ?_
  refine r_iload_n (pc' := 34) C dX9_goes_33 rfl 2 rfl ?_
  obtain ⟨q7, h⟩ := ck h
  refine r_iald (pc' := 35) C hk1 (vin q7) dX9_goes_34 rfl ?_
  refine r_iadd (pc' := 36) C dX9_goes_35 rfl ?_
  obtain ⟨r8, e9, h⟩ := bd h
  refine r_cS1 (pc' := 39) C (J9_min_7cf53_ok  e9) mlX9_150 ceJ9_min_7cf53 csJ9_min_7cf53 rfl (Nat.le_of_ble_eq_true rfl) rfl (Nat.le_of_ble_eq_true rfl) dX9_goes_36 rfl (kk := ?_)
  obtain ⟨q10, h⟩ := ck h
  obtain ⟨σ11, e12, h⟩ := bs h
  refine r_iast (pc' := 40) (σ1 := σ11) C hk1 (vin q10) dX9_goes_39 rfl e12 ?_
  refine r_aload_n (pc' := 41) C dX9_goes_40 rfl 1 rfl ?_
  refine r_iload_n (pc' := 42) C dX9_goes_41 rfl 2 rfl ?_
  refine r_iconst (pc' := 43) C dX9_goes_42 rfl kc_0 ?_
  obtain ⟨q13, h⟩ := ck h
  obtain ⟨σ14, e15, h⟩ := bs h
  refine r_iast (pc' := 44) (σ1 := σ14) C hk1 (vin q13) dX9_goes_43 rfl e15 ?_
  refine r_aload_n (pc' := 45) C dX9_goes_44 rfl 1 rfl ?_
  refine r_bipush (pc' := 47) C dX9_goes_45 rfl kb_32 ?_
  refine r_dup2 (pc' := 48) C dX9_goes_47 rfl rfl rfl ?_
  obtain ⟨q16, h⟩ := ck h
  refine r_iald (pc' := 49) C hk1 (vin q16) dX9_goes_48 rfl ?_
  refine r_iconst (pc' := 50) C dX9_goes_49 rfl kc_1 ?_
  refine r_iload_n (pc' := 51) C dX9_goes_50 rfl 2 rfl ?_
  refine r_ishl (pc' := 52) C dX9_goes_51 rfl ?_
  refine r_ior (pc' := 53) C dX9_goes_52 rfl ?_
  obtain ⟨q17, h⟩ := ck h
  obtain ⟨σ18, e19, h⟩ := bs h
  refine r_iast (pc' := 54) (σ1 := σ18) C hk1 (vin q17) dX9_goes_53 rfl e19 ?_
  refine r_iconst (pc' := 55) C dX9_goes_54 rfl kc_0 ?_
  refine r_istore_n (pc' := 56) (lv2 := [(3, .int 0), (0, .ref 149), (1, .ref k1), (2, .int v2)]) C dX9_goes_55 rfl rfl (Nat.le_of_ble_eq_true rfl) rfl ?_
  refine r_sub [1, 2, 3, 0] rfl ?_
  exact X9_goes_l56_ok hk1 N _ _ _ _ h Z C hE

/-! BorrowedWeightModel.hourGoes([I)V -/
def X9_hourGoes_j55 (N : Nat) (k1 : Nat) (kr : Int32 → Int32 → Int32 → Sg → Option (Sg)) (v2 : Int32) (v3 : Int32) (v4 : Int32) (σ : Sg) : Option (Sg) :=
  (X9_has N v3 v4 σ).bind fun r9 => (if r9 = 0 then (kr v2 v3 (v4 + 1) σ) else (if inb (8 + v4) 37 = true then (X9_has N v2 v4 σ).bind fun r13 => (if r13 = 0 then ((J9_max_7cf53 N 0 ((gi σ k1 (8 + v4).toNatClampNeg) + (-1)) σ).bind fun r16 => (if inb (8 + v4) 37 = true then bnS (wi σ k1 (8 + v4).toNatClampNeg r16) fun σ19 => kr v2 v3 (v4 + 1) σ19 else none)) else ((J9_max_7cf53 N 0 ((gi σ k1 (8 + v4).toNatClampNeg) + 1) σ).bind fun r21 => (if inb (8 + v4) 37 = true then bnS (wi σ k1 (8 + v4).toNatClampNeg r21) fun σ24 => kr v2 v3 (v4 + 1) σ24 else none))) else none))
set_option maxRecDepth 100000 in
set_option maxHeartbeats 4000000 in
theorem X9_hourGoes_j55_ok {E : Ev} {k1 : Nat} (hk1 : MaAt SH0 k1) {N : Nat} {kr : Int32 → Int32 → Int32 → Sg → Option (Sg)}  (hkr : ∀ (v2 : Int32) (v3 : Int32) (v4 : Int32) (σ : Sg) (r : Sg), kr v2 v3 v4 σ = some r → Gp E RX9 cX9_hourGoes none 5 (7) SH0 r (none) σ 15 [(0, .ref 149), (1, .ref k1), (2, .int v2), (3, .int v3), (4, .int v4)] []) {v2 : Int32} {v3 : Int32} {v4 : Int32} {σ : Sg} {r : Sg} (h : X9_hourGoes_j55 N k1 kr v2 v3 v4 σ = some r) : Gp E RX9 cX9_hourGoes none 5 (7) SH0 r (none) σ 55 [(0, .ref 149), (1, .ref k1), (2, .int v2), (3, .int v3), (4, .int v4)] [] := by
  intro Z C hE
  unfold X9_hourGoes_j55 at h
  refine r_iload_n (pc' := 56) C dX9_hourGoes_55 rfl 3 rfl ?_
  refine r_iload (pc' := 58) C dX9_hourGoes_56 rfl 4 rfl ?_
  obtain ⟨r9, e10, h⟩ := bd h
  refine r_cS1 (pc' := 61) C (X9_has_ok  e10) mlX9_127 ceX9_has csX9_has rfl (Nat.le_of_ble_eq_true rfl) rfl (Nat.le_of_ble_eq_true rfl) dX9_hourGoes_58 rfl (kk := ?_)
  refine r_if_eq (tgt := 97) (pc' := 64) C dX9_hourGoes_61 rfl rfl (fun c11 => ?_) (fun c11 => ?_)
  · rw [if_pos c11] at h
    refine r_iinc (pc' := 100) (v := v4 + 1) (lv2 := [(4, .int (v4 + 1)), (0, .ref 149), (1, .ref k1), (2, .int v2), (3, .int v3)]) C dX9_hourGoes_97 rfl 4 rfl rfl (Nat.le_of_ble_eq_true rfl) rfl ?_
    refine r_goto (tgt := 15) C dX9_hourGoes_100 rfl ?_
    refine r_sub [1, 2, 3, 4, 0] rfl ?_
    exact hkr _ _ _ _ _ h Z C hE
  · rw [if_neg c11] at h
    refine r_aload_n (pc' := 65) C dX9_hourGoes_64 rfl 1 rfl ?_
    refine r_bipush (pc' := 67) C dX9_hourGoes_65 rfl kb_8 ?_
    refine r_iload (pc' := 69) C dX9_hourGoes_67 rfl 4 rfl ?_
    refine r_iadd (pc' := 70) C dX9_hourGoes_69 rfl ?_
    refine r_iconst (pc' := 71) C dX9_hourGoes_70 rfl kc_0 ?_
    refine r_aload_n (pc' := 72) C dX9_hourGoes_71 rfl 1 rfl ?_
    refine r_bipush (pc' := 74) C dX9_hourGoes_72 rfl kb_8 ?_
    refine r_iload (pc' := 76) C dX9_hourGoes_74 rfl 4 rfl ?_
    refine r_iadd (pc' := 77) C dX9_hourGoes_76 rfl ?_
    obtain ⟨q12, h⟩ := ck h
    refine r_iald (pc' := 78) C hk1 (vin q12) dX9_hourGoes_77 rfl ?_
    refine r_iload_n (pc' := 79) C dX9_hourGoes_78 rfl 2 rfl ?_
    refine r_iload (pc' := 81) C dX9_hourGoes_79 rfl 4 rfl ?_
    obtain ⟨r13, e14, h⟩ := bd h
    refine r_cS1 (pc' := 84) C (X9_has_ok  e14) mlX9_127 ceX9_has csX9_has rfl (Nat.le_of_ble_eq_true rfl) rfl (Nat.le_of_ble_eq_true rfl) dX9_hourGoes_81 rfl (kk := ?_)
    refine r_if_eq (tgt := 91) (pc' := 87) C dX9_hourGoes_84 rfl rfl (fun c15 => ?_) (fun c15 => ?_)
    · rw [if_pos c15] at h
      refine r_iconst (pc' := 92) C dX9_hourGoes_91 rfl kc_m1 ?_
      refine r_iadd (pc' := 93) C dX9_hourGoes_92 rfl ?_
      obtain ⟨r16, e17, h⟩ := bd h
      refine r_cS1 (pc' := 96) C (J9_max_7cf53_ok  e17) mlX9_267 ceJ9_max_7cf53 csJ9_max_7cf53 rfl (Nat.le_of_ble_eq_true rfl) rfl (Nat.le_of_ble_eq_true rfl) dX9_hourGoes_93 rfl (kk := ?_)
      obtain ⟨q18, h⟩ := ck h
      obtain ⟨σ19, e20, h⟩ := bs h
      refine r_iast (pc' := 97) (σ1 := σ19) C hk1 (vin q18) dX9_hourGoes_96 rfl e20 ?_
      refine r_iinc (pc' := 100) (v := v4 + 1) (lv2 := [(4, .int (v4 + 1)), (0, .ref 149), (1, .ref k1), (2, .int v2), (3, .int v3)]) C dX9_hourGoes_97 rfl 4 rfl rfl (Nat.le_of_ble_eq_true rfl) rfl ?_
      refine r_goto (tgt := 15) C dX9_hourGoes_100 rfl ?_
      refine r_sub [1, 2, 3, 4, 0] rfl ?_
      exact hkr _ _ _ _ _ h Z C hE
    · rw [if_neg c15] at h
      refine r_iconst (pc' := 88) C dX9_hourGoes_87 rfl kc_1 ?_
      refine r_goto (tgt := 92) C dX9_hourGoes_88 rfl ?_
      refine r_iadd (pc' := 93) C dX9_hourGoes_92 rfl ?_
      obtain ⟨r21, e22, h⟩ := bd h
      refine r_cS1 (pc' := 96) C (J9_max_7cf53_ok  e22) mlX9_267 ceJ9_max_7cf53 csJ9_max_7cf53 rfl (Nat.le_of_ble_eq_true rfl) rfl (Nat.le_of_ble_eq_true rfl) dX9_hourGoes_93 rfl (kk := ?_)
      obtain ⟨q23, h⟩ := ck h
      obtain ⟨σ24, e25, h⟩ := bs h
      refine r_iast (pc' := 97) (σ1 := σ24) C hk1 (vin q23) dX9_hourGoes_96 rfl e25 ?_
      refine r_iinc (pc' := 100) (v := v4 + 1) (lv2 := [(4, .int (v4 + 1)), (0, .ref 149), (1, .ref k1), (2, .int v2), (3, .int v3)]) C dX9_hourGoes_97 rfl 4 rfl rfl (Nat.le_of_ble_eq_true rfl) rfl ?_
      refine r_goto (tgt := 15) C dX9_hourGoes_100 rfl ?_
      refine r_sub [1, 2, 3, 4, 0] rfl ?_
      exact hkr _ _ _ _ _ h Z C hE
def X9_hourGoes_l15 (N : Nat) (k1 : Nat) (k103 : Sg → Option (Sg))  : Nat → Int32 → Int32 → Int32 → Sg → Option (Sg)
  | 0, _, _, _, _ => none
  | n + 1, v2, v3, v4, σ =>
    if (gi σ 149 3) ≤ v4 then (k103 σ) else ((X9_has N v2 v4 σ).bind fun r6 => (if r6 = 0 then (X9_hourGoes_j55 N k1 (fun v2 v3 v4 σ => X9_hourGoes_l15 N k1 k103 n v2 v3 v4 σ) v2 v3 v4 σ) else (if inb (8 + v4) 37 = true then if (gi σ k1 (8 + v4).toNatClampNeg) = 9 then ((X9_goes N k1 v4 σ).bind fun r28 => (X9_hourGoes_l15 N k1 k103 n v2 v3 (v4 + 1) r28)) else (X9_hourGoes_j55 N k1 (fun v2 v3 v4 σ => X9_hourGoes_l15 N k1 k103 n v2 v3 v4 σ) v2 v3 v4 σ) else none)))
set_option maxRecDepth 100000 in
set_option maxHeartbeats 4000000 in
theorem X9_hourGoes_l15_ok {E : Ev} {k1 : Nat} (hk1 : MaAt SH0 k1) {N : Nat} {k103 : Sg → Option (Sg)}  (hk103 : ∀ (σ : Sg) (r : Sg), k103 σ = some r → Gp E RX9 cX9_hourGoes none 5 (7) SH0 r (none) σ 103 [(0, .ref 149), (1, .ref k1)] []) : ∀ (n : Nat) (v2 : Int32) (v3 : Int32) (v4 : Int32) (σ : Sg) (r : Sg), X9_hourGoes_l15 N k1 k103 n v2 v3 v4 σ = some r → Gp E RX9 cX9_hourGoes none 5 (7) SH0 r (none) σ 15 [(0, .ref 149), (1, .ref k1), (2, .int v2), (3, .int v3), (4, .int v4)] [] := by
  intro n
  induction n with
  | zero => intro v2 v3 v4 σ r h; cases h
  | succ n ih =>
    intro v2 v3 v4 σ r h Z C hE
    unfold X9_hourGoes_l15 at h
    refine r_iload (pc' := 17) C dX9_hourGoes_15 rfl 4 rfl ?_
    refine r_aload_n (pc' := 18) C dX9_hourGoes_17 rfl 0 rfl ?_
    refine r_getI (pc' := 21) C flX9_116 sh_149 rfl dX9_hourGoes_18 rfl ?_
    refine r_icmp_ge (tgt := 103) (pc' := 24) C dX9_hourGoes_21 rfl rfl (fun c5 => ?_) (fun c5 => ?_)
    · rw [if_pos c5] at h
      refine r_sub [0, 1] rfl ?_
      exact hk103 _ _ h Z C hE
    · rw [if_neg c5] at h
      refine r_iload_n (pc' := 25) C dX9_hourGoes_24 rfl 2 rfl ?_
      refine r_iload (pc' := 27) C dX9_hourGoes_25 rfl 4 rfl ?_
      obtain ⟨r6, e7, h⟩ := bd h
      refine r_cS1 (pc' := 30) C (X9_has_ok  e7) mlX9_127 ceX9_has csX9_has rfl (Nat.le_of_ble_eq_true rfl) rfl (Nat.le_of_ble_eq_true rfl) dX9_hourGoes_27 rfl (kk := ?_)
      refine r_if_eq (tgt := 55) (pc' := 33) C dX9_hourGoes_30 rfl rfl (fun c8 => ?_) (fun c8 => ?_)
      · rw [if_pos c8] at h
        exact X9_hourGoes_j55_ok hk1 ih h Z C hE
      · rw [if_neg c8] at h
        refine r_aload_n (pc' := 34) C dX9_hourGoes_33 rfl 1 rfl ?_
        refine r_bipush (pc' := 36) C dX9_hourGoes_34 rfl kb_8 ?_
        refine r_iload (pc' := 38) C dX9_hourGoes_36 rfl 4 rfl ?_
        refine r_iadd (pc' := 39) C dX9_hourGoes_38 rfl ?_
        obtain ⟨q26, h⟩ := ck h
        refine r_iald (pc' := 40) C hk1 (vin q26) dX9_hourGoes_39 rfl ?_
        refine r_bipush (pc' := 42) C dX9_hourGoes_40 rfl kb_9 ?_
        refine r_icmp_ne (tgt := 55) (pc' := 45) C dX9_hourGoes_42 rfl rfl (fun c27 => ?_) (fun c27 => ?_)
        · rw [if_neg c27] at h
          exact X9_hourGoes_j55_ok hk1 ih h Z C hE
        · rw [if_pos c27] at h
          refine r_aload_n (pc' := 46) C dX9_hourGoes_45 rfl 0 rfl ?_
          refine r_aload_n (pc' := 47) C dX9_hourGoes_46 rfl 1 rfl ?_
          refine r_iload (pc' := 49) C dX9_hourGoes_47 rfl 4 rfl ?_
          obtain ⟨r28, e29, h⟩ := bd h
          refine r_cV0 (pc' := 52) C (X9_goes_ok hk1 e29) mlX9_310 ceX9_goes cvX9_goes sh_149 rfl rfl rfl (Nat.le_of_ble_eq_true rfl) rfl (Nat.le_of_ble_eq_true rfl) dX9_hourGoes_49 rfl (kk := ?_)
          refine r_goto (tgt := 97) C dX9_hourGoes_52 rfl ?_
          refine r_iinc (pc' := 100) (v := v4 + 1) (lv2 := [(4, .int (v4 + 1)), (0, .ref 149), (1, .ref k1), (2, .int v2), (3, .int v3)]) C dX9_hourGoes_97 rfl 4 rfl rfl (Nat.le_of_ble_eq_true rfl) rfl ?_
          refine r_goto (tgt := 15) C dX9_hourGoes_100 rfl ?_
          refine r_sub [1, 2, 3, 4, 0] rfl ?_
          exact ih _ _ _ _ _ h Z C hE
def X9_hourGoes_l106 (N : Nat) (k1 : Nat) (k168 : Sg → Option (Sg))  : Nat → Int32 → Sg → Option (Sg)
  | 0, _, _ => none
  | n + 1, v4, σ =>
    if (gi σ 149 3) ≤ v4 then (k168 σ) else (if inb 32 37 = true then (X9_has N (gi σ k1 (32 : Int32).toNatClampNeg) v4 σ).bind fun r32 => (if r32 = 0 then (if inb (16 + v4) 37 = true then if inb v4 37 = true then (J9_min_7cf53 N 999 ((gi σ k1 (16 + v4).toNatClampNeg) + (gi σ k1 v4.toNatClampNeg)) σ).bind fun r37 => (if inb (16 + v4) 37 = true then bnS (wi σ k1 (16 + v4).toNatClampNeg r37) fun σ40 => X9_hourGoes_l106 N k1 k168 n (v4 + 1) σ40 else none) else none else none) else (if inb (16 + v4) 37 = true then if inb (16 + v4) 37 = true then bnS (wi σ k1 (16 + v4).toNatClampNeg (gi σ k1 (16 + v4).toNatClampNeg)) fun σ44 => X9_hourGoes_l106 N k1 k168 n (v4 + 1) σ44 else none else none)) else none)
set_option maxRecDepth 100000 in
set_option maxHeartbeats 4000000 in
theorem X9_hourGoes_l106_ok {E : Ev} {k1 : Nat} (hk1 : MaAt SH0 k1) {N : Nat} {k168 : Sg → Option (Sg)}  (hk168 : ∀ (σ : Sg) (r : Sg), k168 σ = some r → Gp E RX9 cX9_hourGoes none 5 (7) SH0 r (none) σ 168 [(1, .ref k1)] []) : ∀ (n : Nat) (v4 : Int32) (σ : Sg) (r : Sg), X9_hourGoes_l106 N k1 k168 n v4 σ = some r → Gp E RX9 cX9_hourGoes none 5 (7) SH0 r (none) σ 106 [(0, .ref 149), (1, .ref k1), (4, .int v4)] [] := by
  intro n
  induction n with
  | zero => intro v4 σ r h; cases h
  | succ n ih =>
    intro v4 σ r h Z C hE
    unfold X9_hourGoes_l106 at h
    refine r_iload (pc' := 108) C dX9_hourGoes_106 rfl 2 rfl ?_
    refine r_aload_n (pc' := 109) C dX9_hourGoes_108 rfl 0 rfl ?_
    refine r_getI (pc' := 112) C flX9_116 sh_149 rfl dX9_hourGoes_109 rfl ?_
    refine r_icmp_ge (tgt := 168) (pc' := 115) C dX9_hourGoes_112 rfl rfl (fun c30 => ?_) (fun c30 => ?_)
    · rw [if_pos c30] at h
      refine r_sub [1] rfl ?_
      exact hk168 _ _ h Z C hE
    · rw [if_neg c30] at h
      refine r_aload_n (pc' := 116) C dX9_hourGoes_115 rfl 1 rfl ?_
      refine r_bipush (pc' := 118) C dX9_hourGoes_116 rfl kb_16 ?_
      refine r_iload (pc' := 120) C dX9_hourGoes_118 rfl 2 rfl ?_
      refine r_iadd (pc' := 121) C dX9_hourGoes_120 rfl ?_
      refine r_aload_n (pc' := 122) C dX9_hourGoes_121 rfl 1 rfl ?_
      refine r_bipush (pc' := 124) C dX9_hourGoes_122 rfl kb_32 ?_
      obtain ⟨q31, h⟩ := ck h
      refine r_iald (pc' := 125) C hk1 (vin q31) dX9_hourGoes_124 rfl ?_
      refine r_iload (pc' := 127) C dX9_hourGoes_125 rfl 2 rfl ?_
      obtain ⟨r32, e33, h⟩ := bd h
      refine r_cS1 (pc' := 130) C (X9_has_ok  e33) mlX9_127 ceX9_has csX9_has rfl (Nat.le_of_ble_eq_true rfl) rfl (Nat.le_of_ble_eq_true rfl) dX9_hourGoes_127 rfl (kk := ?_)
      refine r_if_eq (tgt := 143) (pc' := 133) C dX9_hourGoes_130 rfl rfl (fun c34 => ?_) (fun c34 => ?_)
      · rw [if_pos c34] at h
        refine r_sipush (pc' := 146) C dX9_hourGoes_143 rfl ks_999 ?_
        refine r_aload_n (pc' := 147) C dX9_hourGoes_146 rfl 1 rfl ?_
        refine r_bipush (pc' := 149) C dX9_hourGoes_147 rfl kb_16 ?_
        refine r_iload (pc' := 151) C dX9_hourGoes_149 rfl 2 rfl ?_
        refine r_iadd (pc' := 152) C dX9_hourGoes_151 rfl ?_
        obtain ⟨q35, h⟩ := ck h
        refine r_iald (pc' := 153) C hk1 (vin q35) dX9_hourGoes_152 rfl ?_
        refine r_aload_n (pc' := 154) C dX9_hourGoes_153 rfl 1 rfl ?_
        refine r_iload (pc' := 156) C dX9_hourGoes_154 rfl 2 rfl ?_
        obtain ⟨q36, h⟩ := ck h
        refine r_iald (pc' := 157) C hk1 (vin q36) dX9_hourGoes_156 rfl ?_
        refine r_iadd (pc' := 158) C dX9_hourGoes_157 rfl ?_
        obtain ⟨r37, e38, h⟩ := bd h
        refine r_cS1 (pc' := 161) C (J9_min_7cf53_ok  e38) mlX9_150 ceJ9_min_7cf53 csJ9_min_7cf53 rfl (Nat.le_of_ble_eq_true rfl) rfl (Nat.le_of_ble_eq_true rfl) dX9_hourGoes_158 rfl (kk := ?_)
        obtain ⟨q39, h⟩ := ck h
        obtain ⟨σ40, e41, h⟩ := bs h
        refine r_iast (pc' := 162) (σ1 := σ40) C hk1 (vin q39) dX9_hourGoes_161 rfl e41 ?_
        refine r_iinc (pc' := 165) (v := v4 + 1) (lv2 := [(4, .int (v4 + 1)), (0, .ref 149), (1, .ref k1)]) C dX9_hourGoes_162 rfl 2 rfl rfl (Nat.le_of_ble_eq_true rfl) rfl ?_
        refine r_goto (tgt := 106) C dX9_hourGoes_165 rfl ?_
        refine r_sub [1, 2, 0] rfl ?_
        exact ih _ _ _ h Z C hE
      · rw [if_neg c34] at h
        refine r_aload_n (pc' := 134) C dX9_hourGoes_133 rfl 1 rfl ?_
        refine r_bipush (pc' := 136) C dX9_hourGoes_134 rfl kb_16 ?_
        refine r_iload (pc' := 138) C dX9_hourGoes_136 rfl 2 rfl ?_
        refine r_iadd (pc' := 139) C dX9_hourGoes_138 rfl ?_
        obtain ⟨q42, h⟩ := ck h
        refine r_iald (pc' := 140) C hk1 (vin q42) dX9_hourGoes_139 rfl ?_
        refine r_goto (tgt := 161) C dX9_hourGoes_140 rfl ?_
        obtain ⟨q43, h⟩ := ck h
        obtain ⟨σ44, e45, h⟩ := bs h
        refine r_iast (pc' := 162) (σ1 := σ44) C hk1 (vin q43) dX9_hourGoes_161 rfl e45 ?_
        refine r_iinc (pc' := 165) (v := v4 + 1) (lv2 := [(4, .int (v4 + 1)), (0, .ref 149), (1, .ref k1)]) C dX9_hourGoes_162 rfl 2 rfl rfl (Nat.le_of_ble_eq_true rfl) rfl ?_
        refine r_goto (tgt := 106) C dX9_hourGoes_165 rfl ?_
        refine r_sub [1, 2, 0] rfl ?_
        exact ih _ _ _ h Z C hE
def X9_hourGoes_j168 (N : Nat) (k1 : Nat)   (σ : Sg) : Option (Sg) :=
  if inb 36 37 = true then if inb 36 37 = true then bnS (wi σ k1 (36 : Int32).toNatClampNeg ((gi σ k1 (36 : Int32).toNatClampNeg) + 1)) fun σ48 => some σ48 else none else none
set_option maxRecDepth 100000 in
set_option maxHeartbeats 4000000 in
theorem X9_hourGoes_j168_ok {E : Ev} {k1 : Nat} (hk1 : MaAt SH0 k1) {N : Nat}     {σ : Sg} {r : Sg} (h : X9_hourGoes_j168 N k1   σ = some r) : Gp E RX9 cX9_hourGoes none 5 (7) SH0 r (none) σ 168 [(1, .ref k1)] [] := by
  intro Z C hE
  unfold X9_hourGoes_j168 at h
  refine r_aload_n (pc' := 169) C dX9_hourGoes_168 rfl 0 rfl ?_
  refine r_bipush (pc' := 171) C dX9_hourGoes_169 rfl kb_36 ?_
  refine r_dup2 (pc' := 172) C dX9_hourGoes_171 rfl rfl rfl ?_
  obtain ⟨q46, h⟩ := ck h
  refine r_iald (pc' := 173) C hk1 (vin q46) dX9_hourGoes_172 rfl ?_
  refine r_iconst (pc' := 174) C dX9_hourGoes_173 rfl kc_1 ?_
  refine r_iadd (pc' := 175) C dX9_hourGoes_174 rfl ?_
  obtain ⟨q47, h⟩ := ck h
  obtain ⟨σ48, e49, h⟩ := bs h
  refine r_iast (pc' := 176) (σ1 := σ48) C hk1 (vin q47) dX9_hourGoes_175 rfl e49 ?_
  have h := Option.some.inj h
  subst h
  exact r_vret C dX9_hourGoes_176 hE
def X9_hourGoes_j103 (N : Nat) (k1 : Nat)   (σ : Sg) : Option (Sg) :=
  X9_hourGoes_l106 N k1 (fun σ => X9_hourGoes_j168 N k1 σ) N 0 σ
set_option maxRecDepth 100000 in
set_option maxHeartbeats 4000000 in
theorem X9_hourGoes_j103_ok {E : Ev} {k1 : Nat} (hk1 : MaAt SH0 k1) {N : Nat}     {σ : Sg} {r : Sg} (h : X9_hourGoes_j103 N k1   σ = some r) : Gp E RX9 cX9_hourGoes none 5 (7) SH0 r (none) σ 103 [(0, .ref 149), (1, .ref k1)] [] := by
  intro Z C hE
  unfold X9_hourGoes_j103 at h
  refine r_iconst (pc' := 104) C dX9_hourGoes_103 rfl kc_0 ?_
  refine r_istore (pc' := 106) (lv2 := [(4, .int 0), (0, .ref 149), (1, .ref k1)]) C dX9_hourGoes_104 rfl (Nat.le_of_ble_eq_true rfl) rfl ?_
  refine r_sub [1, 2, 0] rfl ?_
  exact X9_hourGoes_l106_ok hk1 (fun _ _ h Z C hE => by exact X9_hourGoes_j168_ok hk1 h Z C hE) N _ _ _ h Z C hE
def X9_hourGoes (N : Nat) (k1 : Nat)  (σ : Sg) : Option (Sg) :=
  (X9_floating N k1 σ).bind fun r1 => ((X9_here N k1 r1.2).bind fun r3 => (X9_hourGoes_l15 N k1 (fun σ => X9_hourGoes_j103 N k1 σ) N r1.1 r3 0 r1.2))
set_option maxRecDepth 100000 in
set_option maxHeartbeats 4000000 in
theorem X9_hourGoes_ok {E : Ev} {k1 : Nat} (hk1 : MaAt SH0 k1) {N : Nat}  {σ : Sg} {r : Sg} (h : X9_hourGoes N k1  σ = some r) : Cm E (7) yX9_hourGoes cX9_hourGoes 5 none [.ref 149, .ref k1] SH0 SH0 σ r (none) 0 0 := by
  refine Cm.intro (by decide +kernel) (Nat.le_of_ble_eq_true rfl) (fun _ h => by obtain ⟨_, _, _, _, _, _, h⟩ := h; exact h) (fun Z C hE => ?_)
  show Wm E Z 0 0 SH0 σ 0 [(0, .ref 149), (1, .ref k1)] []
  unfold X9_hourGoes at h
  refine r_aload_n (pc' := 1) C dX9_hourGoes_0 rfl 0 rfl ?_
  refine r_aload_n (pc' := 2) C dX9_hourGoes_1 rfl 1 rfl ?_
  obtain ⟨r1, e2, h⟩ := bd h
  refine r_cV1 (pc' := 5) C (X9_floating_ok hk1 e2) mlX9_303 ceX9_floating cvX9_floating sh_149 rfl rfl rfl (Nat.le_of_ble_eq_true rfl) rfl (Nat.le_of_ble_eq_true rfl) dX9_hourGoes_2 rfl (kk := ?_)
  refine r_istore_n (pc' := 6) (lv2 := [(2, .int r1.1), (0, .ref 149), (1, .ref k1)]) C dX9_hourGoes_5 rfl rfl (Nat.le_of_ble_eq_true rfl) rfl ?_
  refine r_aload_n (pc' := 7) C dX9_hourGoes_6 rfl 1 rfl ?_
  refine r_aload_n (pc' := 8) C dX9_hourGoes_7 rfl 2 rfl ?_
  obtain ⟨r3, e4, h⟩ := bd h
  refine r_cV1 (pc' := 11) C (X9_here_ok hk1 e4) mlX9_307 ceX9_here cvX9_here sh_149 rfl rfl rfl (Nat.le_of_ble_eq_true rfl) rfl (Nat.le_of_ble_eq_true rfl) dX9_hourGoes_8 rfl (kk := ?_)
  refine r_istore_n (pc' := 12) (lv2 := [(3, .int r3), (2, .int r1.1), (0, .ref 149), (1, .ref k1)]) C dX9_hourGoes_11 rfl rfl (Nat.le_of_ble_eq_true rfl) rfl ?_
  refine r_iconst (pc' := 13) C dX9_hourGoes_12 rfl kc_0 ?_
  refine r_istore (pc' := 15) (lv2 := [(4, .int 0), (3, .int r3), (2, .int r1.1), (0, .ref 149), (1, .ref k1)]) C dX9_hourGoes_13 rfl (Nat.le_of_ble_eq_true rfl) rfl ?_
  refine r_sub [3, 4, 2, 1, 0] rfl ?_
  exact X9_hourGoes_l15_ok hk1 (fun _ _ h Z C hE => by exact X9_hourGoes_j103_ok hk1 h Z C hE) N _ _ _ _ _ h Z C hE

/-! BorrowedWeightModel.goesOn([II)V -/
def X9_goesOn_l12 (N : Nat) (k1 : Nat)   : Nat → Int32 → Int32 → Sg → Option (Sg)
  | 0, _, _, _ => none
  | n + 1, v2, v3, σ =>
    if v2 ≤ v3 then (some σ) else ((X9_hourGoes N k1 σ).bind fun r6 => (X9_goesOn_l12 N k1 n v2 (v3 + 1) r6))
set_option maxRecDepth 100000 in
set_option maxHeartbeats 4000000 in
theorem X9_goesOn_l12_ok {E : Ev} {k1 : Nat} (hk1 : MaAt SH0 k1) {N : Nat}    : ∀ (n : Nat) (v2 : Int32) (v3 : Int32) (σ : Sg) (r : Sg), X9_goesOn_l12 N k1 n v2 v3 σ = some r → Gp E RX9 cX9_goesOn none 4 (8) SH0 r (none) σ 12 [(0, .ref 149), (1, .ref k1), (2, .int v2), (3, .int v3)] [] := by
  intro n
  induction n with
  | zero => intro v2 v3 σ r h; cases h
  | succ n ih =>
    intro v2 v3 σ r h Z C hE
    unfold X9_goesOn_l12 at h
    refine r_iload_n (pc' := 13) C dX9_goesOn_12 rfl 3 rfl ?_
    refine r_iload_n (pc' := 14) C dX9_goesOn_13 rfl 2 rfl ?_
    refine r_icmp_ge (tgt := 28) (pc' := 17) C dX9_goesOn_14 rfl rfl (fun c5 => ?_) (fun c5 => ?_)
    · rw [if_pos c5] at h
      have h := Option.some.inj h
      subst h
      exact r_vret C dX9_goesOn_28 hE
    · rw [if_neg c5] at h
      refine r_aload_n (pc' := 18) C dX9_goesOn_17 rfl 0 rfl ?_
      refine r_aload_n (pc' := 19) C dX9_goesOn_18 rfl 1 rfl ?_
      obtain ⟨r6, e7, h⟩ := bd h
      refine r_cV0 (pc' := 22) C (X9_hourGoes_ok hk1 e7) mlX9_313 ceX9_hourGoes cvX9_hourGoes sh_149 rfl rfl rfl (Nat.le_of_ble_eq_true rfl) rfl (Nat.le_of_ble_eq_true rfl) dX9_goesOn_19 rfl (kk := ?_)
      refine r_iinc (pc' := 25) (v := v3 + 1) (lv2 := [(3, .int (v3 + 1)), (0, .ref 149), (1, .ref k1), (2, .int v2)]) C dX9_goesOn_22 rfl 3 rfl rfl (Nat.le_of_ble_eq_true rfl) rfl ?_
      refine r_goto (tgt := 12) C dX9_goesOn_25 rfl ?_
      refine r_sub [1, 2, 3, 0] rfl ?_
      exact ih _ _ _ _ h Z C hE
def X9_goesOn (N : Nat) (k1 : Nat) (v2 : Int32) (σ : Sg) : Option (Sg) :=
  bnS (wi σ 149 25 0) fun σ1 => bnS (wi σ1 149 26 0) fun σ3 => X9_goesOn_l12 N k1 N v2 0 σ3
set_option maxRecDepth 100000 in
set_option maxHeartbeats 4000000 in
theorem X9_goesOn_ok {E : Ev} {k1 : Nat} (hk1 : MaAt SH0 k1) {N : Nat} {v2 : Int32} {σ : Sg} {r : Sg} (h : X9_goesOn N k1 v2 σ = some r) : Cm E (8) yX9_goesOn cX9_goesOn 4 none [.ref 149, .ref k1, .int v2] SH0 SH0 σ r (none) 0 0 := by
  refine Cm.intro (by decide +kernel) (Nat.le_of_ble_eq_true rfl) (fun _ h => by obtain ⟨_, _, _, _, _, _, h⟩ := h; exact h) (fun Z C hE => ?_)
  show Wm E Z 0 0 SH0 σ 0 [(0, .ref 149), (1, .ref k1), (2, .int v2)] []
  unfold X9_goesOn at h
  refine r_aload_n (pc' := 1) C dX9_goesOn_0 rfl 0 rfl ?_
  refine r_iconst (pc' := 2) C dX9_goesOn_1 rfl kc_0 ?_
  obtain ⟨σ1, e2, h⟩ := bs h
  refine r_putI (pc' := 5) (σ1 := σ1) C fpX9_297 sh_149 rfl rfl rfl dX9_goesOn_2 rfl e2 ?_
  refine r_aload_n (pc' := 6) C dX9_goesOn_5 rfl 0 rfl ?_
  refine r_iconst (pc' := 7) C dX9_goesOn_6 rfl kc_0 ?_
  obtain ⟨σ3, e4, h⟩ := bs h
  refine r_putI (pc' := 10) (σ1 := σ3) C fpX9_300 sh_149 rfl rfl rfl dX9_goesOn_7 rfl e4 ?_
  refine r_iconst (pc' := 11) C dX9_goesOn_10 rfl kc_0 ?_
  refine r_istore_n (pc' := 12) (lv2 := [(3, .int 0), (0, .ref 149), (1, .ref k1), (2, .int v2)]) C dX9_goesOn_11 rfl rfl (Nat.le_of_ble_eq_true rfl) rfl ?_
  refine r_sub [1, 2, 3, 0] rfl ?_
  exact X9_goesOn_l12_ok hk1 N _ _ _ _ h Z C hE

/-! BorrowedWeightModel.enters(J)V -/
def X9_enters (N : Nat)  (v1 : Int64) (σ : Sg) : Option (Sg) :=
  if inb (gi σ 149 1) 24 = true then bnS (wl σ 150 (gi σ 149 1).toNatClampNeg v1) fun σ2 => bnS (wi σ2 149 1 ((gi σ2 149 1) + 1)) fun σ4 => some σ4 else none
set_option maxRecDepth 100000 in
set_option maxHeartbeats 4000000 in
theorem X9_enters_ok {E : Ev}  {N : Nat} {v1 : Int64} {σ : Sg} {r : Sg} (h : X9_enters N  v1 σ = some r) : Cm E (0) yX9_enters cX9_enters 3 none [.ref 149, .long v1] SH0 SH0 σ r (none) 0 0 := by
  refine Cm.intro (by decide +kernel) (Nat.le_of_ble_eq_true rfl) (fun _ h => by obtain ⟨_, _, _, _, _, _, h⟩ := h; exact h) (fun Z C hE => ?_)
  show Wm E Z 0 0 SH0 σ 0 [(0, .ref 149), (1, .long v1)] []
  unfold X9_enters at h
  refine r_aload_n (pc' := 1) C dX9_enters_0 rfl 0 rfl ?_
  refine r_getR (pc' := 4) C flX9_11 sh_149 rfl dX9_enters_1 rfl ?_
  refine r_aload_n (pc' := 5) C dX9_enters_4 rfl 0 rfl ?_
  refine r_getI (pc' := 8) C flX9_15 sh_149 rfl dX9_enters_5 rfl ?_
  refine r_lload_n (pc' := 9) C dX9_enters_8 rfl 1 rfl ?_
  obtain ⟨q1, h⟩ := ck h
  obtain ⟨σ2, e3, h⟩ := bs h
  refine r_last (pc' := 10) (σ1 := σ2) C sh_150 (vin q1) dX9_enters_9 rfl e3 ?_
  refine r_aload_n (pc' := 11) C dX9_enters_10 rfl 0 rfl ?_
  refine r_dup (pc' := 12) C dX9_enters_11 rfl rfl ?_
  refine r_getI (pc' := 15) C flX9_15 sh_149 rfl dX9_enters_12 rfl ?_
  refine r_iconst (pc' := 16) C dX9_enters_15 rfl kc_1 ?_
  refine r_iadd (pc' := 17) C dX9_enters_16 rfl ?_
  obtain ⟨σ4, e5, h⟩ := bs h
  refine r_putI (pc' := 20) (σ1 := σ4) C fpX9_15 sh_149 rfl rfl rfl dX9_enters_17 rfl e5 ?_
  have h := Option.some.inj h
  subst h
  exact r_vret C dX9_enters_20 hE

/-! BorrowedWeightModel.hours(I)I -/
def X9_hours (N : Nat)  (v1 : Int32) (σ : Sg) : Option (Int32 × Sg) :=
  bnS (wi σ 149 0 0) fun σ1 => (X9_in N v1.toInt64 0 60 σ1).bind fun r3 => (if r3 = 0 then (some ((-1), σ1)) else ((X9_putsBy N σ1).bind fun r6 => ((X9_goesOn N 153 v1 r6).bind fun r8 => (bnS (wi r8 149 1 0) fun σ10 => (X9_enters N ((gi σ10 149 25).toInt64) σ10).bind fun r12 => ((X9_enters N ((gi r12 149 26).toInt64) r12).bind fun r14 => ((X9_here N 153 r14).bind fun r16 => ((X9_adds N r16 r14).bind fun r18 => (some (r18.1, r18.2)))))))))
set_option maxRecDepth 100000 in
set_option maxHeartbeats 4000000 in
theorem X9_hours_ok {E : Ev}  {N : Nat} {v1 : Int32} {σ : Sg} {r : Int32 × Sg} (h : X9_hours N  v1 σ = some r) : Cm E (9) yX9_hours cX9_hours 2 (some .int) [.ref 149, .int v1] SH0 SH0 σ r.2 (some (.int r.1)) 0 0 := by
  refine Cm.intro (by decide +kernel) (Nat.le_of_ble_eq_true rfl) (fun _ h => by obtain ⟨_, _, _, _, _, _, h⟩ := h; exact h) (fun Z C hE => ?_)
  show Wm E Z 0 0 SH0 σ 0 [(0, .ref 149), (1, .int v1)] []
  unfold X9_hours at h
  refine r_aload_n (pc' := 1) C dX9_hours_0 rfl 0 rfl ?_
  refine r_iconst (pc' := 2) C dX9_hours_1 rfl kc_0 ?_
  obtain ⟨σ1, e2, h⟩ := bs h
  refine r_putI (pc' := 5) (σ1 := σ1) C fpX9_3 sh_149 rfl rfl rfl dX9_hours_2 rfl e2 ?_
  refine r_iload_n (pc' := 6) C dX9_hours_5 rfl 1 rfl ?_
  refine r_i2l (pc' := 7) C dX9_hours_6 rfl rfl ?_
  refine r_lconst (pc' := 8) C dX9_hours_7 rfl kl_0 ?_
  refine r_ldc2 (pc' := 11) C cnX9_322 dX9_hours_8 rfl ?_
  obtain ⟨r3, e4, h⟩ := bd h
  refine r_cS1 (pc' := 14) C (X9_in_ok  e4) mlX9_119 ceX9_in csX9_in rfl (Nat.le_of_ble_eq_true rfl) rfl (Nat.le_of_ble_eq_true rfl) dX9_hours_11 rfl (kk := ?_)
  refine r_if_ne (tgt := 19) (pc' := 17) C dX9_hours_14 rfl rfl (fun c5 => ?_) (fun c5 => ?_)
  · rw [if_neg c5] at h
    refine r_aload_n (pc' := 20) C dX9_hours_19 rfl 0 rfl ?_
    obtain ⟨r6, e7, h⟩ := bd h
    refine r_cV0 (pc' := 23) C (X9_putsBy_ok  e7) mlX9_209 ceX9_putsBy cvX9_putsBy sh_149 rfl rfl rfl (Nat.le_of_ble_eq_true rfl) rfl (Nat.le_of_ble_eq_true rfl) dX9_hours_20 rfl (kk := ?_)
    refine r_aload_n (pc' := 24) C dX9_hours_23 rfl 0 rfl ?_
    refine r_aload_n (pc' := 25) C dX9_hours_24 rfl 0 rfl ?_
    refine r_getR (pc' := 28) C flX9_34 sh_149 rfl dX9_hours_25 rfl ?_
    refine r_iload_n (pc' := 29) C dX9_hours_28 rfl 1 rfl ?_
    obtain ⟨r8, e9, h⟩ := bd h
    refine r_cV0 (pc' := 32) C (X9_goesOn_ok mac_153 e9) mlX9_324 ceX9_goesOn cvX9_goesOn sh_149 rfl rfl rfl (Nat.le_of_ble_eq_true rfl) rfl (Nat.le_of_ble_eq_true rfl) dX9_hours_29 rfl (kk := ?_)
    refine r_aload_n (pc' := 33) C dX9_hours_32 rfl 0 rfl ?_
    refine r_iconst (pc' := 34) C dX9_hours_33 rfl kc_0 ?_
    obtain ⟨σ10, e11, h⟩ := bs h
    refine r_putI (pc' := 37) (σ1 := σ10) C fpX9_15 sh_149 rfl rfl rfl dX9_hours_34 rfl e11 ?_
    refine r_aload_n (pc' := 38) C dX9_hours_37 rfl 0 rfl ?_
    refine r_aload_n (pc' := 39) C dX9_hours_38 rfl 0 rfl ?_
    refine r_getI (pc' := 42) C flX9_297 sh_149 rfl dX9_hours_39 rfl ?_
    refine r_i2l (pc' := 43) C dX9_hours_42 rfl rfl ?_
    obtain ⟨r12, e13, h⟩ := bd h
    refine r_cV0 (pc' := 46) C (X9_enters_ok  e13) mlX9_327 ceX9_enters cvX9_enters sh_149 rfl rfl rfl (Nat.le_of_ble_eq_true rfl) rfl (Nat.le_of_ble_eq_true rfl) dX9_hours_43 rfl (kk := ?_)
    refine r_aload_n (pc' := 47) C dX9_hours_46 rfl 0 rfl ?_
    refine r_aload_n (pc' := 48) C dX9_hours_47 rfl 0 rfl ?_
    refine r_getI (pc' := 51) C flX9_300 sh_149 rfl dX9_hours_48 rfl ?_
    refine r_i2l (pc' := 52) C dX9_hours_51 rfl rfl ?_
    obtain ⟨r14, e15, h⟩ := bd h
    refine r_cV0 (pc' := 55) C (X9_enters_ok  e15) mlX9_327 ceX9_enters cvX9_enters sh_149 rfl rfl rfl (Nat.le_of_ble_eq_true rfl) rfl (Nat.le_of_ble_eq_true rfl) dX9_hours_52 rfl (kk := ?_)
    refine r_aload_n (pc' := 56) C dX9_hours_55 rfl 0 rfl ?_
    refine r_aload_n (pc' := 57) C dX9_hours_56 rfl 0 rfl ?_
    refine r_aload_n (pc' := 58) C dX9_hours_57 rfl 0 rfl ?_
    refine r_getR (pc' := 61) C flX9_34 sh_149 rfl dX9_hours_58 rfl ?_
    obtain ⟨r16, e17, h⟩ := bd h
    refine r_cV1 (pc' := 64) C (X9_here_ok mac_153 e17) mlX9_307 ceX9_here cvX9_here sh_149 rfl rfl rfl (Nat.le_of_ble_eq_true rfl) rfl (Nat.le_of_ble_eq_true rfl) dX9_hours_61 rfl (kk := ?_)
    obtain ⟨r18, e19, h⟩ := bd h
    refine r_cV1 (pc' := 67) C (X9_adds_ok  e19) mlX9_216 ceX9_adds cvX9_adds sh_149 rfl rfl rfl (Nat.le_of_ble_eq_true rfl) rfl (Nat.le_of_ble_eq_true rfl) dX9_hours_64 rfl (kk := ?_)
    have h := Option.some.inj h
    subst h
    exact r_ret C rfl dX9_hours_67 hE
  · rw [if_pos c5] at h
    refine r_iconst (pc' := 18) C dX9_hours_17 rfl kc_m1 ?_
    have h := Option.some.inj h
    subst h
    exact r_ret C rfl dX9_hours_18 hE

/-! BorrowedWeightModel.lendsTo([III)I -/
def X9_lendsTo (N : Nat) (k1 : Nat) (v2 : Int32) (v3 : Int32) (σ : Sg) : Option (Int32 × Sg) :=
  (X9_isThing N v2 σ).bind fun r1 => (if r1 = 0 then (some ((-1), σ)) else ((X9_in N v3.toInt64 1 9 σ).bind fun r4 => (if r4 = 0 then (some ((-1), σ)) else ((X9_isHere N k1 v2 σ).bind fun r7 => (if r7 = 0 then (some ((-2), σ)) else (if inb 33 37 = true then if v3 ≤ (gi σ k1 (33 : Int32).toNatClampNeg) then (if inb v2 37 = true then if ((gi σ k1 v2.toNatClampNeg) + v3) ≤ 9 then (if inb v2 37 = true then if inb v2 37 = true then bnS (wi σ k1 v2.toNatClampNeg ((gi σ k1 v2.toNatClampNeg) + v3)) fun σ16 => if inb 33 37 = true then if inb 33 37 = true then bnS (wi σ16 k1 (33 : Int32).toNatClampNeg ((gi σ16 k1 (33 : Int32).toNatClampNeg) - v3)) fun σ20 => if inb v2 37 = true then some (gi σ20 k1 v2.toNatClampNeg, σ20) else none else none else none else none else none) else (some ((-4), σ)) else none) else (some ((-3), σ)) else none))))))
set_option maxRecDepth 100000 in
set_option maxHeartbeats 4000000 in
theorem X9_lendsTo_ok {E : Ev} {k1 : Nat} (hk1 : MaAt SH0 k1) {N : Nat} {v2 : Int32} {v3 : Int32} {σ : Sg} {r : Int32 × Sg} (h : X9_lendsTo N k1 v2 v3 σ = some r) : Cm E (3) yX9_lendsTo cX9_lendsTo 4 (some .int) [.ref 149, .ref k1, .int v2, .int v3] SH0 SH0 σ r.2 (some (.int r.1)) 0 0 := by
  refine Cm.intro (by decide +kernel) (Nat.le_of_ble_eq_true rfl) (fun _ h => by obtain ⟨_, _, _, _, _, _, h⟩ := h; exact h) (fun Z C hE => ?_)
  show Wm E Z 0 0 SH0 σ 0 [(0, .ref 149), (1, .ref k1), (2, .int v2), (3, .int v3)] []
  unfold X9_lendsTo at h
  refine r_aload_n (pc' := 1) C dX9_lendsTo_0 rfl 0 rfl ?_
  refine r_iload_n (pc' := 2) C dX9_lendsTo_1 rfl 2 rfl ?_
  obtain ⟨r1, e2, h⟩ := bd h
  refine r_cV1 (pc' := 5) C (X9_isThing_ok  e2) mlX9_123 ceX9_isThing cvX9_isThing sh_149 rfl rfl rfl (Nat.le_of_ble_eq_true rfl) rfl (Nat.le_of_ble_eq_true rfl) dX9_lendsTo_2 rfl (kk := ?_)
  refine r_if_eq (tgt := 20) (pc' := 8) C dX9_lendsTo_5 rfl rfl (fun c3 => ?_) (fun c3 => ?_)
  · rw [if_pos c3] at h
    refine r_iconst (pc' := 21) C dX9_lendsTo_20 rfl kc_m1 ?_
    have h := Option.some.inj h
    subst h
    exact r_ret C rfl dX9_lendsTo_21 hE
  · rw [if_neg c3] at h
    refine r_iload_n (pc' := 9) C dX9_lendsTo_8 rfl 3 rfl ?_
    refine r_i2l (pc' := 10) C dX9_lendsTo_9 rfl rfl ?_
    refine r_lconst (pc' := 11) C dX9_lendsTo_10 rfl kl_1 ?_
    refine r_ldc2 (pc' := 14) C cnX9_317 dX9_lendsTo_11 rfl ?_
    obtain ⟨r4, e5, h⟩ := bd h
    refine r_cS1 (pc' := 17) C (X9_in_ok  e5) mlX9_119 ceX9_in csX9_in rfl (Nat.le_of_ble_eq_true rfl) rfl (Nat.le_of_ble_eq_true rfl) dX9_lendsTo_14 rfl (kk := ?_)
    refine r_if_ne (tgt := 22) (pc' := 20) C dX9_lendsTo_17 rfl rfl (fun c6 => ?_) (fun c6 => ?_)
    · rw [if_neg c6] at h
      refine r_aload_n (pc' := 23) C dX9_lendsTo_22 rfl 0 rfl ?_
      refine r_aload_n (pc' := 24) C dX9_lendsTo_23 rfl 1 rfl ?_
      refine r_iload_n (pc' := 25) C dX9_lendsTo_24 rfl 2 rfl ?_
      obtain ⟨r7, e8, h⟩ := bd h
      refine r_cV1 (pc' := 28) C (X9_isHere_ok hk1 e8) mlX9_202 ceX9_isHere cvX9_isHere sh_149 rfl rfl rfl (Nat.le_of_ble_eq_true rfl) rfl (Nat.le_of_ble_eq_true rfl) dX9_lendsTo_25 rfl (kk := ?_)
      refine r_if_ne (tgt := 34) (pc' := 31) C dX9_lendsTo_28 rfl rfl (fun c9 => ?_) (fun c9 => ?_)
      · rw [if_neg c9] at h
        refine r_aload_n (pc' := 35) C dX9_lendsTo_34 rfl 1 rfl ?_
        refine r_bipush (pc' := 37) C dX9_lendsTo_35 rfl kb_33 ?_
        obtain ⟨q10, h⟩ := ck h
        refine r_iald (pc' := 38) C hk1 (vin q10) dX9_lendsTo_37 rfl ?_
        refine r_iload_n (pc' := 39) C dX9_lendsTo_38 rfl 3 rfl ?_
        refine r_icmp_ge (tgt := 45) (pc' := 42) C dX9_lendsTo_39 rfl rfl (fun c11 => ?_) (fun c11 => ?_)
        · rw [if_pos c11] at h
          refine r_aload_n (pc' := 46) C dX9_lendsTo_45 rfl 1 rfl ?_
          refine r_iload_n (pc' := 47) C dX9_lendsTo_46 rfl 2 rfl ?_
          obtain ⟨q12, h⟩ := ck h
          refine r_iald (pc' := 48) C hk1 (vin q12) dX9_lendsTo_47 rfl ?_
          refine r_iload_n (pc' := 49) C dX9_lendsTo_48 rfl 3 rfl ?_
          refine r_iadd (pc' := 50) C dX9_lendsTo_49 rfl ?_
          refine r_bipush (pc' := 52) C dX9_lendsTo_50 rfl kb_9 ?_
          refine r_icmp_le (tgt := 58) (pc' := 55) C dX9_lendsTo_52 rfl rfl (fun c13 => ?_) (fun c13 => ?_)
          · rw [if_pos c13] at h
            refine r_aload_n (pc' := 59) C dX9_lendsTo_58 rfl 1 rfl ?_
            refine r_iload_n (pc' := 60) C dX9_lendsTo_59 rfl 2 rfl ?_
            refine r_dup2 (pc' := 61) C dX9_lendsTo_60 rfl rfl rfl ?_
            obtain ⟨q14, h⟩ := ck h
            refine r_iald (pc' := 62) C hk1 (vin q14) dX9_lendsTo_61 rfl ?_
            refine r_iload_n (pc' := 63) C dX9_lendsTo_62 rfl 3 rfl ?_
            refine r_iadd (pc' := 64) C dX9_lendsTo_63 rfl ?_
            obtain ⟨q15, h⟩ := ck h
            obtain ⟨σ16, e17, h⟩ := bs h
            refine r_iast (pc' := 65) (σ1 := σ16) C hk1 (vin q15) dX9_lendsTo_64 rfl e17 ?_
            refine r_aload_n (pc' := 66) C dX9_lendsTo_65 rfl 1 rfl ?_
            refine r_bipush (pc' := 68) C dX9_lendsTo_66 rfl kb_33 ?_
            refine r_dup2 (pc' := 69) C dX9_lendsTo_68 rfl rfl rfl ?_
            obtain ⟨q18, h⟩ := ck h
            refine r_iald (pc' := 70) C hk1 (vin q18) dX9_lendsTo_69 rfl ?_
            refine r_iload_n (pc' := 71) C dX9_lendsTo_70 rfl 3 rfl ?_
            refine r_isub (pc' := 72) C dX9_lendsTo_71 rfl ?_
            obtain ⟨q19, h⟩ := ck h
            obtain ⟨σ20, e21, h⟩ := bs h
            refine r_iast (pc' := 73) (σ1 := σ20) C hk1 (vin q19) dX9_lendsTo_72 rfl e21 ?_
            refine r_aload_n (pc' := 74) C dX9_lendsTo_73 rfl 1 rfl ?_
            refine r_iload_n (pc' := 75) C dX9_lendsTo_74 rfl 2 rfl ?_
            obtain ⟨q22, h⟩ := ck h
            refine r_iald (pc' := 76) C hk1 (vin q22) dX9_lendsTo_75 rfl ?_
            have h := Option.some.inj h
            subst h
            exact r_ret C rfl dX9_lendsTo_76 hE
          · rw [if_neg c13] at h
            refine r_bipush (pc' := 57) C dX9_lendsTo_55 rfl kb_m4 ?_
            have h := Option.some.inj h
            subst h
            exact r_ret C rfl dX9_lendsTo_57 hE
        · rw [if_neg c11] at h
          refine r_bipush (pc' := 44) C dX9_lendsTo_42 rfl kb_m3 ?_
          have h := Option.some.inj h
          subst h
          exact r_ret C rfl dX9_lendsTo_44 hE
      · rw [if_pos c9] at h
        refine r_bipush (pc' := 33) C dX9_lendsTo_31 rfl kb_m2 ?_
        have h := Option.some.inj h
        subst h
        exact r_ret C rfl dX9_lendsTo_33 hE
    · rw [if_pos c6] at h
      refine r_iconst (pc' := 21) C dX9_lendsTo_20 rfl kc_m1 ?_
      have h := Option.some.inj h
      subst h
      exact r_ret C rfl dX9_lendsTo_21 hE

/-! BorrowedWeightModel.counted(I)I -/
def X9_counted (N : Nat)  (v1 : Int32) (σ : Sg) : Option (Int32 × Sg) :=
  if 0 ≤ v1 then ((X9_adds N v1 σ).bind fun r2 => (some (r2.1, r2.2))) else (some (v1, σ))
set_option maxRecDepth 100000 in
set_option maxHeartbeats 4000000 in
theorem X9_counted_ok {E : Ev}  {N : Nat} {v1 : Int32} {σ : Sg} {r : Int32 × Sg} (h : X9_counted N  v1 σ = some r) : Cm E (1) yX9_counted cX9_counted 2 (some .int) [.ref 149, .int v1] SH0 SH0 σ r.2 (some (.int r.1)) 0 0 := by
  refine Cm.intro (by decide +kernel) (Nat.le_of_ble_eq_true rfl) (fun _ h => by obtain ⟨_, _, _, _, _, _, h⟩ := h; exact h) (fun Z C hE => ?_)
  show Wm E Z 0 0 SH0 σ 0 [(0, .ref 149), (1, .int v1)] []
  unfold X9_counted at h
  refine r_iload_n (pc' := 1) C dX9_counted_0 rfl 1 rfl ?_
  refine r_if_ge (tgt := 8) (pc' := 4) C dX9_counted_1 rfl rfl (fun c1 => ?_) (fun c1 => ?_)
  · rw [if_pos c1] at h
    refine r_aload_n (pc' := 9) C dX9_counted_8 rfl 0 rfl ?_
    refine r_iload_n (pc' := 10) C dX9_counted_9 rfl 1 rfl ?_
    obtain ⟨r2, e3, h⟩ := bd h
    refine r_cV1 (pc' := 13) C (X9_adds_ok  e3) mlX9_216 ceX9_adds cvX9_adds sh_149 rfl rfl rfl (Nat.le_of_ble_eq_true rfl) rfl (Nat.le_of_ble_eq_true rfl) dX9_counted_10 rfl (kk := ?_)
    have h := Option.some.inj h
    subst h
    exact r_ret C rfl dX9_counted_13 hE
  · rw [if_neg c1] at h
    refine r_iload_n (pc' := 5) C dX9_counted_4 rfl 1 rfl ?_
    refine r_goto (tgt := 13) C dX9_counted_5 rfl ?_
    have h := Option.some.inj h
    subst h
    exact r_ret C rfl dX9_counted_13 hE

/-! BorrowedWeightModel.lends(II)I -/
def X9_lends (N : Nat)  (v1 : Int32) (v2 : Int32) (σ : Sg) : Option (Int32 × Sg) :=
  bnS (wi σ 149 0 0) fun σ1 => (X9_putsBy N σ1).bind fun r3 => ((X9_lendsTo N 153 v1 v2 r3).bind fun r5 => ((X9_counted N r5.1 r5.2).bind fun r7 => (some (r7.1, r7.2))))
set_option maxRecDepth 100000 in
set_option maxHeartbeats 4000000 in
theorem X9_lends_ok {E : Ev}  {N : Nat} {v1 : Int32} {v2 : Int32} {σ : Sg} {r : Int32 × Sg} (h : X9_lends N  v1 v2 σ = some r) : Cm E (4) yX9_lends cX9_lends 3 (some .int) [.ref 149, .int v1, .int v2] SH0 SH0 σ r.2 (some (.int r.1)) 0 0 := by
  refine Cm.intro (by decide +kernel) (Nat.le_of_ble_eq_true rfl) (fun _ h => by obtain ⟨_, _, _, _, _, _, h⟩ := h; exact h) (fun Z C hE => ?_)
  show Wm E Z 0 0 SH0 σ 0 [(0, .ref 149), (1, .int v1), (2, .int v2)] []
  unfold X9_lends at h
  refine r_aload_n (pc' := 1) C dX9_lends_0 rfl 0 rfl ?_
  refine r_iconst (pc' := 2) C dX9_lends_1 rfl kc_0 ?_
  obtain ⟨σ1, e2, h⟩ := bs h
  refine r_putI (pc' := 5) (σ1 := σ1) C fpX9_3 sh_149 rfl rfl rfl dX9_lends_2 rfl e2 ?_
  refine r_aload_n (pc' := 6) C dX9_lends_5 rfl 0 rfl ?_
  obtain ⟨r3, e4, h⟩ := bd h
  refine r_cV0 (pc' := 9) C (X9_putsBy_ok  e4) mlX9_209 ceX9_putsBy cvX9_putsBy sh_149 rfl rfl rfl (Nat.le_of_ble_eq_true rfl) rfl (Nat.le_of_ble_eq_true rfl) dX9_lends_6 rfl (kk := ?_)
  refine r_aload_n (pc' := 10) C dX9_lends_9 rfl 0 rfl ?_
  refine r_aload_n (pc' := 11) C dX9_lends_10 rfl 0 rfl ?_
  refine r_aload_n (pc' := 12) C dX9_lends_11 rfl 0 rfl ?_
  refine r_getR (pc' := 15) C flX9_34 sh_149 rfl dX9_lends_12 rfl ?_
  refine r_iload_n (pc' := 16) C dX9_lends_15 rfl 1 rfl ?_
  refine r_iload_n (pc' := 17) C dX9_lends_16 rfl 2 rfl ?_
  obtain ⟨r5, e6, h⟩ := bd h
  refine r_cV1 (pc' := 20) C (X9_lendsTo_ok mac_153 e6) mlX9_331 ceX9_lendsTo cvX9_lendsTo sh_149 rfl rfl rfl (Nat.le_of_ble_eq_true rfl) rfl (Nat.le_of_ble_eq_true rfl) dX9_lends_17 rfl (kk := ?_)
  obtain ⟨r7, e8, h⟩ := bd h
  refine r_cV1 (pc' := 23) C (X9_counted_ok  e8) mlX9_334 ceX9_counted cvX9_counted sh_149 rfl rfl rfl (Nat.le_of_ble_eq_true rfl) rfl (Nat.le_of_ble_eq_true rfl) dX9_lends_20 rfl (kk := ?_)
  have h := Option.some.inj h
  subst h
  exact r_ret C rfl dX9_lends_23 hE

/-! BorrowedWeightModel.givesBack(II)I -/
def X9_givesBack (N : Nat)  (v1 : Int32) (v2 : Int32) (σ : Sg) : Option (Int32 × Sg) :=
  (X9_isThing N v1 σ).bind fun r1 => (if r1 = 0 then (some ((-1), σ)) else ((X9_in N v2.toInt64 1 9 σ).bind fun r4 => (if r4 = 0 then (some ((-1), σ)) else (if inb v1 37 = true then if v2 ≤ (gi σ 153 v1.toNatClampNeg) then (if inb 33 37 = true then if ((gi σ 153 (33 : Int32).toNatClampNeg) + v2) ≤ 99 then (if inb v1 37 = true then if inb v1 37 = true then bnS (wi σ 153 v1.toNatClampNeg ((gi σ 153 v1.toNatClampNeg) - v2)) fun σ13 => if inb 33 37 = true then if inb 33 37 = true then bnS (wi σ13 153 (33 : Int32).toNatClampNeg ((gi σ13 153 (33 : Int32).toNatClampNeg) + v2)) fun σ17 => if inb 33 37 = true then some (gi σ17 153 (33 : Int32).toNatClampNeg, σ17) else none else none else none else none else none) else (some ((-3), σ)) else none) else (some ((-2), σ)) else none))))
set_option maxRecDepth 100000 in
set_option maxHeartbeats 4000000 in
theorem X9_givesBack_ok {E : Ev}  {N : Nat} {v1 : Int32} {v2 : Int32} {σ : Sg} {r : Int32 × Sg} (h : X9_givesBack N  v1 v2 σ = some r) : Cm E (2) yX9_givesBack cX9_givesBack 3 (some .int) [.ref 149, .int v1, .int v2] SH0 SH0 σ r.2 (some (.int r.1)) 0 0 := by
  refine Cm.intro (by decide +kernel) (Nat.le_of_ble_eq_true rfl) (fun _ h => by obtain ⟨_, _, _, _, _, _, h⟩ := h; exact h) (fun Z C hE => ?_)
  show Wm E Z 0 0 SH0 σ 0 [(0, .ref 149), (1, .int v1), (2, .int v2)] []
  unfold X9_givesBack at h
  refine r_aload_n (pc' := 1) C dX9_givesBack_0 rfl 0 rfl ?_
  refine r_iload_n (pc' := 2) C dX9_givesBack_1 rfl 1 rfl ?_
  obtain ⟨r1, e2, h⟩ := bd h
  refine r_cV1 (pc' := 5) C (X9_isThing_ok  e2) mlX9_123 ceX9_isThing cvX9_isThing sh_149 rfl rfl rfl (Nat.le_of_ble_eq_true rfl) rfl (Nat.le_of_ble_eq_true rfl) dX9_givesBack_2 rfl (kk := ?_)
  refine r_if_eq (tgt := 20) (pc' := 8) C dX9_givesBack_5 rfl rfl (fun c3 => ?_) (fun c3 => ?_)
  · rw [if_pos c3] at h
    refine r_iconst (pc' := 21) C dX9_givesBack_20 rfl kc_m1 ?_
    have h := Option.some.inj h
    subst h
    exact r_ret C rfl dX9_givesBack_21 hE
  · rw [if_neg c3] at h
    refine r_iload_n (pc' := 9) C dX9_givesBack_8 rfl 2 rfl ?_
    refine r_i2l (pc' := 10) C dX9_givesBack_9 rfl rfl ?_
    refine r_lconst (pc' := 11) C dX9_givesBack_10 rfl kl_1 ?_
    refine r_ldc2 (pc' := 14) C cnX9_317 dX9_givesBack_11 rfl ?_
    obtain ⟨r4, e5, h⟩ := bd h
    refine r_cS1 (pc' := 17) C (X9_in_ok  e5) mlX9_119 ceX9_in csX9_in rfl (Nat.le_of_ble_eq_true rfl) rfl (Nat.le_of_ble_eq_true rfl) dX9_givesBack_14 rfl (kk := ?_)
    refine r_if_ne (tgt := 22) (pc' := 20) C dX9_givesBack_17 rfl rfl (fun c6 => ?_) (fun c6 => ?_)
    · rw [if_neg c6] at h
      refine r_aload_n (pc' := 23) C dX9_givesBack_22 rfl 0 rfl ?_
      refine r_getR (pc' := 26) C flX9_34 sh_149 rfl dX9_givesBack_23 rfl ?_
      refine r_iload_n (pc' := 27) C dX9_givesBack_26 rfl 1 rfl ?_
      obtain ⟨q7, h⟩ := ck h
      refine r_iald (pc' := 28) C sh_153 (vin q7) dX9_givesBack_27 rfl ?_
      refine r_iload_n (pc' := 29) C dX9_givesBack_28 rfl 2 rfl ?_
      refine r_icmp_ge (tgt := 35) (pc' := 32) C dX9_givesBack_29 rfl rfl (fun c8 => ?_) (fun c8 => ?_)
      · rw [if_pos c8] at h
        refine r_aload_n (pc' := 36) C dX9_givesBack_35 rfl 0 rfl ?_
        refine r_getR (pc' := 39) C flX9_34 sh_149 rfl dX9_givesBack_36 rfl ?_
        refine r_bipush (pc' := 41) C dX9_givesBack_39 rfl kb_33 ?_
        obtain ⟨q9, h⟩ := ck h
        refine r_iald (pc' := 42) C sh_153 (vin q9) dX9_givesBack_41 rfl ?_
        refine r_iload_n (pc' := 43) C dX9_givesBack_42 rfl 2 rfl ?_
        refine r_iadd (pc' := 44) C dX9_givesBack_43 rfl ?_
        refine r_bipush (pc' := 46) C dX9_givesBack_44 rfl kb_99 ?_
        refine r_icmp_le (tgt := 52) (pc' := 49) C dX9_givesBack_46 rfl rfl (fun c10 => ?_) (fun c10 => ?_)
        · rw [if_pos c10] at h
          refine r_aload_n (pc' := 53) C dX9_givesBack_52 rfl 0 rfl ?_
          refine r_getR (pc' := 56) C flX9_34 sh_149 rfl dX9_givesBack_53 rfl ?_
          refine r_iload_n (pc' := 57) C dX9_givesBack_56 rfl 1 rfl ?_
          refine r_dup2 (pc' := 58) C dX9_givesBack_57 rfl rfl rfl ?_
          obtain ⟨q11, h⟩ := ck h
          refine r_iald (pc' := 59) C sh_153 (vin q11) dX9_givesBack_58 rfl ?_
          refine r_iload_n (pc' := 60) C dX9_givesBack_59 rfl 2 rfl ?_
          refine r_isub (pc' := 61) C dX9_givesBack_60 rfl ?_
          obtain ⟨q12, h⟩ := ck h
          obtain ⟨σ13, e14, h⟩ := bs h
          refine r_iast (pc' := 62) (σ1 := σ13) C sh_153 (vin q12) dX9_givesBack_61 rfl e14 ?_
          refine r_aload_n (pc' := 63) C dX9_givesBack_62 rfl 0 rfl ?_
          refine r_getR (pc' := 66) C flX9_34 sh_149 rfl dX9_givesBack_63 rfl ?_
          refine r_bipush (pc' := 68) C dX9_givesBack_66 rfl kb_33 ?_
          refine r_dup2 (pc' := 69) C dX9_givesBack_68 rfl rfl rfl ?_
          obtain ⟨q15, h⟩ := ck h
          refine r_iald (pc' := 70) C sh_153 (vin q15) dX9_givesBack_69 rfl ?_
          refine r_iload_n (pc' := 71) C dX9_givesBack_70 rfl 2 rfl ?_
          refine r_iadd (pc' := 72) C dX9_givesBack_71 rfl ?_
          obtain ⟨q16, h⟩ := ck h
          obtain ⟨σ17, e18, h⟩ := bs h
          refine r_iast (pc' := 73) (σ1 := σ17) C sh_153 (vin q16) dX9_givesBack_72 rfl e18 ?_
          refine r_aload_n (pc' := 74) C dX9_givesBack_73 rfl 0 rfl ?_
          refine r_getR (pc' := 77) C flX9_34 sh_149 rfl dX9_givesBack_74 rfl ?_
          refine r_bipush (pc' := 79) C dX9_givesBack_77 rfl kb_33 ?_
          obtain ⟨q19, h⟩ := ck h
          refine r_iald (pc' := 80) C sh_153 (vin q19) dX9_givesBack_79 rfl ?_
          have h := Option.some.inj h
          subst h
          exact r_ret C rfl dX9_givesBack_80 hE
        · rw [if_neg c10] at h
          refine r_bipush (pc' := 51) C dX9_givesBack_49 rfl kb_m3 ?_
          have h := Option.some.inj h
          subst h
          exact r_ret C rfl dX9_givesBack_51 hE
      · rw [if_neg c8] at h
        refine r_bipush (pc' := 34) C dX9_givesBack_32 rfl kb_m2 ?_
        have h := Option.some.inj h
        subst h
        exact r_ret C rfl dX9_givesBack_34 hE
    · rw [if_pos c6] at h
      refine r_iconst (pc' := 21) C dX9_givesBack_20 rfl kc_m1 ?_
      have h := Option.some.inj h
      subst h
      exact r_ret C rfl dX9_givesBack_21 hE

/-! BorrowedWeightModel.gives(II)I -/
def X9_gives (N : Nat)  (v1 : Int32) (v2 : Int32) (σ : Sg) : Option (Int32 × Sg) :=
  bnS (wi σ 149 0 0) fun σ1 => (X9_putsBy N σ1).bind fun r3 => ((X9_givesBack N v1 v2 r3).bind fun r5 => ((X9_counted N r5.1 r5.2).bind fun r7 => (some (r7.1, r7.2))))
set_option maxRecDepth 100000 in
set_option maxHeartbeats 4000000 in
theorem X9_gives_ok {E : Ev}  {N : Nat} {v1 : Int32} {v2 : Int32} {σ : Sg} {r : Int32 × Sg} (h : X9_gives N  v1 v2 σ = some r) : Cm E (3) yX9_gives cX9_gives 3 (some .int) [.ref 149, .int v1, .int v2] SH0 SH0 σ r.2 (some (.int r.1)) 0 0 := by
  refine Cm.intro (by decide +kernel) (Nat.le_of_ble_eq_true rfl) (fun _ h => by obtain ⟨_, _, _, _, _, _, h⟩ := h; exact h) (fun Z C hE => ?_)
  show Wm E Z 0 0 SH0 σ 0 [(0, .ref 149), (1, .int v1), (2, .int v2)] []
  unfold X9_gives at h
  refine r_aload_n (pc' := 1) C dX9_gives_0 rfl 0 rfl ?_
  refine r_iconst (pc' := 2) C dX9_gives_1 rfl kc_0 ?_
  obtain ⟨σ1, e2, h⟩ := bs h
  refine r_putI (pc' := 5) (σ1 := σ1) C fpX9_3 sh_149 rfl rfl rfl dX9_gives_2 rfl e2 ?_
  refine r_aload_n (pc' := 6) C dX9_gives_5 rfl 0 rfl ?_
  obtain ⟨r3, e4, h⟩ := bd h
  refine r_cV0 (pc' := 9) C (X9_putsBy_ok  e4) mlX9_209 ceX9_putsBy cvX9_putsBy sh_149 rfl rfl rfl (Nat.le_of_ble_eq_true rfl) rfl (Nat.le_of_ble_eq_true rfl) dX9_gives_6 rfl (kk := ?_)
  refine r_aload_n (pc' := 10) C dX9_gives_9 rfl 0 rfl ?_
  refine r_aload_n (pc' := 11) C dX9_gives_10 rfl 0 rfl ?_
  refine r_iload_n (pc' := 12) C dX9_gives_11 rfl 1 rfl ?_
  refine r_iload_n (pc' := 13) C dX9_gives_12 rfl 2 rfl ?_
  obtain ⟨r5, e6, h⟩ := bd h
  refine r_cV1 (pc' := 16) C (X9_givesBack_ok  e6) mlX9_337 ceX9_givesBack cvX9_givesBack sh_149 rfl rfl rfl (Nat.le_of_ble_eq_true rfl) rfl (Nat.le_of_ble_eq_true rfl) dX9_gives_13 rfl (kk := ?_)
  obtain ⟨r7, e8, h⟩ := bd h
  refine r_cV1 (pc' := 19) C (X9_counted_ok  e8) mlX9_334 ceX9_counted cvX9_counted sh_149 rfl rfl rfl (Nat.le_of_ble_eq_true rfl) rfl (Nat.le_of_ble_eq_true rfl) dX9_gives_16 rfl (kk := ?_)
  have h := Option.some.inj h
  subst h
  exact r_ret C rfl dX9_gives_19 hE

/-! BorrowedWeightModel.stringMany([I)I -/
def X9_stringMany_l4 (N : Nat) (k1 : Nat)  (σ : Sg) : Nat → Int32 → Int32 → Option (Int32)
  | 0, _, _ => none
  | n + 1, v2, v3 =>
    if (gi σ 149 3) ≤ v3 then (some (v2 / 2)) else (if inb (24 + v3) 37 = true then (J6_bitCount_0f7a4 N (gi σ k1 (24 + v3).toNatClampNeg) σ).bind fun r4 => (X9_stringMany_l4 N k1 σ n (v2 + r4) (v3 + 1)) else none)
set_option maxRecDepth 100000 in
set_option maxHeartbeats 4000000 in
theorem X9_stringMany_l4_ok {E : Ev} {k1 : Nat} (hk1 : MaAt SH0 k1) {N : Nat}  {σ : Sg}  : ∀ (n : Nat) (v2 : Int32) (v3 : Int32) (r : Int32), X9_stringMany_l4 N k1 σ n v2 v3 = some r → Gp E RX9 cX9_stringMany (some .int) 4 (1) SH0 σ (some (.int r)) σ 4 [(0, .ref 149), (1, .ref k1), (2, .int v2), (3, .int v3)] [] := by
  intro n
  induction n with
  | zero => intro v2 v3 r h; cases h
  | succ n ih =>
    intro v2 v3 r h Z C hE
    unfold X9_stringMany_l4 at h
    refine r_iload_n (pc' := 5) C dX9_stringMany_4 rfl 3 rfl ?_
    refine r_aload_n (pc' := 6) C dX9_stringMany_5 rfl 0 rfl ?_
    refine r_getI (pc' := 9) C flX9_116 sh_149 rfl dX9_stringMany_6 rfl ?_
    refine r_icmp_ge (tgt := 30) (pc' := 12) C dX9_stringMany_9 rfl rfl (fun c1 => ?_) (fun c1 => ?_)
    · rw [if_pos c1] at h
      refine r_iload_n (pc' := 31) C dX9_stringMany_30 rfl 2 rfl ?_
      refine r_iconst (pc' := 32) C dX9_stringMany_31 rfl kc_2 ?_
      refine r_idiv (pc' := 33) C dX9_stringMany_32 rfl (by decide) ?_
      have h := Option.some.inj h
      subst h
      exact r_ret C rfl dX9_stringMany_33 hE
    · rw [if_neg c1] at h
      refine r_iload_n (pc' := 13) C dX9_stringMany_12 rfl 2 rfl ?_
      refine r_aload_n (pc' := 14) C dX9_stringMany_13 rfl 1 rfl ?_
      refine r_bipush (pc' := 16) C dX9_stringMany_14 rfl kb_24 ?_
      refine r_iload_n (pc' := 17) C dX9_stringMany_16 rfl 3 rfl ?_
      refine r_iadd (pc' := 18) C dX9_stringMany_17 rfl ?_
      obtain ⟨q3, h⟩ := ck h
      refine r_iald (pc' := 19) C hk1 (vin q3) dX9_stringMany_18 rfl ?_
      obtain ⟨r4, e5, h⟩ := bd h
      refine r_cS1 (pc' := 22) C (J6_bitCount_0f7a4_ok  e5) mlX9_135 ceJ6_bitCount_0f7a4 csJ6_bitCount_0f7a4 rfl (Nat.le_of_ble_eq_true rfl) rfl (Nat.le_of_ble_eq_true rfl) dX9_stringMany_19 rfl (kk := ?_)
      refine r_iadd (pc' := 23) C dX9_stringMany_22 rfl ?_
      refine r_istore_n (pc' := 24) (lv2 := [(2, .int (v2 + r4)), (0, .ref 149), (1, .ref k1), (3, .int v3)]) C dX9_stringMany_23 rfl rfl (Nat.le_of_ble_eq_true rfl) rfl ?_
      refine r_iinc (pc' := 27) (v := v3 + 1) (lv2 := [(3, .int (v3 + 1)), (2, .int (v2 + r4)), (0, .ref 149), (1, .ref k1)]) C dX9_stringMany_24 rfl 3 rfl rfl (Nat.le_of_ble_eq_true rfl) rfl ?_
      refine r_goto (tgt := 4) C dX9_stringMany_27 rfl ?_
      refine r_sub [2, 3, 1, 0] rfl ?_
      exact ih _ _ _ h Z C hE
def X9_stringMany (N : Nat) (k1 : Nat)  (σ : Sg) : Option (Int32) :=
  X9_stringMany_l4 N k1 σ N 0 0
set_option maxRecDepth 100000 in
set_option maxHeartbeats 4000000 in
theorem X9_stringMany_ok {E : Ev} {k1 : Nat} (hk1 : MaAt SH0 k1) {N : Nat}  {σ : Sg} {r : Int32} (h : X9_stringMany N k1  σ = some r) : Cm E (1) yX9_stringMany cX9_stringMany 4 (some .int) [.ref 149, .ref k1] SH0 SH0 σ σ (some (.int r)) 0 0 := by
  refine Cm.intro (by decide +kernel) (Nat.le_of_ble_eq_true rfl) (fun _ h => by obtain ⟨_, _, _, _, _, _, h⟩ := h; exact h) (fun Z C hE => ?_)
  show Wm E Z 0 0 SH0 σ 0 [(0, .ref 149), (1, .ref k1)] []
  unfold X9_stringMany at h
  refine r_iconst (pc' := 1) C dX9_stringMany_0 rfl kc_0 ?_
  refine r_istore_n (pc' := 2) (lv2 := [(2, .int 0), (0, .ref 149), (1, .ref k1)]) C dX9_stringMany_1 rfl rfl (Nat.le_of_ble_eq_true rfl) rfl ?_
  refine r_iconst (pc' := 3) C dX9_stringMany_2 rfl kc_0 ?_
  refine r_istore_n (pc' := 4) (lv2 := [(3, .int 0), (2, .int 0), (0, .ref 149), (1, .ref k1)]) C dX9_stringMany_3 rfl rfl (Nat.le_of_ble_eq_true rfl) rfl ?_
  refine r_sub [2, 3, 1, 0] rfl ?_
  exact X9_stringMany_l4_ok hk1 N _ _ _ h Z C hE

/-! BorrowedWeightModel.tiesTwo([III)I -/
def X9_tiesTwo (N : Nat) (k1 : Nat) (v2 : Int32) (v3 : Int32) (σ : Sg) : Option (Int32 × Sg) :=
  (X9_isThing N v2 σ).bind fun r1 => (if r1 = 0 then (some ((-1), σ)) else ((X9_isThing N v3 σ).bind fun r4 => (if r4 = 0 then (some ((-1), σ)) else (if v2 = v3 then (some ((-1), σ)) else ((X9_isHere N k1 v2 σ).bind fun r8 => (if r8 = 0 then (some ((-2), σ)) else ((X9_isHere N k1 v3 σ).bind fun r11 => (if r11 = 0 then (some ((-2), σ)) else ((X9_toggles N k1 v2 v3 σ).bind fun r14 => ((X9_stringMany N k1 r14).bind fun r16 => (some (r16, r14))))))))))))
set_option maxRecDepth 100000 in
set_option maxHeartbeats 4000000 in
theorem X9_tiesTwo_ok {E : Ev} {k1 : Nat} (hk1 : MaAt SH0 k1) {N : Nat} {v2 : Int32} {v3 : Int32} {σ : Sg} {r : Int32 × Sg} (h : X9_tiesTwo N k1 v2 v3 σ = some r) : Cm E (3) yX9_tiesTwo cX9_tiesTwo 4 (some .int) [.ref 149, .ref k1, .int v2, .int v3] SH0 SH0 σ r.2 (some (.int r.1)) 0 0 := by
  refine Cm.intro (by decide +kernel) (Nat.le_of_ble_eq_true rfl) (fun _ h => by obtain ⟨_, _, _, _, _, _, h⟩ := h; exact h) (fun Z C hE => ?_)
  show Wm E Z 0 0 SH0 σ 0 [(0, .ref 149), (1, .ref k1), (2, .int v2), (3, .int v3)] []
  unfold X9_tiesTwo at h
  refine r_aload_n (pc' := 1) C dX9_tiesTwo_0 rfl 0 rfl ?_
  refine r_iload_n (pc' := 2) C dX9_tiesTwo_1 rfl 2 rfl ?_
  obtain ⟨r1, e2, h⟩ := bd h
  refine r_cV1 (pc' := 5) C (X9_isThing_ok  e2) mlX9_123 ceX9_isThing cvX9_isThing sh_149 rfl rfl rfl (Nat.le_of_ble_eq_true rfl) rfl (Nat.le_of_ble_eq_true rfl) dX9_tiesTwo_2 rfl (kk := ?_)
  refine r_if_eq (tgt := 21) (pc' := 8) C dX9_tiesTwo_5 rfl rfl (fun c3 => ?_) (fun c3 => ?_)
  · rw [if_pos c3] at h
    refine r_iconst (pc' := 22) C dX9_tiesTwo_21 rfl kc_m1 ?_
    have h := Option.some.inj h
    subst h
    exact r_ret C rfl dX9_tiesTwo_22 hE
  · rw [if_neg c3] at h
    refine r_aload_n (pc' := 9) C dX9_tiesTwo_8 rfl 0 rfl ?_
    refine r_iload_n (pc' := 10) C dX9_tiesTwo_9 rfl 3 rfl ?_
    obtain ⟨r4, e5, h⟩ := bd h
    refine r_cV1 (pc' := 13) C (X9_isThing_ok  e5) mlX9_123 ceX9_isThing cvX9_isThing sh_149 rfl rfl rfl (Nat.le_of_ble_eq_true rfl) rfl (Nat.le_of_ble_eq_true rfl) dX9_tiesTwo_10 rfl (kk := ?_)
    refine r_if_eq (tgt := 21) (pc' := 16) C dX9_tiesTwo_13 rfl rfl (fun c6 => ?_) (fun c6 => ?_)
    · rw [if_pos c6] at h
      refine r_iconst (pc' := 22) C dX9_tiesTwo_21 rfl kc_m1 ?_
      have h := Option.some.inj h
      subst h
      exact r_ret C rfl dX9_tiesTwo_22 hE
    · rw [if_neg c6] at h
      refine r_iload_n (pc' := 17) C dX9_tiesTwo_16 rfl 2 rfl ?_
      refine r_iload_n (pc' := 18) C dX9_tiesTwo_17 rfl 3 rfl ?_
      refine r_icmp_ne (tgt := 23) (pc' := 21) C dX9_tiesTwo_18 rfl rfl (fun c7 => ?_) (fun c7 => ?_)
      · rw [if_neg c7] at h
        refine r_aload_n (pc' := 24) C dX9_tiesTwo_23 rfl 0 rfl ?_
        refine r_aload_n (pc' := 25) C dX9_tiesTwo_24 rfl 1 rfl ?_
        refine r_iload_n (pc' := 26) C dX9_tiesTwo_25 rfl 2 rfl ?_
        obtain ⟨r8, e9, h⟩ := bd h
        refine r_cV1 (pc' := 29) C (X9_isHere_ok hk1 e9) mlX9_202 ceX9_isHere cvX9_isHere sh_149 rfl rfl rfl (Nat.le_of_ble_eq_true rfl) rfl (Nat.le_of_ble_eq_true rfl) dX9_tiesTwo_26 rfl (kk := ?_)
        refine r_if_eq (tgt := 41) (pc' := 32) C dX9_tiesTwo_29 rfl rfl (fun c10 => ?_) (fun c10 => ?_)
        · rw [if_pos c10] at h
          refine r_bipush (pc' := 43) C dX9_tiesTwo_41 rfl kb_m2 ?_
          have h := Option.some.inj h
          subst h
          exact r_ret C rfl dX9_tiesTwo_43 hE
        · rw [if_neg c10] at h
          refine r_aload_n (pc' := 33) C dX9_tiesTwo_32 rfl 0 rfl ?_
          refine r_aload_n (pc' := 34) C dX9_tiesTwo_33 rfl 1 rfl ?_
          refine r_iload_n (pc' := 35) C dX9_tiesTwo_34 rfl 3 rfl ?_
          obtain ⟨r11, e12, h⟩ := bd h
          refine r_cV1 (pc' := 38) C (X9_isHere_ok hk1 e12) mlX9_202 ceX9_isHere cvX9_isHere sh_149 rfl rfl rfl (Nat.le_of_ble_eq_true rfl) rfl (Nat.le_of_ble_eq_true rfl) dX9_tiesTwo_35 rfl (kk := ?_)
          refine r_if_ne (tgt := 44) (pc' := 41) C dX9_tiesTwo_38 rfl rfl (fun c13 => ?_) (fun c13 => ?_)
          · rw [if_neg c13] at h
            refine r_aload_n (pc' := 45) C dX9_tiesTwo_44 rfl 1 rfl ?_
            refine r_iload_n (pc' := 46) C dX9_tiesTwo_45 rfl 2 rfl ?_
            refine r_iload_n (pc' := 47) C dX9_tiesTwo_46 rfl 3 rfl ?_
            obtain ⟨r14, e15, h⟩ := bd h
            refine r_cS0 (pc' := 50) C (X9_toggles_ok hk1 e15) mlX9_212 ceX9_toggles csX9_toggles rfl (Nat.le_of_ble_eq_true rfl) rfl (Nat.le_of_ble_eq_true rfl) dX9_tiesTwo_47 rfl (kk := ?_)
            refine r_aload_n (pc' := 51) C dX9_tiesTwo_50 rfl 0 rfl ?_
            refine r_aload_n (pc' := 52) C dX9_tiesTwo_51 rfl 1 rfl ?_
            obtain ⟨r16, e17, h⟩ := bd h
            refine r_cV1 (pc' := 55) C (X9_stringMany_ok hk1 e17) mlX9_319 ceX9_stringMany cvX9_stringMany sh_149 rfl rfl rfl (Nat.le_of_ble_eq_true rfl) rfl (Nat.le_of_ble_eq_true rfl) dX9_tiesTwo_52 rfl (kk := ?_)
            have h := Option.some.inj h
            subst h
            exact r_ret C rfl dX9_tiesTwo_55 hE
          · rw [if_pos c13] at h
            refine r_bipush (pc' := 43) C dX9_tiesTwo_41 rfl kb_m2 ?_
            have h := Option.some.inj h
            subst h
            exact r_ret C rfl dX9_tiesTwo_43 hE
      · rw [if_pos c7] at h
        refine r_iconst (pc' := 22) C dX9_tiesTwo_21 rfl kc_m1 ?_
        have h := Option.some.inj h
        subst h
        exact r_ret C rfl dX9_tiesTwo_22 hE

/-! BorrowedWeightModel.ties(II)I -/
def X9_ties (N : Nat)  (v1 : Int32) (v2 : Int32) (σ : Sg) : Option (Int32 × Sg) :=
  bnS (wi σ 149 0 0) fun σ1 => (X9_putsBy N σ1).bind fun r3 => ((X9_tiesTwo N 153 v1 v2 r3).bind fun r5 => ((X9_counted N r5.1 r5.2).bind fun r7 => (some (r7.1, r7.2))))
set_option maxRecDepth 100000 in
set_option maxHeartbeats 4000000 in
theorem X9_ties_ok {E : Ev}  {N : Nat} {v1 : Int32} {v2 : Int32} {σ : Sg} {r : Int32 × Sg} (h : X9_ties N  v1 v2 σ = some r) : Cm E (4) yX9_ties cX9_ties 3 (some .int) [.ref 149, .int v1, .int v2] SH0 SH0 σ r.2 (some (.int r.1)) 0 0 := by
  refine Cm.intro (by decide +kernel) (Nat.le_of_ble_eq_true rfl) (fun _ h => by obtain ⟨_, _, _, _, _, _, h⟩ := h; exact h) (fun Z C hE => ?_)
  show Wm E Z 0 0 SH0 σ 0 [(0, .ref 149), (1, .int v1), (2, .int v2)] []
  unfold X9_ties at h
  refine r_aload_n (pc' := 1) C dX9_ties_0 rfl 0 rfl ?_
  refine r_iconst (pc' := 2) C dX9_ties_1 rfl kc_0 ?_
  obtain ⟨σ1, e2, h⟩ := bs h
  refine r_putI (pc' := 5) (σ1 := σ1) C fpX9_3 sh_149 rfl rfl rfl dX9_ties_2 rfl e2 ?_
  refine r_aload_n (pc' := 6) C dX9_ties_5 rfl 0 rfl ?_
  obtain ⟨r3, e4, h⟩ := bd h
  refine r_cV0 (pc' := 9) C (X9_putsBy_ok  e4) mlX9_209 ceX9_putsBy cvX9_putsBy sh_149 rfl rfl rfl (Nat.le_of_ble_eq_true rfl) rfl (Nat.le_of_ble_eq_true rfl) dX9_ties_6 rfl (kk := ?_)
  refine r_aload_n (pc' := 10) C dX9_ties_9 rfl 0 rfl ?_
  refine r_aload_n (pc' := 11) C dX9_ties_10 rfl 0 rfl ?_
  refine r_aload_n (pc' := 12) C dX9_ties_11 rfl 0 rfl ?_
  refine r_getR (pc' := 15) C flX9_34 sh_149 rfl dX9_ties_12 rfl ?_
  refine r_iload_n (pc' := 16) C dX9_ties_15 rfl 1 rfl ?_
  refine r_iload_n (pc' := 17) C dX9_ties_16 rfl 2 rfl ?_
  obtain ⟨r5, e6, h⟩ := bd h
  refine r_cV1 (pc' := 20) C (X9_tiesTwo_ok mac_153 e6) mlX9_340 ceX9_tiesTwo cvX9_tiesTwo sh_149 rfl rfl rfl (Nat.le_of_ble_eq_true rfl) rfl (Nat.le_of_ble_eq_true rfl) dX9_ties_17 rfl (kk := ?_)
  obtain ⟨r7, e8, h⟩ := bd h
  refine r_cV1 (pc' := 23) C (X9_counted_ok  e8) mlX9_334 ceX9_counted cvX9_counted sh_149 rfl rfl rfl (Nat.le_of_ble_eq_true rfl) rfl (Nat.le_of_ble_eq_true rfl) dX9_ties_20 rfl (kk := ?_)
  have h := Option.some.inj h
  subst h
  exact r_ret C rfl dX9_ties_23 hE

/-! BorrowedWeightModel.paysAll(I)I -/
def X9_paysAll (N : Nat)  (v1 : Int32) (σ : Sg) : Option (Int32 × Sg) :=
  (X9_isThing N v1 σ).bind fun r1 => (if r1 = 0 then (some ((-1), σ)) else (if inb (16 + v1) 37 = true then if inb (16 + v1) 37 = true then bnS (wi σ 153 (16 + v1).toNatClampNeg 0) fun σ6 => if inb 34 37 = true then (J9_min_7cf53 N 9999 ((gi σ6 153 (34 : Int32).toNatClampNeg) + (gi σ 153 (16 + v1).toNatClampNeg)) σ6).bind fun r9 => (if inb 34 37 = true then bnS (wi σ6 153 (34 : Int32).toNatClampNeg r9) fun σ12 => if (gi σ 153 (16 + v1).toNatClampNeg) = 0 then (some ((-2), σ12)) else (some (gi σ 153 (16 + v1).toNatClampNeg, σ12)) else none) else none else none else none))
set_option maxRecDepth 100000 in
set_option maxHeartbeats 4000000 in
theorem X9_paysAll_ok {E : Ev}  {N : Nat} {v1 : Int32} {σ : Sg} {r : Int32 × Sg} (h : X9_paysAll N  v1 σ = some r) : Cm E (2) yX9_paysAll cX9_paysAll 3 (some .int) [.ref 149, .int v1] SH0 SH0 σ r.2 (some (.int r.1)) 0 0 := by
  refine Cm.intro (by decide +kernel) (Nat.le_of_ble_eq_true rfl) (fun _ h => by obtain ⟨_, _, _, _, _, _, h⟩ := h; exact h) (fun Z C hE => ?_)
  show Wm E Z 0 0 SH0 σ 0 [(0, .ref 149), (1, .int v1)] []
  unfold X9_paysAll at h
  refine r_aload_n (pc' := 1) C dX9_paysAll_0 rfl 0 rfl ?_
  refine r_iload_n (pc' := 2) C dX9_paysAll_1 rfl 1 rfl ?_
  obtain ⟨r1, e2, h⟩ := bd h
  refine r_cV1 (pc' := 5) C (X9_isThing_ok  e2) mlX9_123 ceX9_isThing cvX9_isThing sh_149 rfl rfl rfl (Nat.le_of_ble_eq_true rfl) rfl (Nat.le_of_ble_eq_true rfl) dX9_paysAll_2 rfl (kk := ?_)
  refine r_if_ne (tgt := 10) (pc' := 8) C dX9_paysAll_5 rfl rfl (fun c3 => ?_) (fun c3 => ?_)
  · rw [if_neg c3] at h
    refine r_aload_n (pc' := 11) C dX9_paysAll_10 rfl 0 rfl ?_
    refine r_getR (pc' := 14) C flX9_34 sh_149 rfl dX9_paysAll_11 rfl ?_
    refine r_bipush (pc' := 16) C dX9_paysAll_14 rfl kb_16 ?_
    refine r_iload_n (pc' := 17) C dX9_paysAll_16 rfl 1 rfl ?_
    refine r_iadd (pc' := 18) C dX9_paysAll_17 rfl ?_
    obtain ⟨q4, h⟩ := ck h
    refine r_iald (pc' := 19) C sh_153 (vin q4) dX9_paysAll_18 rfl ?_
    refine r_istore_n (pc' := 20) (lv2 := [(2, .int (gi σ 153 (16 + v1).toNatClampNeg)), (0, .ref 149), (1, .int v1)]) C dX9_paysAll_19 rfl rfl (Nat.le_of_ble_eq_true rfl) rfl ?_
    refine r_aload_n (pc' := 21) C dX9_paysAll_20 rfl 1 rfl ?_
    refine r_getR (pc' := 24) C flX9_34 sh_149 rfl dX9_paysAll_21 rfl ?_
    refine r_bipush (pc' := 26) C dX9_paysAll_24 rfl kb_16 ?_
    refine r_iload_n (pc' := 27) C dX9_paysAll_26 rfl 2 rfl ?_
    refine r_iadd (pc' := 28) C dX9_paysAll_27 rfl ?_
    refine r_iconst (pc' := 29) C dX9_paysAll_28 rfl kc_0 ?_
    obtain ⟨q5, h⟩ := ck h
    obtain ⟨σ6, e7, h⟩ := bs h
    refine r_iast (pc' := 30) (σ1 := σ6) C sh_153 (vin q5) dX9_paysAll_29 rfl e7 ?_
    refine r_aload_n (pc' := 31) C dX9_paysAll_30 rfl 1 rfl ?_
    refine r_getR (pc' := 34) C flX9_34 sh_149 rfl dX9_paysAll_31 rfl ?_
    refine r_bipush (pc' := 36) C dX9_paysAll_34 rfl kb_34 ?_
    refine r_sipush (pc' := 39) C dX9_paysAll_36 rfl ks_9999 ?_
    refine r_aload_n (pc' := 40) C dX9_paysAll_39 rfl 1 rfl ?_
    refine r_getR (pc' := 43) C flX9_34 sh_149 rfl dX9_paysAll_40 rfl ?_
    refine r_bipush (pc' := 45) C dX9_paysAll_43 rfl kb_34 ?_
    obtain ⟨q8, h⟩ := ck h
    refine r_iald (pc' := 46) C sh_153 (vin q8) dX9_paysAll_45 rfl ?_
    refine r_iload_n (pc' := 47) C dX9_paysAll_46 rfl 0 rfl ?_
    refine r_iadd (pc' := 48) C dX9_paysAll_47 rfl ?_
    obtain ⟨r9, e10, h⟩ := bd h
    refine r_cS1 (pc' := 51) C (J9_min_7cf53_ok  e10) mlX9_150 ceJ9_min_7cf53 csJ9_min_7cf53 rfl (Nat.le_of_ble_eq_true rfl) rfl (Nat.le_of_ble_eq_true rfl) dX9_paysAll_48 rfl (kk := ?_)
    obtain ⟨q11, h⟩ := ck h
    obtain ⟨σ12, e13, h⟩ := bs h
    refine r_iast (pc' := 52) (σ1 := σ12) C sh_153 (vin q11) dX9_paysAll_51 rfl e13 ?_
    refine r_iload_n (pc' := 53) C dX9_paysAll_52 rfl 0 rfl ?_
    refine r_if_ne (tgt := 61) (pc' := 56) C dX9_paysAll_53 rfl rfl (fun c14 => ?_) (fun c14 => ?_)
    · rw [if_neg c14] at h
      refine r_iload_n (pc' := 62) C dX9_paysAll_61 rfl 0 rfl ?_
      have h := Option.some.inj h
      subst h
      exact r_ret C rfl dX9_paysAll_62 hE
    · rw [if_pos c14] at h
      refine r_bipush (pc' := 58) C dX9_paysAll_56 rfl kb_m2 ?_
      refine r_goto (tgt := 62) C dX9_paysAll_58 rfl ?_
      have h := Option.some.inj h
      subst h
      exact r_ret C rfl dX9_paysAll_62 hE
  · rw [if_pos c3] at h
    refine r_iconst (pc' := 9) C dX9_paysAll_8 rfl kc_m1 ?_
    have h := Option.some.inj h
    subst h
    exact r_ret C rfl dX9_paysAll_9 hE

/-! BorrowedWeightModel.pays(I)I -/
def X9_pays (N : Nat)  (v1 : Int32) (σ : Sg) : Option (Int32 × Sg) :=
  bnS (wi σ 149 0 0) fun σ1 => (X9_putsBy N σ1).bind fun r3 => ((X9_paysAll N v1 r3).bind fun r5 => ((X9_counted N r5.1 r5.2).bind fun r7 => (some (r7.1, r7.2))))
set_option maxRecDepth 100000 in
set_option maxHeartbeats 4000000 in
theorem X9_pays_ok {E : Ev}  {N : Nat} {v1 : Int32} {σ : Sg} {r : Int32 × Sg} (h : X9_pays N  v1 σ = some r) : Cm E (3) yX9_pays cX9_pays 2 (some .int) [.ref 149, .int v1] SH0 SH0 σ r.2 (some (.int r.1)) 0 0 := by
  refine Cm.intro (by decide +kernel) (Nat.le_of_ble_eq_true rfl) (fun _ h => by obtain ⟨_, _, _, _, _, _, h⟩ := h; exact h) (fun Z C hE => ?_)
  show Wm E Z 0 0 SH0 σ 0 [(0, .ref 149), (1, .int v1)] []
  unfold X9_pays at h
  refine r_aload_n (pc' := 1) C dX9_pays_0 rfl 0 rfl ?_
  refine r_iconst (pc' := 2) C dX9_pays_1 rfl kc_0 ?_
  obtain ⟨σ1, e2, h⟩ := bs h
  refine r_putI (pc' := 5) (σ1 := σ1) C fpX9_3 sh_149 rfl rfl rfl dX9_pays_2 rfl e2 ?_
  refine r_aload_n (pc' := 6) C dX9_pays_5 rfl 0 rfl ?_
  obtain ⟨r3, e4, h⟩ := bd h
  refine r_cV0 (pc' := 9) C (X9_putsBy_ok  e4) mlX9_209 ceX9_putsBy cvX9_putsBy sh_149 rfl rfl rfl (Nat.le_of_ble_eq_true rfl) rfl (Nat.le_of_ble_eq_true rfl) dX9_pays_6 rfl (kk := ?_)
  refine r_aload_n (pc' := 10) C dX9_pays_9 rfl 0 rfl ?_
  refine r_aload_n (pc' := 11) C dX9_pays_10 rfl 0 rfl ?_
  refine r_iload_n (pc' := 12) C dX9_pays_11 rfl 1 rfl ?_
  obtain ⟨r5, e6, h⟩ := bd h
  refine r_cV1 (pc' := 15) C (X9_paysAll_ok  e6) mlX9_343 ceX9_paysAll cvX9_paysAll sh_149 rfl rfl rfl (Nat.le_of_ble_eq_true rfl) rfl (Nat.le_of_ble_eq_true rfl) dX9_pays_12 rfl (kk := ?_)
  obtain ⟨r7, e8, h⟩ := bd h
  refine r_cV1 (pc' := 18) C (X9_counted_ok  e8) mlX9_334 ceX9_counted cvX9_counted sh_149 rfl rfl rfl (Nat.le_of_ble_eq_true rfl) rfl (Nat.le_of_ble_eq_true rfl) dX9_pays_15 rfl (kk := ?_)
  have h := Option.some.inj h
  subst h
  exact r_ret C rfl dX9_pays_18 hE
