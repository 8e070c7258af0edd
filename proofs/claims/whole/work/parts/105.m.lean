/-! BorrowedWeight.excessOfBundles(I)I -/
def X8_excessOfBundles_l4 (N : Nat)   (σ : Sg) : Nat → Int32 → Int32 → Int32 → Option (Int32)
  | 0, _, _, _ => none
  | n + 1, v1, v2, v3 =>
    if (gi σ 5 6) ≤ v3 then (some v2) else (if ((v1 >>> (v3 &&& 31)) &&& 1) = 1 then (if inb v3 8 = true then (X0_excess N 19 (gi σ 16 v3.toNatClampNeg) σ).bind fun r4 => (X8_excessOfBundles_l4 N σ n v1 (v2 + r4) (v3 + 1)) else none) else (X8_excessOfBundles_l4 N σ n v1 v2 (v3 + 1)))
set_option maxRecDepth 100000 in
set_option maxHeartbeats 4000000 in
theorem X8_excessOfBundles_l4_ok {E : Ev}  {N : Nat}  {σ : Sg}  : ∀ (n : Nat) (v1 : Int32) (v2 : Int32) (v3 : Int32) (r : Int32), X8_excessOfBundles_l4 N σ n v1 v2 v3 = some r → Gp E RX8 cX8_excessOfBundles (some .int) 4 (2) SH0 σ (some (.int r)) σ 4 [(0, .ref 0), (1, .int v1), (2, .int v2), (3, .int v3)] [] := by
  intro n
  induction n with
  | zero => intro v1 v2 v3 r h; cases h
  | succ n ih =>
    intro v1 v2 v3 r h Z C hE
    unfold X8_excessOfBundles_l4 at h
    refine r_iload_n (pc' := 5) C dX8_excessOfBundles_4 rfl 3 rfl ?_
    refine r_aload_n (pc' := 6) C dX8_excessOfBundles_5 rfl 0 rfl ?_
    refine r_getR (pc' := 9) C flX8_26 sh_0 rfl dX8_excessOfBundles_6 rfl ?_
    refine r_getI (pc' := 12) C flX8_246 sh_5 rfl dX8_excessOfBundles_9 rfl ?_
    refine r_icmp_ge (tgt := 53) (pc' := 15) C dX8_excessOfBundles_12 rfl rfl (fun c1 => ?_) (fun c1 => ?_)
    · rw [if_pos c1] at h
      refine r_iload_n (pc' := 54) C dX8_excessOfBundles_53 rfl 2 rfl ?_
      have h := Option.some.inj h
      subst h
      exact r_ret C rfl dX8_excessOfBundles_54 hE
    · rw [if_neg c1] at h
      refine r_iload_n (pc' := 16) C dX8_excessOfBundles_15 rfl 1 rfl ?_
      refine r_iload_n (pc' := 17) C dX8_excessOfBundles_16 rfl 3 rfl ?_
      refine r_ishr (pc' := 18) C dX8_excessOfBundles_17 rfl ?_
      refine r_iconst (pc' := 19) C dX8_excessOfBundles_18 rfl kc_1 ?_
      refine r_iand (pc' := 20) C dX8_excessOfBundles_19 rfl ?_
      refine r_iconst (pc' := 21) C dX8_excessOfBundles_20 rfl kc_1 ?_
      refine r_icmp_ne (tgt := 47) (pc' := 24) C dX8_excessOfBundles_21 rfl rfl (fun c2 => ?_) (fun c2 => ?_)
      · rw [if_neg c2] at h
        refine r_iinc (pc' := 50) (v := v3 + 1) (lv2 := [(3, .int (v3 + 1)), (0, .ref 0), (1, .int v1), (2, .int v2)]) C dX8_excessOfBundles_47 rfl 3 rfl rfl (Nat.le_of_ble_eq_true rfl) rfl ?_
        refine r_goto (tgt := 4) C dX8_excessOfBundles_50 rfl ?_
        refine r_sub [1, 2, 3, 0] rfl ?_
        exact ih _ _ _ _ h Z C hE
      · rw [if_pos c2] at h
        refine r_iload_n (pc' := 25) C dX8_excessOfBundles_24 rfl 2 rfl ?_
        refine r_aload_n (pc' := 26) C dX8_excessOfBundles_25 rfl 0 rfl ?_
        refine r_getR (pc' := 29) C flX8_26 sh_0 rfl dX8_excessOfBundles_26 rfl ?_
        refine r_aload_n (pc' := 30) C dX8_excessOfBundles_29 rfl 0 rfl ?_
        refine r_getR (pc' := 33) C flX8_33 sh_0 rfl dX8_excessOfBundles_30 rfl ?_
        refine r_aload_n (pc' := 34) C dX8_excessOfBundles_33 rfl 0 rfl ?_
        refine r_getR (pc' := 37) C flX8_26 sh_0 rfl dX8_excessOfBundles_34 rfl ?_
        refine r_getR (pc' := 40) C flX8_249 sh_5 rfl dX8_excessOfBundles_37 rfl ?_
        refine r_iload_n (pc' := 41) C dX8_excessOfBundles_40 rfl 3 rfl ?_
        obtain ⟨q3, h⟩ := ck h
        refine r_iald (pc' := 42) C sh_16 (vin q3) dX8_excessOfBundles_41 rfl ?_
        obtain ⟨r4, e5, h⟩ := bd h
        refine r_cV1 (pc' := 45) C (X0_excess_ok stc_19 e5) mlX8_273 ceX0_excess cvX0_excess sh_5 rfl rfl rfl (Nat.le_of_ble_eq_true rfl) rfl (Nat.le_of_ble_eq_true rfl) dX8_excessOfBundles_42 rfl (kk := ?_)
        refine r_iadd (pc' := 46) C dX8_excessOfBundles_45 rfl ?_
        refine r_istore_n (pc' := 47) (lv2 := [(2, .int (v2 + r4)), (0, .ref 0), (1, .int v1), (3, .int v3)]) C dX8_excessOfBundles_46 rfl rfl (Nat.le_of_ble_eq_true rfl) rfl ?_
        refine r_iinc (pc' := 50) (v := v3 + 1) (lv2 := [(3, .int (v3 + 1)), (2, .int (v2 + r4)), (0, .ref 0), (1, .int v1)]) C dX8_excessOfBundles_47 rfl 3 rfl rfl (Nat.le_of_ble_eq_true rfl) rfl ?_
        refine r_goto (tgt := 4) C dX8_excessOfBundles_50 rfl ?_
        refine r_sub [2, 3, 1, 0] rfl ?_
        exact ih _ _ _ _ h Z C hE
def X8_excessOfBundles (N : Nat)  (v1 : Int32) (σ : Sg) : Option (Int32) :=
  X8_excessOfBundles_l4 N σ N v1 0 0
set_option maxRecDepth 100000 in
set_option maxHeartbeats 4000000 in
theorem X8_excessOfBundles_ok {E : Ev}  {N : Nat} {v1 : Int32} {σ : Sg} {r : Int32} (h : X8_excessOfBundles N  v1 σ = some r) : Cm E (2) yX8_excessOfBundles cX8_excessOfBundles 4 (some .int) [.ref 0, .int v1] SH0 SH0 σ σ (some (.int r)) 0 0 := by
  refine Cm.intro (by decide +kernel) (Nat.le_of_ble_eq_true rfl) (fun _ h => by obtain ⟨_, _, _, _, _, _, h⟩ := h; exact h) (fun Z C hE => ?_)
  show Wm E Z 0 0 SH0 σ 0 [(0, .ref 0), (1, .int v1)] []
  unfold X8_excessOfBundles at h
  refine r_iconst (pc' := 1) C dX8_excessOfBundles_0 rfl kc_0 ?_
  refine r_istore_n (pc' := 2) (lv2 := [(2, .int 0), (0, .ref 0), (1, .int v1)]) C dX8_excessOfBundles_1 rfl rfl (Nat.le_of_ble_eq_true rfl) rfl ?_
  refine r_iconst (pc' := 3) C dX8_excessOfBundles_2 rfl kc_0 ?_
  refine r_istore_n (pc' := 4) (lv2 := [(3, .int 0), (2, .int 0), (0, .ref 0), (1, .int v1)]) C dX8_excessOfBundles_3 rfl rfl (Nat.le_of_ble_eq_true rfl) rfl ?_
  refine r_sub [2, 3, 1, 0] rfl ?_
  exact X8_excessOfBundles_l4_ok  N _ _ _ _ h Z C hE

/-! BorrowedWeight.mostGroups(I)I -/
def X8_mostGroups_j43 (N : Nat)  (kr : Int32 → Int32 → Int32 → Int32 → Option (Int32)) (v1 : Int32) (v2 : Int32) (v3 : Int32) (v4 : Int32) (s0 : Int32) (σ : Sg) : Option (Int32) :=
  if s0 = 0 then (kr v1 v2 v3 (v4 + 1)) else (if inb v4 256 = true then if (gi σ 143 v4.toNatClampNeg) < 0 then (kr v1 v2 v3 (v4 + 1)) else (if inb (v1 ^^^ v4) 256 = true then if (gi σ 144 (v1 ^^^ v4).toNatClampNeg) < 0 then (kr v1 v2 v3 (v4 + 1)) else (if inb (v1 ^^^ v4) 256 = true then (J9_max_7cf53 N v2 ((gi σ 144 (v1 ^^^ v4).toNatClampNeg) + 1) σ).bind fun r10 => (kr v1 r10 v3 (v4 + 1)) else none) else none) else none)
set_option maxRecDepth 100000 in
set_option maxHeartbeats 4000000 in
theorem X8_mostGroups_j43_ok {E : Ev}  {N : Nat} {kr : Int32 → Int32 → Int32 → Int32 → Option (Int32)} {σ : Sg}  (hkr : ∀ (v1 : Int32) (v2 : Int32) (v3 : Int32) (v4 : Int32) (r : Int32), kr v1 v2 v3 v4 = some r → Gp E RX8 cX8_mostGroups (some .int) 6 (1) SH0 σ (some (.int r)) σ 16 [(0, .ref 0), (1, .int v1), (2, .int v2), (3, .int v3), (4, .int v4)] []) {v1 : Int32} {v2 : Int32} {v3 : Int32} {v4 : Int32} {s0 : Int32} {r : Int32} (h : X8_mostGroups_j43 N  kr v1 v2 v3 v4 s0 σ = some r) : Gp E RX8 cX8_mostGroups (some .int) 6 (1) SH0 σ (some (.int r)) σ 43 [(0, .ref 0), (1, .int v1), (2, .int v2), (3, .int v3), (4, .int v4)] [.int s0] := by
  intro Z C hE
  unfold X8_mostGroups_j43 at h
  refine r_istore (pc' := 45) (lv2 := [(5, .int s0), (0, .ref 0), (1, .int v1), (2, .int v2), (3, .int v3), (4, .int v4)]) C dX8_mostGroups_43 rfl (Nat.le_of_ble_eq_true rfl) rfl ?_
  refine r_iload (pc' := 47) C dX8_mostGroups_45 rfl 0 rfl ?_
  refine r_if_eq (tgt := 88) (pc' := 50) C dX8_mostGroups_47 rfl rfl (fun c4 => ?_) (fun c4 => ?_)
  · rw [if_pos c4] at h
    refine r_iinc (pc' := 91) (v := v4 + 1) (lv2 := [(4, .int (v4 + 1)), (5, .int s0), (0, .ref 0), (1, .int v1), (2, .int v2), (3, .int v3)]) C dX8_mostGroups_88 rfl 5 rfl rfl (Nat.le_of_ble_eq_true rfl) rfl ?_
    refine r_goto (tgt := 16) C dX8_mostGroups_91 rfl ?_
    refine r_sub [2, 3, 4, 5, 0] rfl ?_
    exact hkr _ _ _ _ _ h Z C hE
  · rw [if_neg c4] at h
    refine r_aload_n (pc' := 51) C dX8_mostGroups_50 rfl 1 rfl ?_
    refine r_getR (pc' := 54) C flX8_65 sh_0 rfl dX8_mostGroups_51 rfl ?_
    refine r_iload (pc' := 56) C dX8_mostGroups_54 rfl 5 rfl ?_
    obtain ⟨q5, h⟩ := ck h
    refine r_iald (pc' := 57) C sh_143 (vin q5) dX8_mostGroups_56 rfl ?_
    refine r_if_lt (tgt := 88) (pc' := 60) C dX8_mostGroups_57 rfl rfl (fun c6 => ?_) (fun c6 => ?_)
    · rw [if_pos c6] at h
      refine r_iinc (pc' := 91) (v := v4 + 1) (lv2 := [(4, .int (v4 + 1)), (5, .int s0), (0, .ref 0), (1, .int v1), (2, .int v2), (3, .int v3)]) C dX8_mostGroups_88 rfl 5 rfl rfl (Nat.le_of_ble_eq_true rfl) rfl ?_
      refine r_goto (tgt := 16) C dX8_mostGroups_91 rfl ?_
      refine r_sub [2, 3, 4, 5, 0] rfl ?_
      exact hkr _ _ _ _ _ h Z C hE
    · rw [if_neg c6] at h
      refine r_aload_n (pc' := 61) C dX8_mostGroups_60 rfl 1 rfl ?_
      refine r_getR (pc' := 64) C flX8_68 sh_0 rfl dX8_mostGroups_61 rfl ?_
      refine r_iload_n (pc' := 65) C dX8_mostGroups_64 rfl 2 rfl ?_
      refine r_iload (pc' := 67) C dX8_mostGroups_65 rfl 5 rfl ?_
      refine r_ixor (pc' := 68) C dX8_mostGroups_67 rfl ?_
      obtain ⟨q7, h⟩ := ck h
      refine r_iald (pc' := 69) C sh_144 (vin q7) dX8_mostGroups_68 rfl ?_
      refine r_if_lt (tgt := 88) (pc' := 72) C dX8_mostGroups_69 rfl rfl (fun c8 => ?_) (fun c8 => ?_)
      · rw [if_pos c8] at h
        refine r_iinc (pc' := 91) (v := v4 + 1) (lv2 := [(4, .int (v4 + 1)), (5, .int s0), (0, .ref 0), (1, .int v1), (2, .int v2), (3, .int v3)]) C dX8_mostGroups_88 rfl 5 rfl rfl (Nat.le_of_ble_eq_true rfl) rfl ?_
        refine r_goto (tgt := 16) C dX8_mostGroups_91 rfl ?_
        refine r_sub [2, 3, 4, 5, 0] rfl ?_
        exact hkr _ _ _ _ _ h Z C hE
      · rw [if_neg c8] at h
        refine r_iload_n (pc' := 73) C dX8_mostGroups_72 rfl 3 rfl ?_
        refine r_aload_n (pc' := 74) C dX8_mostGroups_73 rfl 1 rfl ?_
        refine r_getR (pc' := 77) C flX8_68 sh_0 rfl dX8_mostGroups_74 rfl ?_
        refine r_iload_n (pc' := 78) C dX8_mostGroups_77 rfl 2 rfl ?_
        refine r_iload (pc' := 80) C dX8_mostGroups_78 rfl 5 rfl ?_
        refine r_ixor (pc' := 81) C dX8_mostGroups_80 rfl ?_
        obtain ⟨q9, h⟩ := ck h
        refine r_iald (pc' := 82) C sh_144 (vin q9) dX8_mostGroups_81 rfl ?_
        refine r_iconst (pc' := 83) C dX8_mostGroups_82 rfl kc_1 ?_
        refine r_iadd (pc' := 84) C dX8_mostGroups_83 rfl ?_
        obtain ⟨r10, e11, h⟩ := bd h
        refine r_cS1 (pc' := 87) C (J9_max_7cf53_ok  e11) mlX8_351 ceJ9_max_7cf53 csJ9_max_7cf53 rfl (Nat.le_of_ble_eq_true rfl) rfl (Nat.le_of_ble_eq_true rfl) dX8_mostGroups_84 rfl (kk := ?_)
        refine r_istore_n (pc' := 88) (lv2 := [(2, .int r10), (5, .int s0), (0, .ref 0), (1, .int v1), (3, .int v3), (4, .int v4)]) C dX8_mostGroups_87 rfl rfl (Nat.le_of_ble_eq_true rfl) rfl ?_
        refine r_iinc (pc' := 91) (v := v4 + 1) (lv2 := [(4, .int (v4 + 1)), (2, .int r10), (5, .int s0), (0, .ref 0), (1, .int v1), (3, .int v3)]) C dX8_mostGroups_88 rfl 5 rfl rfl (Nat.le_of_ble_eq_true rfl) rfl ?_
        refine r_goto (tgt := 16) C dX8_mostGroups_91 rfl ?_
        refine r_sub [3, 4, 1, 5, 0] rfl ?_
        exact hkr _ _ _ _ _ h Z C hE
def X8_mostGroups_l16 (N : Nat)   (σ : Sg) : Nat → Int32 → Int32 → Int32 → Int32 → Option (Int32)
  | 0, _, _, _, _ => none
  | n + 1, v1, v2, v3, v4 =>
    if v1 < v4 then (some v2) else (if (v4 &&& (v1 ^^^ (-1))) = 0 then (if (v4 &&& v3) = 0 then (X8_mostGroups_j43 N (fun v1 v2 v3 v4 => X8_mostGroups_l16 N σ n v1 v2 v3 v4) v1 v2 v3 v4 0 σ) else (X8_mostGroups_j43 N (fun v1 v2 v3 v4 => X8_mostGroups_l16 N σ n v1 v2 v3 v4) v1 v2 v3 v4 1 σ)) else (X8_mostGroups_j43 N (fun v1 v2 v3 v4 => X8_mostGroups_l16 N σ n v1 v2 v3 v4) v1 v2 v3 v4 0 σ))
set_option maxRecDepth 100000 in
set_option maxHeartbeats 4000000 in
theorem X8_mostGroups_l16_ok {E : Ev}  {N : Nat}  {σ : Sg}  : ∀ (n : Nat) (v1 : Int32) (v2 : Int32) (v3 : Int32) (v4 : Int32) (r : Int32), X8_mostGroups_l16 N σ n v1 v2 v3 v4 = some r → Gp E RX8 cX8_mostGroups (some .int) 6 (1) SH0 σ (some (.int r)) σ 16 [(0, .ref 0), (1, .int v1), (2, .int v2), (3, .int v3), (4, .int v4)] [] := by
  intro n
  induction n with
  | zero => intro v1 v2 v3 v4 r h; cases h
  | succ n ih =>
    intro v1 v2 v3 v4 r h Z C hE
    unfold X8_mostGroups_l16 at h
    refine r_iload (pc' := 18) C dX8_mostGroups_16 rfl 4 rfl ?_
    refine r_iload_n (pc' := 19) C dX8_mostGroups_18 rfl 1 rfl ?_
    refine r_icmp_gt (tgt := 94) (pc' := 22) C dX8_mostGroups_19 rfl rfl (fun c2 => ?_) (fun c2 => ?_)
    · rw [if_pos c2] at h
      refine r_iload_n (pc' := 95) C dX8_mostGroups_94 rfl 2 rfl ?_
      have h := Option.some.inj h
      subst h
      exact r_ret C rfl dX8_mostGroups_95 hE
    · rw [if_neg c2] at h
      refine r_iload (pc' := 24) C dX8_mostGroups_22 rfl 4 rfl ?_
      refine r_iload_n (pc' := 25) C dX8_mostGroups_24 rfl 1 rfl ?_
      refine r_iconst (pc' := 26) C dX8_mostGroups_25 rfl kc_m1 ?_
      refine r_ixor (pc' := 27) C dX8_mostGroups_26 rfl ?_
      refine r_iand (pc' := 28) C dX8_mostGroups_27 rfl ?_
      refine r_if_ne (tgt := 42) (pc' := 31) C dX8_mostGroups_28 rfl rfl (fun c3 => ?_) (fun c3 => ?_)
      · rw [if_neg c3] at h
        refine r_iconst (pc' := 43) C dX8_mostGroups_42 rfl kc_0 ?_
        exact X8_mostGroups_j43_ok  ih h Z C hE
      · rw [if_pos c3] at h
        refine r_iload (pc' := 33) C dX8_mostGroups_31 rfl 4 rfl ?_
        refine r_iload_n (pc' := 34) C dX8_mostGroups_33 rfl 3 rfl ?_
        refine r_iand (pc' := 35) C dX8_mostGroups_34 rfl ?_
        refine r_if_eq (tgt := 42) (pc' := 38) C dX8_mostGroups_35 rfl rfl (fun c12 => ?_) (fun c12 => ?_)
        · rw [if_pos c12] at h
          refine r_iconst (pc' := 43) C dX8_mostGroups_42 rfl kc_0 ?_
          exact X8_mostGroups_j43_ok  ih h Z C hE
        · rw [if_neg c12] at h
          refine r_iconst (pc' := 39) C dX8_mostGroups_38 rfl kc_1 ?_
          refine r_goto (tgt := 43) C dX8_mostGroups_39 rfl ?_
          exact X8_mostGroups_j43_ok  ih h Z C hE
def X8_mostGroups (N : Nat)  (v1 : Int32) (σ : Sg) : Option (Int32) :=
  if v1 = 0 then (some 0) else (X8_mostGroups_l16 N σ N v1 (-1) (v1 &&& (-v1)) 1)
set_option maxRecDepth 100000 in
set_option maxHeartbeats 4000000 in
theorem X8_mostGroups_ok {E : Ev}  {N : Nat} {v1 : Int32} {σ : Sg} {r : Int32} (h : X8_mostGroups N  v1 σ = some r) : Cm E (1) yX8_mostGroups cX8_mostGroups 6 (some .int) [.ref 0, .int v1] SH0 SH0 σ σ (some (.int r)) 0 0 := by
  refine Cm.intro (by decide +kernel) (Nat.le_of_ble_eq_true rfl) (fun _ h => by obtain ⟨_, _, _, _, _, _, h⟩ := h; exact h) (fun Z C hE => ?_)
  show Wm E Z 0 0 SH0 σ 0 [(0, .ref 0), (1, .int v1)] []
  unfold X8_mostGroups at h
  refine r_iload_n (pc' := 1) C dX8_mostGroups_0 rfl 1 rfl ?_
  refine r_if_ne (tgt := 6) (pc' := 4) C dX8_mostGroups_1 rfl rfl (fun c1 => ?_) (fun c1 => ?_)
  · rw [if_neg c1] at h
    refine r_iconst (pc' := 7) C dX8_mostGroups_6 rfl kc_m1 ?_
    refine r_istore_n (pc' := 8) (lv2 := [(2, .int (-1)), (0, .ref 0), (1, .int v1)]) C dX8_mostGroups_7 rfl rfl (Nat.le_of_ble_eq_true rfl) rfl ?_
    refine r_iload_n (pc' := 9) C dX8_mostGroups_8 rfl 2 rfl ?_
    refine r_iload_n (pc' := 10) C dX8_mostGroups_9 rfl 2 rfl ?_
    refine r_ineg (pc' := 11) C dX8_mostGroups_10 rfl ?_
    refine r_iand (pc' := 12) C dX8_mostGroups_11 rfl ?_
    refine r_istore_n (pc' := 13) (lv2 := [(3, .int (v1 &&& (-v1))), (2, .int (-1)), (0, .ref 0), (1, .int v1)]) C dX8_mostGroups_12 rfl rfl (Nat.le_of_ble_eq_true rfl) rfl ?_
    refine r_iconst (pc' := 14) C dX8_mostGroups_13 rfl kc_1 ?_
    refine r_istore (pc' := 16) (lv2 := [(4, .int 1), (3, .int (v1 &&& (-v1))), (2, .int (-1)), (0, .ref 0), (1, .int v1)]) C dX8_mostGroups_14 rfl (Nat.le_of_ble_eq_true rfl) rfl ?_
    refine r_sub [3, 4, 2, 1, 0] rfl ?_
    exact X8_mostGroups_l16_ok  N _ _ _ _ _ h Z C hE
  · rw [if_pos c1] at h
    refine r_iconst (pc' := 5) C dX8_mostGroups_4 rfl kc_0 ?_
    have h := Option.some.inj h
    subst h
    exact r_ret C rfl dX8_mostGroups_5 hE

/-! BorrowedWeight.binds()I -/
def X8_binds_l41 (N : Nat)  (k81 : Int32 → Sg → Option (Int32 × Sg))  : Nat → Int32 → Int32 → Sg → Option (Int32 × Sg)
  | 0, _, _, _ => none
  | n + 1, v1, v2, σ =>
    if v1 ≤ v2 then (k81 v1 σ) else (if 256 ≤ v2 then (k81 v1 σ) else ((X8_excessOfBundles N v2 σ).bind fun r8 => (if inb v2 256 = true then bnS (wi σ 143 v2.toNatClampNeg r8) fun σ11 => (X8_mostGroups N v2 σ11).bind fun r13 => (if inb v2 256 = true then bnS (wi σ11 144 v2.toNatClampNeg r13) fun σ16 => X8_binds_l41 N k81 n v1 (v2 + 1) σ16 else none) else none)))
set_option maxRecDepth 100000 in
set_option maxHeartbeats 4000000 in
theorem X8_binds_l41_ok {E : Ev}  {N : Nat} {k81 : Int32 → Sg → Option (Int32 × Sg)}  (hk81 : ∀ (v1 : Int32) (σ : Sg) (r : Int32 × Sg), k81 v1 σ = some r → Gp E RX8 cX8_binds (some .int) 3 (3) SH0 r.2 (some (.int r.1)) σ 81 [(0, .ref 0), (1, .int v1)] []) : ∀ (n : Nat) (v1 : Int32) (v2 : Int32) (σ : Sg) (r : Int32 × Sg), X8_binds_l41 N k81 n v1 v2 σ = some r → Gp E RX8 cX8_binds (some .int) 3 (3) SH0 r.2 (some (.int r.1)) σ 41 [(0, .ref 0), (1, .int v1), (2, .int v2)] [] := by
  intro n
  induction n with
  | zero => intro v1 v2 σ r h; cases h
  | succ n ih =>
    intro v1 v2 σ r h Z C hE
    unfold X8_binds_l41 at h
    refine r_iload_n (pc' := 42) C dX8_binds_41 rfl 2 rfl ?_
    refine r_iload_n (pc' := 43) C dX8_binds_42 rfl 1 rfl ?_
    refine r_icmp_ge (tgt := 81) (pc' := 46) C dX8_binds_43 rfl rfl (fun c6 => ?_) (fun c6 => ?_)
    · rw [if_pos c6] at h
      refine r_sub [0, 1] rfl ?_
      exact hk81 _ _ _ h Z C hE
    · rw [if_neg c6] at h
      refine r_iload_n (pc' := 47) C dX8_binds_46 rfl 2 rfl ?_
      refine r_sipush (pc' := 50) C dX8_binds_47 rfl ks_256 ?_
      refine r_icmp_ge (tgt := 81) (pc' := 53) C dX8_binds_50 rfl rfl (fun c7 => ?_) (fun c7 => ?_)
      · rw [if_pos c7] at h
        refine r_sub [0, 1] rfl ?_
        exact hk81 _ _ _ h Z C hE
      · rw [if_neg c7] at h
        refine r_aload_n (pc' := 54) C dX8_binds_53 rfl 0 rfl ?_
        refine r_getR (pc' := 57) C flX8_65 sh_0 rfl dX8_binds_54 rfl ?_
        refine r_iload_n (pc' := 58) C dX8_binds_57 rfl 2 rfl ?_
        refine r_aload_n (pc' := 59) C dX8_binds_58 rfl 0 rfl ?_
        refine r_iload_n (pc' := 60) C dX8_binds_59 rfl 2 rfl ?_
        obtain ⟨r8, e9, h⟩ := bd h
        refine r_cV1 (pc' := 63) C (X8_excessOfBundles_ok  e9) mlX8_304 ceX8_excessOfBundles cvX8_excessOfBundles sh_0 rfl rfl rfl (Nat.le_of_ble_eq_true rfl) rfl (Nat.le_of_ble_eq_true rfl) dX8_binds_60 rfl (kk := ?_)
        obtain ⟨q10, h⟩ := ck h
        obtain ⟨σ11, e12, h⟩ := bs h
        refine r_iast (pc' := 64) (σ1 := σ11) C sh_143 (vin q10) dX8_binds_63 rfl e12 ?_
        refine r_aload_n (pc' := 65) C dX8_binds_64 rfl 0 rfl ?_
        refine r_getR (pc' := 68) C flX8_68 sh_0 rfl dX8_binds_65 rfl ?_
        refine r_iload_n (pc' := 69) C dX8_binds_68 rfl 2 rfl ?_
        refine r_aload_n (pc' := 70) C dX8_binds_69 rfl 0 rfl ?_
        refine r_iload_n (pc' := 71) C dX8_binds_70 rfl 2 rfl ?_
        obtain ⟨r13, e14, h⟩ := bd h
        refine r_cV1 (pc' := 74) C (X8_mostGroups_ok  e14) mlX8_307 ceX8_mostGroups cvX8_mostGroups sh_0 rfl rfl rfl (Nat.le_of_ble_eq_true rfl) rfl (Nat.le_of_ble_eq_true rfl) dX8_binds_71 rfl (kk := ?_)
        obtain ⟨q15, h⟩ := ck h
        obtain ⟨σ16, e17, h⟩ := bs h
        refine r_iast (pc' := 75) (σ1 := σ16) C sh_144 (vin q15) dX8_binds_74 rfl e17 ?_
        refine r_iinc (pc' := 78) (v := v2 + 1) (lv2 := [(2, .int (v2 + 1)), (0, .ref 0), (1, .int v1)]) C dX8_binds_75 rfl 2 rfl rfl (Nat.le_of_ble_eq_true rfl) rfl ?_
        refine r_goto (tgt := 41) C dX8_binds_78 rfl ?_
        refine r_sub [1, 2, 0] rfl ?_
        exact ih _ _ _ _ h Z C hE
def X8_binds_j81 (N : Nat)   (v1 : Int32) (σ : Sg) : Option (Int32 × Sg) :=
  (J9_min_7cf53 N v1 256 σ).bind fun r18 => (if inb (r18 - 1) 256 = true then if 0 ≤ (gi σ 144 (r18 - 1).toNatClampNeg) then ((X2_tell N ((gi σ 144 (r18 - 1).toNatClampNeg).toInt64) σ).bind fun r22 => (some ((gi r22 5 6) - (gi σ 144 (r18 - 1).toNatClampNeg), r22))) else (some ((-2), σ)) else none)
set_option maxRecDepth 100000 in
set_option maxHeartbeats 4000000 in
theorem X8_binds_j81_ok {E : Ev}  {N : Nat}    {v1 : Int32} {σ : Sg} {r : Int32 × Sg} (h : X8_binds_j81 N   v1 σ = some r) : Gp E RX8 cX8_binds (some .int) 3 (3) SH0 r.2 (some (.int r.1)) σ 81 [(0, .ref 0), (1, .int v1)] [] := by
  intro Z C hE
  unfold X8_binds_j81 at h
  refine r_aload_n (pc' := 82) C dX8_binds_81 rfl 0 rfl ?_
  refine r_getR (pc' := 85) C flX8_68 sh_0 rfl dX8_binds_82 rfl ?_
  refine r_iload_n (pc' := 86) C dX8_binds_85 rfl 1 rfl ?_
  refine r_sipush (pc' := 89) C dX8_binds_86 rfl ks_256 ?_
  obtain ⟨r18, e19, h⟩ := bd h
  refine r_cS1 (pc' := 92) C (J9_min_7cf53_ok  e19) mlX8_310 ceJ9_min_7cf53 csJ9_min_7cf53 rfl (Nat.le_of_ble_eq_true rfl) rfl (Nat.le_of_ble_eq_true rfl) dX8_binds_89 rfl (kk := ?_)
  refine r_iconst (pc' := 93) C dX8_binds_92 rfl kc_1 ?_
  refine r_isub (pc' := 94) C dX8_binds_93 rfl ?_
  obtain ⟨q20, h⟩ := ck h
  refine r_iald (pc' := 95) C sh_144 (vin q20) dX8_binds_94 rfl ?_
  refine r_istore_n (pc' := 96) (lv2 := [(2, .int (gi σ 144 (r18 - 1).toNatClampNeg)), (0, .ref 0), (1, .int v1)]) C dX8_binds_95 rfl rfl (Nat.le_of_ble_eq_true rfl) rfl ?_
  refine r_iload_n (pc' := 97) C dX8_binds_96 rfl 0 rfl ?_
  refine r_if_ge (tgt := 103) (pc' := 100) C dX8_binds_97 rfl rfl (fun c21 => ?_) (fun c21 => ?_)
  · rw [if_pos c21] at h
    refine r_aload_n (pc' := 104) C dX8_binds_103 rfl 1 rfl ?_
    refine r_getR (pc' := 107) C flX8_19 sh_0 rfl dX8_binds_104 rfl ?_
    refine r_iload_n (pc' := 108) C dX8_binds_107 rfl 0 rfl ?_
    refine r_i2l (pc' := 109) C dX8_binds_108 rfl rfl ?_
    obtain ⟨r22, e23, h⟩ := bd h
    refine r_cV0 (pc' := 112) C (X2_tell_ok  e23) mlX8_261 ceX2_tell cvX2_tell sh_3 rfl rfl rfl (Nat.le_of_ble_eq_true rfl) rfl (Nat.le_of_ble_eq_true rfl) dX8_binds_109 rfl (kk := ?_)
    refine r_aload_n (pc' := 113) C dX8_binds_112 rfl 1 rfl ?_
    refine r_getR (pc' := 116) C flX8_26 sh_0 rfl dX8_binds_113 rfl ?_
    refine r_getI (pc' := 119) C flX8_246 sh_5 rfl dX8_binds_116 rfl ?_
    refine r_iload_n (pc' := 120) C dX8_binds_119 rfl 0 rfl ?_
    refine r_isub (pc' := 121) C dX8_binds_120 rfl ?_
    have h := Option.some.inj h
    subst h
    exact r_ret C rfl dX8_binds_121 hE
  · rw [if_neg c21] at h
    refine r_bipush (pc' := 102) C dX8_binds_100 rfl kb_m2 ?_
    have h := Option.some.inj h
    subst h
    exact r_ret C rfl dX8_binds_102 hE
def X8_binds (N : Nat)   (σ : Sg) : Option (Int32 × Sg) :=
  if isRule ((gi σ 5 2).toNatClampNeg) = true then (X0_weigh N 19 ((gi σ 5 2).toNatClampNeg) σ).bind fun r2 => ((X0_part N 19 r2).bind fun r4 => (X8_binds_l41 N (fun v1 σ => X8_binds_j81 N v1 σ) N (1 <<< ((gi r4 5 6) &&& 31)) 0 r4)) else none
set_option maxRecDepth 100000 in
set_option maxHeartbeats 4000000 in
theorem X8_binds_ok {E : Ev}  {N : Nat}  {σ : Sg} {r : Int32 × Sg} (h : X8_binds N   σ = some r) : Cm E (3) yX8_binds cX8_binds 3 (some .int) [.ref 0] SH0 SH0 σ r.2 (some (.int r.1)) 0 0 := by
  refine Cm.intro (by decide +kernel) (Nat.le_of_ble_eq_true rfl) (fun _ h => by obtain ⟨_, _, _, _, _, _, h⟩ := h; exact h) (fun Z C hE => ?_)
  show Wm E Z 0 0 SH0 σ 0 [(0, .ref 0)] []
  unfold X8_binds at h
  refine r_aload_n (pc' := 1) C dX8_binds_0 rfl 0 rfl ?_
  refine r_getR (pc' := 4) C flX8_26 sh_0 rfl dX8_binds_1 rfl ?_
  refine r_aload_n (pc' := 5) C dX8_binds_4 rfl 0 rfl ?_
  refine r_getR (pc' := 8) C flX8_33 sh_0 rfl dX8_binds_5 rfl ?_
  refine r_aload_n (pc' := 9) C dX8_binds_8 rfl 0 rfl ?_
  refine r_getR (pc' := 12) C flX8_26 sh_0 rfl dX8_binds_9 rfl ?_
  refine r_getD (pc' := 15) C flX8_163 sh_5 rfl dX8_binds_12 rfl ?_
  obtain ⟨q1, h⟩ := ck h
  obtain ⟨r2, e3, h⟩ := bd h
  refine r_cV0 (pc' := 18) C (X0_weigh_ok stc_19 (ruof q1) e3) mlX8_167 ceX0_weigh cvX0_weigh sh_5 rfl rfl rfl (Nat.le_of_ble_eq_true rfl) rfl (Nat.le_of_ble_eq_true rfl) dX8_binds_15 rfl (kk := ?_)
  refine r_aload_n (pc' := 19) C dX8_binds_18 rfl 0 rfl ?_
  refine r_getR (pc' := 22) C flX8_26 sh_0 rfl dX8_binds_19 rfl ?_
  refine r_aload_n (pc' := 23) C dX8_binds_22 rfl 0 rfl ?_
  refine r_getR (pc' := 26) C flX8_33 sh_0 rfl dX8_binds_23 rfl ?_
  obtain ⟨r4, e5, h⟩ := bd h
  refine r_cV0 (pc' := 29) C (X0_part_ok stc_19 e5) mlX8_276 ceX0_part cvX0_part sh_5 rfl rfl rfl (Nat.le_of_ble_eq_true rfl) rfl (Nat.le_of_ble_eq_true rfl) dX8_binds_26 rfl (kk := ?_)
  refine r_iconst (pc' := 30) C dX8_binds_29 rfl kc_1 ?_
  refine r_aload_n (pc' := 31) C dX8_binds_30 rfl 0 rfl ?_
  refine r_getR (pc' := 34) C flX8_26 sh_0 rfl dX8_binds_31 rfl ?_
  refine r_getI (pc' := 37) C flX8_246 sh_5 rfl dX8_binds_34 rfl ?_
  refine r_ishl (pc' := 38) C dX8_binds_37 rfl ?_
  refine r_istore_n (pc' := 39) (lv2 := [(1, .int (1 <<< ((gi r4 5 6) &&& 31))), (0, .ref 0)]) C dX8_binds_38 rfl rfl (Nat.le_of_ble_eq_true rfl) rfl ?_
  refine r_iconst (pc' := 40) C dX8_binds_39 rfl kc_0 ?_
  refine r_istore_n (pc' := 41) (lv2 := [(2, .int 0), (1, .int (1 <<< ((gi r4 5 6) &&& 31))), (0, .ref 0)]) C dX8_binds_40 rfl rfl (Nat.le_of_ble_eq_true rfl) rfl ?_
  refine r_sub [2, 1, 0] rfl ?_
  exact X8_binds_l41_ok  (fun _ _ _ h Z C hE => by exact X8_binds_j81_ok  h Z C hE) N _ _ _ _ h Z C hE

/-! BorrowedWeight.markSteps(I)V -/
def X8_markSteps_l2 (N : Nat)  (k21 : Int32 → Sg → Option (Sg))  : Nat → Int32 → Int32 → Sg → Option (Sg)
  | 0, _, _, _ => none
  | n + 1, v1, v2, σ =>
    if 8 ≤ v2 then (k21 v1 σ) else (if inb v2 8 = true then bnS (wi σ 142 v2.toNatClampNeg (-1)) fun σ3 => X8_markSteps_l2 N k21 n v1 (v2 + 1) σ3 else none)
set_option maxRecDepth 100000 in
set_option maxHeartbeats 4000000 in
theorem X8_markSteps_l2_ok {E : Ev}  {N : Nat} {k21 : Int32 → Sg → Option (Sg)}  (hk21 : ∀ (v1 : Int32) (σ : Sg) (r : Sg), k21 v1 σ = some r → Gp E RX8 cX8_markSteps none 7 (0) SH0 r (none) σ 21 [(0, .ref 0), (1, .int v1)] []) : ∀ (n : Nat) (v1 : Int32) (v2 : Int32) (σ : Sg) (r : Sg), X8_markSteps_l2 N k21 n v1 v2 σ = some r → Gp E RX8 cX8_markSteps none 7 (0) SH0 r (none) σ 2 [(0, .ref 0), (1, .int v1), (2, .int v2)] [] := by
  intro n
  induction n with
  | zero => intro v1 v2 σ r h; cases h
  | succ n ih =>
    intro v1 v2 σ r h Z C hE
    unfold X8_markSteps_l2 at h
    refine r_iload_n (pc' := 3) C dX8_markSteps_2 rfl 2 rfl ?_
    refine r_bipush (pc' := 5) C dX8_markSteps_3 rfl kb_8 ?_
    refine r_icmp_ge (tgt := 21) (pc' := 8) C dX8_markSteps_5 rfl rfl (fun c1 => ?_) (fun c1 => ?_)
    · rw [if_pos c1] at h
      refine r_sub [0, 1] rfl ?_
      exact hk21 _ _ _ h Z C hE
    · rw [if_neg c1] at h
      refine r_aload_n (pc' := 9) C dX8_markSteps_8 rfl 0 rfl ?_
      refine r_getR (pc' := 12) C flX8_61 sh_0 rfl dX8_markSteps_9 rfl ?_
      refine r_iload_n (pc' := 13) C dX8_markSteps_12 rfl 2 rfl ?_
      refine r_iconst (pc' := 14) C dX8_markSteps_13 rfl kc_m1 ?_
      obtain ⟨q2, h⟩ := ck h
      obtain ⟨σ3, e4, h⟩ := bs h
      refine r_iast (pc' := 15) (σ1 := σ3) C sh_142 (vin q2) dX8_markSteps_14 rfl e4 ?_
      refine r_iinc (pc' := 18) (v := v2 + 1) (lv2 := [(2, .int (v2 + 1)), (0, .ref 0), (1, .int v1)]) C dX8_markSteps_15 rfl 2 rfl rfl (Nat.le_of_ble_eq_true rfl) rfl ?_
      refine r_goto (tgt := 2) C dX8_markSteps_18 rfl ?_
      refine r_sub [1, 2, 0] rfl ?_
      exact ih _ _ _ _ h Z C hE
def X8_markSteps_l43 (N : Nat)  (k90 : Int32 → Int32 → Int32 → Sg → Option (Sg))  : Nat → Int32 → Int32 → Int32 → Int32 → Int32 → Sg → Option (Sg)
  | 0, _, _, _, _, _, _ => none
  | n + 1, v2, v3, v4, v5, v6, σ =>
    if 8 ≤ v6 then (k90 v2 v4 v5 σ) else (if ((v3 >>> (v6 &&& 31)) &&& 1) = 1 then (if inb v6 8 = true then bnS (wi σ 142 v6.toNatClampNeg v4) fun σ9 => if inb v6 8 = true then X8_markSteps_l43 N k90 n v2 v3 v4 (v5 ||| (gi σ9 23 v6.toNatClampNeg)) (v6 + 1) σ9 else none else none) else (X8_markSteps_l43 N k90 n v2 v3 v4 v5 (v6 + 1) σ))
set_option maxRecDepth 100000 in
set_option maxHeartbeats 4000000 in
theorem X8_markSteps_l43_ok {E : Ev}  {N : Nat} {k90 : Int32 → Int32 → Int32 → Sg → Option (Sg)}  (hk90 : ∀ (v2 : Int32) (v4 : Int32) (v5 : Int32) (σ : Sg) (r : Sg), k90 v2 v4 v5 σ = some r → Gp E RX8 cX8_markSteps none 7 (0) SH0 r (none) σ 90 [(0, .ref 0), (2, .int v2), (4, .int v4), (5, .int v5)] []) : ∀ (n : Nat) (v2 : Int32) (v3 : Int32) (v4 : Int32) (v5 : Int32) (v6 : Int32) (σ : Sg) (r : Sg), X8_markSteps_l43 N k90 n v2 v3 v4 v5 v6 σ = some r → Gp E RX8 cX8_markSteps none 7 (0) SH0 r (none) σ 43 [(0, .ref 0), (2, .int v2), (3, .int v3), (4, .int v4), (5, .int v5), (6, .int v6)] [] := by
  intro n
  induction n with
  | zero => intro v2 v3 v4 v5 v6 σ r h; cases h
  | succ n ih =>
    intro v2 v3 v4 v5 v6 σ r h Z C hE
    unfold X8_markSteps_l43 at h
    refine r_iload (pc' := 45) C dX8_markSteps_43 rfl 5 rfl ?_
    refine r_bipush (pc' := 47) C dX8_markSteps_45 rfl kb_8 ?_
    refine r_icmp_ge (tgt := 90) (pc' := 50) C dX8_markSteps_47 rfl rfl (fun c6 => ?_) (fun c6 => ?_)
    · rw [if_pos c6] at h
      refine r_sub [0, 1, 3, 4] rfl ?_
      exact hk90 _ _ _ _ _ h Z C hE
    · rw [if_neg c6] at h
      refine r_iload_n (pc' := 51) C dX8_markSteps_50 rfl 2 rfl ?_
      refine r_iload (pc' := 53) C dX8_markSteps_51 rfl 5 rfl ?_
      refine r_ishr (pc' := 54) C dX8_markSteps_53 rfl ?_
      refine r_iconst (pc' := 55) C dX8_markSteps_54 rfl kc_1 ?_
      refine r_iand (pc' := 56) C dX8_markSteps_55 rfl ?_
      refine r_iconst (pc' := 57) C dX8_markSteps_56 rfl kc_1 ?_
      refine r_icmp_ne (tgt := 84) (pc' := 60) C dX8_markSteps_57 rfl rfl (fun c7 => ?_) (fun c7 => ?_)
      · rw [if_neg c7] at h
        refine r_iinc (pc' := 87) (v := v6 + 1) (lv2 := [(6, .int (v6 + 1)), (0, .ref 0), (2, .int v2), (3, .int v3), (4, .int v4), (5, .int v5)]) C dX8_markSteps_84 rfl 5 rfl rfl (Nat.le_of_ble_eq_true rfl) rfl ?_
        refine r_goto (tgt := 43) C dX8_markSteps_87 rfl ?_
        refine r_sub [1, 2, 3, 4, 5, 0] rfl ?_
        exact ih _ _ _ _ _ _ _ h Z C hE
      · rw [if_pos c7] at h
        refine r_aload_n (pc' := 61) C dX8_markSteps_60 rfl 0 rfl ?_
        refine r_getR (pc' := 64) C flX8_61 sh_0 rfl dX8_markSteps_61 rfl ?_
        refine r_iload (pc' := 66) C dX8_markSteps_64 rfl 5 rfl ?_
        refine r_iload (pc' := 68) C dX8_markSteps_66 rfl 3 rfl ?_
        obtain ⟨q8, h⟩ := ck h
        obtain ⟨σ9, e10, h⟩ := bs h
        refine r_iast (pc' := 69) (σ1 := σ9) C sh_142 (vin q8) dX8_markSteps_68 rfl e10 ?_
        refine r_iload (pc' := 71) C dX8_markSteps_69 rfl 4 rfl ?_
        refine r_aload_n (pc' := 72) C dX8_markSteps_71 rfl 0 rfl ?_
        refine r_getR (pc' := 75) C flX8_33 sh_0 rfl dX8_markSteps_72 rfl ?_
        refine r_getR (pc' := 78) C flX8_174 sh_19 rfl dX8_markSteps_75 rfl ?_
        refine r_iload (pc' := 80) C dX8_markSteps_78 rfl 5 rfl ?_
        obtain ⟨q11, h⟩ := ck h
        refine r_iald (pc' := 81) C sh_23 (vin q11) dX8_markSteps_80 rfl ?_
        refine r_ior (pc' := 82) C dX8_markSteps_81 rfl ?_
        refine r_istore (pc' := 84) (lv2 := [(5, .int (v5 ||| (gi σ9 23 v6.toNatClampNeg))), (0, .ref 0), (2, .int v2), (3, .int v3), (4, .int v4), (6, .int v6)]) C dX8_markSteps_82 rfl (Nat.le_of_ble_eq_true rfl) rfl ?_
        refine r_iinc (pc' := 87) (v := v6 + 1) (lv2 := [(6, .int (v6 + 1)), (5, .int (v5 ||| (gi σ9 23 v6.toNatClampNeg))), (0, .ref 0), (2, .int v2), (3, .int v3), (4, .int v4)]) C dX8_markSteps_84 rfl 5 rfl rfl (Nat.le_of_ble_eq_true rfl) rfl ?_
        refine r_goto (tgt := 43) C dX8_markSteps_87 rfl ?_
        refine r_sub [2, 3, 4, 5, 1, 0] rfl ?_
        exact ih _ _ _ _ _ _ _ h Z C hE
def X8_markSteps_j90 (N : Nat)  (kr : Int32 → Int32 → Int32 → Sg → Option (Sg)) (v2 : Int32) (v4 : Int32) (v5 : Int32) (σ : Sg) : Option (Sg) :=
  kr (v2 ||| (v5 &&& (v2 ^^^ (-1)))) (v5 &&& (v2 ^^^ (-1))) (v4 + 1) σ
set_option maxRecDepth 100000 in
set_option maxHeartbeats 4000000 in
theorem X8_markSteps_j90_ok {E : Ev}  {N : Nat} {kr : Int32 → Int32 → Int32 → Sg → Option (Sg)}  (hkr : ∀ (v2 : Int32) (v3 : Int32) (v4 : Int32) (σ : Sg) (r : Sg), kr v2 v3 v4 σ = some r → Gp E RX8 cX8_markSteps none 7 (0) SH0 r (none) σ 30 [(0, .ref 0), (2, .int v2), (3, .int v3), (4, .int v4)] []) {v2 : Int32} {v4 : Int32} {v5 : Int32} {σ : Sg} {r : Sg} (h : X8_markSteps_j90 N  kr v2 v4 v5 σ = some r) : Gp E RX8 cX8_markSteps none 7 (0) SH0 r (none) σ 90 [(0, .ref 0), (2, .int v2), (4, .int v4), (5, .int v5)] [] := by
  intro Z C hE
  unfold X8_markSteps_j90 at h
  refine r_iload (pc' := 92) C dX8_markSteps_90 rfl 3 rfl ?_
  refine r_iload_n (pc' := 93) C dX8_markSteps_92 rfl 1 rfl ?_
  refine r_iconst (pc' := 94) C dX8_markSteps_93 rfl kc_m1 ?_
  refine r_ixor (pc' := 95) C dX8_markSteps_94 rfl ?_
  refine r_iand (pc' := 96) C dX8_markSteps_95 rfl ?_
  refine r_istore_n (pc' := 97) (lv2 := [(3, .int (v5 &&& (v2 ^^^ (-1)))), (0, .ref 0), (2, .int v2), (4, .int v4), (5, .int v5)]) C dX8_markSteps_96 rfl rfl (Nat.le_of_ble_eq_true rfl) rfl ?_
  refine r_iload_n (pc' := 98) C dX8_markSteps_97 rfl 2 rfl ?_
  refine r_iload_n (pc' := 99) C dX8_markSteps_98 rfl 0 rfl ?_
  refine r_ior (pc' := 100) C dX8_markSteps_99 rfl ?_
  refine r_istore_n (pc' := 101) (lv2 := [(2, .int (v2 ||| (v5 &&& (v2 ^^^ (-1))))), (3, .int (v5 &&& (v2 ^^^ (-1)))), (0, .ref 0), (4, .int v4), (5, .int v5)]) C dX8_markSteps_100 rfl rfl (Nat.le_of_ble_eq_true rfl) rfl ?_
  refine r_iinc (pc' := 104) (v := v4 + 1) (lv2 := [(4, .int (v4 + 1)), (2, .int (v2 ||| (v5 &&& (v2 ^^^ (-1))))), (3, .int (v5 &&& (v2 ^^^ (-1)))), (0, .ref 0), (5, .int v5)]) C dX8_markSteps_101 rfl 3 rfl rfl (Nat.le_of_ble_eq_true rfl) rfl ?_
  refine r_goto (tgt := 30) C dX8_markSteps_104 rfl ?_
  refine r_sub [3, 1, 2, 0] rfl ?_
  exact hkr _ _ _ _ _ h Z C hE
def X8_markSteps_l30 (N : Nat)    : Nat → Int32 → Int32 → Int32 → Sg → Option (Sg)
  | 0, _, _, _, _ => none
  | n + 1, v2, v3, v4, σ =>
    if 8 ≤ v4 then (some σ) else (X8_markSteps_l43 N (fun v2 v4 v5 σ => X8_markSteps_j90 N (fun v2 v3 v4 σ => X8_markSteps_l30 N n v2 v3 v4 σ) v2 v4 v5 σ) N v2 v3 v4 0 0 σ)
set_option maxRecDepth 100000 in
set_option maxHeartbeats 4000000 in
theorem X8_markSteps_l30_ok {E : Ev}  {N : Nat}    : ∀ (n : Nat) (v2 : Int32) (v3 : Int32) (v4 : Int32) (σ : Sg) (r : Sg), X8_markSteps_l30 N n v2 v3 v4 σ = some r → Gp E RX8 cX8_markSteps none 7 (0) SH0 r (none) σ 30 [(0, .ref 0), (2, .int v2), (3, .int v3), (4, .int v4)] [] := by
  intro n
  induction n with
  | zero => intro v2 v3 v4 σ r h; cases h
  | succ n ih =>
    intro v2 v3 v4 σ r h Z C hE
    unfold X8_markSteps_l30 at h
    refine r_iload (pc' := 32) C dX8_markSteps_30 rfl 3 rfl ?_
    refine r_bipush (pc' := 34) C dX8_markSteps_32 rfl kb_8 ?_
    refine r_icmp_ge (tgt := 107) (pc' := 37) C dX8_markSteps_34 rfl rfl (fun c5 => ?_) (fun c5 => ?_)
    · rw [if_pos c5] at h
      have h := Option.some.inj h
      subst h
      exact r_vret C dX8_markSteps_107 hE
    · rw [if_neg c5] at h
      refine r_iconst (pc' := 38) C dX8_markSteps_37 rfl kc_0 ?_
      refine r_istore (pc' := 40) (lv2 := [(5, .int 0), (0, .ref 0), (2, .int v2), (3, .int v3), (4, .int v4)]) C dX8_markSteps_38 rfl (Nat.le_of_ble_eq_true rfl) rfl ?_
      refine r_iconst (pc' := 41) C dX8_markSteps_40 rfl kc_0 ?_
      refine r_istore (pc' := 43) (lv2 := [(6, .int 0), (5, .int 0), (0, .ref 0), (2, .int v2), (3, .int v3), (4, .int v4)]) C dX8_markSteps_41 rfl (Nat.le_of_ble_eq_true rfl) rfl ?_
      refine r_sub [2, 3, 4, 5, 1, 0] rfl ?_
      exact X8_markSteps_l43_ok  (fun _ _ _ _ _ h Z C hE => by exact X8_markSteps_j90_ok  ih h Z C hE) N _ _ _ _ _ _ _ h Z C hE
def X8_markSteps_j21 (N : Nat)   (v1 : Int32) (σ : Sg) : Option (Sg) :=
  X8_markSteps_l30 N N (1 <<< (v1 &&& 31)) (1 <<< (v1 &&& 31)) 0 σ
set_option maxRecDepth 100000 in
set_option maxHeartbeats 4000000 in
theorem X8_markSteps_j21_ok {E : Ev}  {N : Nat}    {v1 : Int32} {σ : Sg} {r : Sg} (h : X8_markSteps_j21 N   v1 σ = some r) : Gp E RX8 cX8_markSteps none 7 (0) SH0 r (none) σ 21 [(0, .ref 0), (1, .int v1)] [] := by
  intro Z C hE
  unfold X8_markSteps_j21 at h
  refine r_iconst (pc' := 22) C dX8_markSteps_21 rfl kc_1 ?_
  refine r_iload_n (pc' := 23) C dX8_markSteps_22 rfl 1 rfl ?_
  refine r_ishl (pc' := 24) C dX8_markSteps_23 rfl ?_
  refine r_istore_n (pc' := 25) (lv2 := [(2, .int (1 <<< (v1 &&& 31))), (0, .ref 0), (1, .int v1)]) C dX8_markSteps_24 rfl rfl (Nat.le_of_ble_eq_true rfl) rfl ?_
  refine r_iload_n (pc' := 26) C dX8_markSteps_25 rfl 0 rfl ?_
  refine r_istore_n (pc' := 27) (lv2 := [(3, .int (1 <<< (v1 &&& 31))), (2, .int (1 <<< (v1 &&& 31))), (0, .ref 0), (1, .int v1)]) C dX8_markSteps_26 rfl rfl (Nat.le_of_ble_eq_true rfl) rfl ?_
  refine r_iconst (pc' := 28) C dX8_markSteps_27 rfl kc_0 ?_
  refine r_istore (pc' := 30) (lv2 := [(4, .int 0), (3, .int (1 <<< (v1 &&& 31))), (2, .int (1 <<< (v1 &&& 31))), (0, .ref 0), (1, .int v1)]) C dX8_markSteps_28 rfl (Nat.le_of_ble_eq_true rfl) rfl ?_
  refine r_sub [3, 2, 1, 0] rfl ?_
  exact X8_markSteps_l30_ok  N _ _ _ _ _ h Z C hE
def X8_markSteps (N : Nat)  (v1 : Int32) (σ : Sg) : Option (Sg) :=
  X8_markSteps_l2 N (fun v1 σ => X8_markSteps_j21 N v1 σ) N v1 0 σ
set_option maxRecDepth 100000 in
set_option maxHeartbeats 4000000 in
theorem X8_markSteps_ok {E : Ev}  {N : Nat} {v1 : Int32} {σ : Sg} {r : Sg} (h : X8_markSteps N  v1 σ = some r) : Cm E (0) yX8_markSteps cX8_markSteps 7 none [.ref 0, .int v1] SH0 SH0 σ r (none) 0 0 := by
  refine Cm.intro (by decide +kernel) (Nat.le_of_ble_eq_true rfl) (fun _ h => by obtain ⟨_, _, _, _, _, _, h⟩ := h; exact h) (fun Z C hE => ?_)
  show Wm E Z 0 0 SH0 σ 0 [(0, .ref 0), (1, .int v1)] []
  unfold X8_markSteps at h
  refine r_iconst (pc' := 1) C dX8_markSteps_0 rfl kc_0 ?_
  refine r_istore_n (pc' := 2) (lv2 := [(2, .int 0), (0, .ref 0), (1, .int v1)]) C dX8_markSteps_1 rfl rfl (Nat.le_of_ble_eq_true rfl) rfl ?_
  refine r_sub [1, 2, 0] rfl ?_
  exact X8_markSteps_l2_ok  (fun _ _ _ h Z C hE => by exact X8_markSteps_j21_ok  h Z C hE) N _ _ _ _ h Z C hE

/-! BorrowedWeight.nextOnWay(II)I -/
def X8_nextOnWay_l2 (N : Nat)   (σ : Sg) : Nat → Int32 → Int32 → Int32 → Option (Int32)
  | 0, _, _, _ => none
  | n + 1, v1, v2, v3 =>
    if 8 ≤ v3 then (some v1) else ((X5_isTied N 19 v1 v3 σ).bind fun r2 => (if r2 = 0 then (X8_nextOnWay_l2 N σ n v1 v2 (v3 + 1)) else (if inb v3 8 = true then if (gi σ 142 v3.toNatClampNeg) = v2 then (some v3) else (X8_nextOnWay_l2 N σ n v1 v2 (v3 + 1)) else none)))
set_option maxRecDepth 100000 in
set_option maxHeartbeats 4000000 in
theorem X8_nextOnWay_l2_ok {E : Ev}  {N : Nat}  {σ : Sg}  : ∀ (n : Nat) (v1 : Int32) (v2 : Int32) (v3 : Int32) (r : Int32), X8_nextOnWay_l2 N σ n v1 v2 v3 = some r → Gp E RX8 cX8_nextOnWay (some .int) 4 (1) SH0 σ (some (.int r)) σ 2 [(0, .ref 0), (1, .int v1), (2, .int v2), (3, .int v3)] [] := by
  intro n
  induction n with
  | zero => intro v1 v2 v3 r h; cases h
  | succ n ih =>
    intro v1 v2 v3 r h Z C hE
    unfold X8_nextOnWay_l2 at h
    refine r_iload_n (pc' := 3) C dX8_nextOnWay_2 rfl 3 rfl ?_
    refine r_bipush (pc' := 5) C dX8_nextOnWay_3 rfl kb_8 ?_
    refine r_icmp_ge (tgt := 38) (pc' := 8) C dX8_nextOnWay_5 rfl rfl (fun c1 => ?_) (fun c1 => ?_)
    · rw [if_pos c1] at h
      refine r_iload_n (pc' := 39) C dX8_nextOnWay_38 rfl 1 rfl ?_
      have h := Option.some.inj h
      subst h
      exact r_ret C rfl dX8_nextOnWay_39 hE
    · rw [if_neg c1] at h
      refine r_aload_n (pc' := 9) C dX8_nextOnWay_8 rfl 0 rfl ?_
      refine r_getR (pc' := 12) C flX8_33 sh_0 rfl dX8_nextOnWay_9 rfl ?_
      refine r_iload_n (pc' := 13) C dX8_nextOnWay_12 rfl 1 rfl ?_
      refine r_iload_n (pc' := 14) C dX8_nextOnWay_13 rfl 3 rfl ?_
      obtain ⟨r2, e3, h⟩ := bd h
      refine r_cV1 (pc' := 17) C (X5_isTied_ok stc_19 e3) mlX8_292 ceX5_isTied cvX5_isTied sh_19 rfl rfl rfl (Nat.le_of_ble_eq_true rfl) rfl (Nat.le_of_ble_eq_true rfl) dX8_nextOnWay_14 rfl (kk := ?_)
      refine r_if_eq (tgt := 32) (pc' := 20) C dX8_nextOnWay_17 rfl rfl (fun c4 => ?_) (fun c4 => ?_)
      · rw [if_pos c4] at h
        refine r_iinc (pc' := 35) (v := v3 + 1) (lv2 := [(3, .int (v3 + 1)), (0, .ref 0), (1, .int v1), (2, .int v2)]) C dX8_nextOnWay_32 rfl 3 rfl rfl (Nat.le_of_ble_eq_true rfl) rfl ?_
        refine r_goto (tgt := 2) C dX8_nextOnWay_35 rfl ?_
        refine r_sub [1, 2, 3, 0] rfl ?_
        exact ih _ _ _ _ h Z C hE
      · rw [if_neg c4] at h
        refine r_aload_n (pc' := 21) C dX8_nextOnWay_20 rfl 0 rfl ?_
        refine r_getR (pc' := 24) C flX8_61 sh_0 rfl dX8_nextOnWay_21 rfl ?_
        refine r_iload_n (pc' := 25) C dX8_nextOnWay_24 rfl 3 rfl ?_
        obtain ⟨q5, h⟩ := ck h
        refine r_iald (pc' := 26) C sh_142 (vin q5) dX8_nextOnWay_25 rfl ?_
        refine r_iload_n (pc' := 27) C dX8_nextOnWay_26 rfl 2 rfl ?_
        refine r_icmp_ne (tgt := 32) (pc' := 30) C dX8_nextOnWay_27 rfl rfl (fun c6 => ?_) (fun c6 => ?_)
        · rw [if_neg c6] at h
          refine r_iinc (pc' := 35) (v := v3 + 1) (lv2 := [(3, .int (v3 + 1)), (0, .ref 0), (1, .int v1), (2, .int v2)]) C dX8_nextOnWay_32 rfl 3 rfl rfl (Nat.le_of_ble_eq_true rfl) rfl ?_
          refine r_goto (tgt := 2) C dX8_nextOnWay_35 rfl ?_
          refine r_sub [1, 2, 3, 0] rfl ?_
          exact ih _ _ _ _ h Z C hE
        · rw [if_pos c6] at h
          refine r_iload_n (pc' := 31) C dX8_nextOnWay_30 rfl 3 rfl ?_
          have h := Option.some.inj h
          subst h
          exact r_ret C rfl dX8_nextOnWay_31 hE
def X8_nextOnWay (N : Nat)  (v1 : Int32) (v2 : Int32) (σ : Sg) : Option (Int32) :=
  X8_nextOnWay_l2 N σ N v1 v2 0
set_option maxRecDepth 100000 in
set_option maxHeartbeats 4000000 in
theorem X8_nextOnWay_ok {E : Ev}  {N : Nat} {v1 : Int32} {v2 : Int32} {σ : Sg} {r : Int32} (h : X8_nextOnWay N  v1 v2 σ = some r) : Cm E (1) yX8_nextOnWay cX8_nextOnWay 4 (some .int) [.ref 0, .int v1, .int v2] SH0 SH0 σ σ (some (.int r)) 0 0 := by
  refine Cm.intro (by decide +kernel) (Nat.le_of_ble_eq_true rfl) (fun _ h => by obtain ⟨_, _, _, _, _, _, h⟩ := h; exact h) (fun Z C hE => ?_)
  show Wm E Z 0 0 SH0 σ 0 [(0, .ref 0), (1, .int v1), (2, .int v2)] []
  unfold X8_nextOnWay at h
  refine r_iconst (pc' := 1) C dX8_nextOnWay_0 rfl kc_0 ?_
  refine r_istore_n (pc' := 2) (lv2 := [(3, .int 0), (0, .ref 0), (1, .int v1), (2, .int v2)]) C dX8_nextOnWay_1 rfl rfl (Nat.le_of_ble_eq_true rfl) rfl ?_
  refine r_sub [1, 2, 3, 0] rfl ?_
  exact X8_nextOnWay_l2_ok  N _ _ _ _ h Z C hE

/-! BorrowedWeight.way(II)I -/
def X8_way_l85 (N : Nat)    : Nat → Int32 → Int32 → Int32 → Sg → Option (Int32 × Sg)
  | 0, _, _, _, _ => none
  | n + 1, v3, v4, v5, σ =>
    if v5 < 0 then (some (v3, σ)) else ((X8_nextOnWay N v4 v5 σ).bind fun r20 => ((X2_add N r20.toInt64 σ).bind fun r22 => (X8_way_l85 N n v3 r20 (v5 + (-1)) r22)))
set_option maxRecDepth 100000 in
set_option maxHeartbeats 4000000 in
theorem X8_way_l85_ok {E : Ev}  {N : Nat}    : ∀ (n : Nat) (v3 : Int32) (v4 : Int32) (v5 : Int32) (σ : Sg) (r : Int32 × Sg), X8_way_l85 N n v3 v4 v5 σ = some r → Gp E RX8 cX8_way (some .int) 6 (2) SH0 r.2 (some (.int r.1)) σ 85 [(0, .ref 0), (3, .int v3), (4, .int v4), (5, .int v5)] [] := by
  intro n
  induction n with
  | zero => intro v3 v4 v5 σ r h; cases h
  | succ n ih =>
    intro v3 v4 v5 σ r h Z C hE
    unfold X8_way_l85 at h
    refine r_iload (pc' := 87) C dX8_way_85 rfl 3 rfl ?_
    refine r_if_lt (tgt := 116) (pc' := 90) C dX8_way_87 rfl rfl (fun c19 => ?_) (fun c19 => ?_)
    · rw [if_pos c19] at h
      refine r_iload_n (pc' := 117) C dX8_way_116 rfl 1 rfl ?_
      have h := Option.some.inj h
      subst h
      exact r_ret C rfl dX8_way_117 hE
    · rw [if_neg c19] at h
      refine r_aload_n (pc' := 91) C dX8_way_90 rfl 0 rfl ?_
      refine r_iload (pc' := 93) C dX8_way_91 rfl 2 rfl ?_
      refine r_iload (pc' := 95) C dX8_way_93 rfl 3 rfl ?_
      obtain ⟨r20, e21, h⟩ := bd h
      refine r_cV1 (pc' := 98) C (X8_nextOnWay_ok  e21) mlX8_318 ceX8_nextOnWay cvX8_nextOnWay sh_0 rfl rfl rfl (Nat.le_of_ble_eq_true rfl) rfl (Nat.le_of_ble_eq_true rfl) dX8_way_95 rfl (kk := ?_)
      refine r_istore (pc' := 100) (lv2 := [(4, .int r20), (0, .ref 0), (3, .int v3), (5, .int v5)]) C dX8_way_98 rfl (Nat.le_of_ble_eq_true rfl) rfl ?_
      refine r_aload_n (pc' := 101) C dX8_way_100 rfl 1 rfl ?_
      refine r_getR (pc' := 104) C flX8_19 sh_0 rfl dX8_way_101 rfl ?_
      refine r_iload (pc' := 106) C dX8_way_104 rfl 0 rfl ?_
      refine r_i2l (pc' := 107) C dX8_way_106 rfl rfl ?_
      obtain ⟨r22, e23, h⟩ := bd h
      refine r_cV0 (pc' := 110) C (X2_add_ok  e23) mlX8_268 ceX2_add cvX2_add sh_3 rfl rfl rfl (Nat.le_of_ble_eq_true rfl) rfl (Nat.le_of_ble_eq_true rfl) dX8_way_107 rfl (kk := ?_)
      refine r_iinc (pc' := 113) (v := v5 + (-1)) (lv2 := [(5, .int (v5 + (-1))), (4, .int r20), (0, .ref 0), (3, .int v3)]) C dX8_way_110 rfl 3 rfl rfl (Nat.le_of_ble_eq_true rfl) rfl ?_
      refine r_goto (tgt := 85) C dX8_way_113 rfl ?_
      refine r_sub [2, 3, 1, 0] rfl ?_
      exact ih _ _ _ _ _ h Z C hE
def X8_way (N : Nat)  (v1 : Int32) (v2 : Int32) (σ : Sg) : Option (Int32 × Sg) :=
  (X0_isThing N v1 σ).bind fun r1 => (if r1 = 0 then (some ((-1), σ)) else ((X0_isThing N v2 σ).bind fun r4 => (if r4 = 0 then (some ((-1), σ)) else ((X5_isGone N 19 v1 σ).bind fun r7 => (if r7 = 0 then ((X5_isGone N 19 v2 σ).bind fun r10 => (if r10 = 0 then ((X8_markSteps N v2 σ).bind fun r13 => (if inb v1 8 = true then if 0 ≤ (gi r13 142 v1.toNatClampNeg) then ((X2_tell N v1.toInt64 r13).bind fun r17 => (X8_way_l85 N N (gi r13 142 v1.toNatClampNeg) v1 ((gi r13 142 v1.toNatClampNeg) - 1) r17)) else (some ((-2), r13)) else none)) else (some ((-2), σ)))) else (some ((-2), σ)))))))
set_option maxRecDepth 100000 in
set_option maxHeartbeats 4000000 in
theorem X8_way_ok {E : Ev}  {N : Nat} {v1 : Int32} {v2 : Int32} {σ : Sg} {r : Int32 × Sg} (h : X8_way N  v1 v2 σ = some r) : Cm E (2) yX8_way cX8_way 6 (some .int) [.ref 0, .int v1, .int v2] SH0 SH0 σ r.2 (some (.int r.1)) 0 0 := by
  refine Cm.intro (by decide +kernel) (Nat.le_of_ble_eq_true rfl) (fun _ h => by obtain ⟨_, _, _, _, _, _, h⟩ := h; exact h) (fun Z C hE => ?_)
  show Wm E Z 0 0 SH0 σ 0 [(0, .ref 0), (1, .int v1), (2, .int v2)] []
  unfold X8_way at h
  refine r_aload_n (pc' := 1) C dX8_way_0 rfl 0 rfl ?_
  refine r_getR (pc' := 4) C flX8_26 sh_0 rfl dX8_way_1 rfl ?_
  refine r_iload_n (pc' := 5) C dX8_way_4 rfl 1 rfl ?_
  obtain ⟨r1, e2, h⟩ := bd h
  refine r_cV1 (pc' := 8) C (X0_isThing_ok  e2) mlX8_138 ceX0_isThing cvX0_isThing sh_5 rfl rfl rfl (Nat.le_of_ble_eq_true rfl) rfl (Nat.le_of_ble_eq_true rfl) dX8_way_5 rfl (kk := ?_)
  refine r_if_eq (tgt := 22) (pc' := 11) C dX8_way_8 rfl rfl (fun c3 => ?_) (fun c3 => ?_)
  · rw [if_pos c3] at h
    refine r_iconst (pc' := 23) C dX8_way_22 rfl kc_m1 ?_
    have h := Option.some.inj h
    subst h
    exact r_ret C rfl dX8_way_23 hE
  · rw [if_neg c3] at h
    refine r_aload_n (pc' := 12) C dX8_way_11 rfl 0 rfl ?_
    refine r_getR (pc' := 15) C flX8_26 sh_0 rfl dX8_way_12 rfl ?_
    refine r_iload_n (pc' := 16) C dX8_way_15 rfl 2 rfl ?_
    obtain ⟨r4, e5, h⟩ := bd h
    refine r_cV1 (pc' := 19) C (X0_isThing_ok  e5) mlX8_138 ceX0_isThing cvX0_isThing sh_5 rfl rfl rfl (Nat.le_of_ble_eq_true rfl) rfl (Nat.le_of_ble_eq_true rfl) dX8_way_16 rfl (kk := ?_)
    refine r_if_ne (tgt := 24) (pc' := 22) C dX8_way_19 rfl rfl (fun c6 => ?_) (fun c6 => ?_)
    · rw [if_neg c6] at h
      refine r_aload_n (pc' := 25) C dX8_way_24 rfl 0 rfl ?_
      refine r_getR (pc' := 28) C flX8_33 sh_0 rfl dX8_way_25 rfl ?_
      refine r_iload_n (pc' := 29) C dX8_way_28 rfl 1 rfl ?_
      obtain ⟨r7, e8, h⟩ := bd h
      refine r_cV1 (pc' := 32) C (X5_isGone_ok stc_19 e8) mlX8_160 ceX5_isGone cvX5_isGone sh_19 rfl rfl rfl (Nat.le_of_ble_eq_true rfl) rfl (Nat.le_of_ble_eq_true rfl) dX8_way_29 rfl (kk := ?_)
      refine r_if_ne (tgt := 46) (pc' := 35) C dX8_way_32 rfl rfl (fun c9 => ?_) (fun c9 => ?_)
      · rw [if_neg c9] at h
        refine r_bipush (pc' := 48) C dX8_way_46 rfl kb_m2 ?_
        have h := Option.some.inj h
        subst h
        exact r_ret C rfl dX8_way_48 hE
      · rw [if_pos c9] at h
        refine r_aload_n (pc' := 36) C dX8_way_35 rfl 0 rfl ?_
        refine r_getR (pc' := 39) C flX8_33 sh_0 rfl dX8_way_36 rfl ?_
        refine r_iload_n (pc' := 40) C dX8_way_39 rfl 2 rfl ?_
        obtain ⟨r10, e11, h⟩ := bd h
        refine r_cV1 (pc' := 43) C (X5_isGone_ok stc_19 e11) mlX8_160 ceX5_isGone cvX5_isGone sh_19 rfl rfl rfl (Nat.le_of_ble_eq_true rfl) rfl (Nat.le_of_ble_eq_true rfl) dX8_way_40 rfl (kk := ?_)
        refine r_if_eq (tgt := 49) (pc' := 46) C dX8_way_43 rfl rfl (fun c12 => ?_) (fun c12 => ?_)
        · rw [if_pos c12] at h
          refine r_aload_n (pc' := 50) C dX8_way_49 rfl 0 rfl ?_
          refine r_iload_n (pc' := 51) C dX8_way_50 rfl 2 rfl ?_
          obtain ⟨r13, e14, h⟩ := bd h
          refine r_cV0 (pc' := 54) C (X8_markSteps_ok  e14) mlX8_315 ceX8_markSteps cvX8_markSteps sh_0 rfl rfl rfl (Nat.le_of_ble_eq_true rfl) rfl (Nat.le_of_ble_eq_true rfl) dX8_way_51 rfl (kk := ?_)
          refine r_aload_n (pc' := 55) C dX8_way_54 rfl 0 rfl ?_
          refine r_getR (pc' := 58) C flX8_61 sh_0 rfl dX8_way_55 rfl ?_
          refine r_iload_n (pc' := 59) C dX8_way_58 rfl 1 rfl ?_
          obtain ⟨q15, h⟩ := ck h
          refine r_iald (pc' := 60) C sh_142 (vin q15) dX8_way_59 rfl ?_
          refine r_istore_n (pc' := 61) (lv2 := [(3, .int (gi r13 142 v1.toNatClampNeg)), (0, .ref 0), (1, .int v1), (2, .int v2)]) C dX8_way_60 rfl rfl (Nat.le_of_ble_eq_true rfl) rfl ?_
          refine r_iload_n (pc' := 62) C dX8_way_61 rfl 0 rfl ?_
          refine r_if_ge (tgt := 68) (pc' := 65) C dX8_way_62 rfl rfl (fun c16 => ?_) (fun c16 => ?_)
          · rw [if_pos c16] at h
            refine r_aload_n (pc' := 69) C dX8_way_68 rfl 1 rfl ?_
            refine r_getR (pc' := 72) C flX8_19 sh_0 rfl dX8_way_69 rfl ?_
            refine r_iload_n (pc' := 73) C dX8_way_72 rfl 2 rfl ?_
            refine r_i2l (pc' := 74) C dX8_way_73 rfl rfl ?_
            obtain ⟨r17, e18, h⟩ := bd h
            refine r_cV0 (pc' := 77) C (X2_tell_ok  e18) mlX8_261 ceX2_tell cvX2_tell sh_3 rfl rfl rfl (Nat.le_of_ble_eq_true rfl) rfl (Nat.le_of_ble_eq_true rfl) dX8_way_74 rfl (kk := ?_)
            refine r_iload_n (pc' := 78) C dX8_way_77 rfl 2 rfl ?_
            refine r_istore (pc' := 80) (lv2 := [(4, .int v1), (3, .int (gi r13 142 v1.toNatClampNeg)), (0, .ref 0), (1, .int v1), (2, .int v2)]) C dX8_way_78 rfl (Nat.le_of_ble_eq_true rfl) rfl ?_
            refine r_iload_n (pc' := 81) C dX8_way_80 rfl 1 rfl ?_
            refine r_iconst (pc' := 82) C dX8_way_81 rfl kc_1 ?_
            refine r_isub (pc' := 83) C dX8_way_82 rfl ?_
            refine r_istore (pc' := 85) (lv2 := [(5, .int ((gi r13 142 v1.toNatClampNeg) - 1)), (4, .int v1), (3, .int (gi r13 142 v1.toNatClampNeg)), (0, .ref 0), (1, .int v1), (2, .int v2)]) C dX8_way_83 rfl (Nat.le_of_ble_eq_true rfl) rfl ?_
            refine r_sub [3, 2, 1, 0] rfl ?_
            exact X8_way_l85_ok  N _ _ _ _ _ h Z C hE
          · rw [if_neg c16] at h
            refine r_bipush (pc' := 67) C dX8_way_65 rfl kb_m2 ?_
            have h := Option.some.inj h
            subst h
            exact r_ret C rfl dX8_way_67 hE
        · rw [if_neg c12] at h
          refine r_bipush (pc' := 48) C dX8_way_46 rfl kb_m2 ?_
          have h := Option.some.inj h
          subst h
          exact r_ret C rfl dX8_way_48 hE
    · rw [if_pos c6] at h
      refine r_iconst (pc' := 23) C dX8_way_22 rfl kc_m1 ?_
      have h := Option.some.inj h
      subst h
      exact r_ret C rfl dX8_way_23 hE

/-! BorrowedWeight.canStandInRequest(I)Z -/
def X8_canStandInRequest_j107 (N : Nat)   (v1 : Int32) (σ : Sg) : Option (Int32) :=
  (X6_digitAt N v1 σ).bind fun r15 => (if r15 < 0 then (some 0) else (some 1))
set_option maxRecDepth 100000 in
set_option maxHeartbeats 4000000 in
theorem X8_canStandInRequest_j107_ok {E : Ev}  {N : Nat}  {σ : Sg}   {v1 : Int32} {r : Int32} (h : X8_canStandInRequest_j107 N   v1 σ = some r) : Gp E RX8 cX8_canStandInRequest (some .boolean) 2 (2) SH0 σ (some (.int r)) σ 107 [(0, .ref 0), (1, .int v1)] [] := by
  intro Z C hE
  unfold X8_canStandInRequest_j107 at h
  refine r_aload_n (pc' := 108) C dX8_canStandInRequest_107 rfl 0 rfl ?_
  refine r_getR (pc' := 111) C flX8_10 sh_0 rfl dX8_canStandInRequest_108 rfl ?_
  refine r_iload_n (pc' := 112) C dX8_canStandInRequest_111 rfl 1 rfl ?_
  obtain ⟨r15, e16, h⟩ := bd h
  refine r_cV1 (pc' := 115) C (X6_digitAt_ok  e16) mlX8_100 ceX6_digitAt cvX6_digitAt sh_1 rfl rfl rfl (Nat.le_of_ble_eq_true rfl) rfl (Nat.le_of_ble_eq_true rfl) dX8_canStandInRequest_112 rfl (kk := ?_)
  refine r_if_lt (tgt := 122) (pc' := 118) C dX8_canStandInRequest_115 rfl rfl (fun c17 => ?_) (fun c17 => ?_)
  · rw [if_pos c17] at h
    refine r_iconst (pc' := 123) C dX8_canStandInRequest_122 rfl kc_0 ?_
    have h := Option.some.inj h
    subst h
    exact r_ret C rfl dX8_canStandInRequest_123 hE
  · rw [if_neg c17] at h
    refine r_iconst (pc' := 119) C dX8_canStandInRequest_118 rfl kc_1 ?_
    refine r_goto (tgt := 123) C dX8_canStandInRequest_119 rfl ?_
    have h := Option.some.inj h
    subst h
    exact r_ret C rfl dX8_canStandInRequest_123 hE
def X8_canStandInRequest (N : Nat)  (v1 : Int32) (σ : Sg) : Option (Int32) :=
  if (v1 / 5) < 8 then (if (v1 - v1 / 5 * 5) = 1 then ((X6_digitAt N v1 σ).bind fun r5 => ((X6_digitAt N (v1 - 1) σ).bind fun r7 => (if r5 < r7 then (some 0) else (some 1)))) else if (v1 - v1 / 5 * 5) = 2 then ((X6_digitAt N v1 σ).bind fun r11 => (if r11 ≤ 0 then (some 0) else (some 1))) else if (v1 - v1 / 5 * 5) = 3 then (X8_canStandInRequest_j107 N v1 σ) else if (v1 - v1 / 5 * 5) = 4 then ((X6_at N v1 σ).bind fun r19 => (if r19 = 59 then (some 1) else (some 0))) else (X8_canStandInRequest_j107 N v1 σ)) else (some 0)
set_option maxRecDepth 100000 in
set_option maxHeartbeats 4000000 in
theorem X8_canStandInRequest_ok {E : Ev}  {N : Nat} {v1 : Int32} {σ : Sg} {r : Int32} (h : X8_canStandInRequest N  v1 σ = some r) : Cm E (2) yX8_canStandInRequest cX8_canStandInRequest 2 (some .boolean) [.ref 0, .int v1] SH0 SH0 σ σ (some (.int r)) 0 0 := by
  refine Cm.intro (by decide +kernel) (Nat.le_of_ble_eq_true rfl) (fun _ h => by obtain ⟨_, _, _, _, _, _, h⟩ := h; exact h) (fun Z C hE => ?_)
  show Wm E Z 0 0 SH0 σ 0 [(0, .ref 0), (1, .int v1)] []
  unfold X8_canStandInRequest at h
  refine r_iload_n (pc' := 1) C dX8_canStandInRequest_0 rfl 1 rfl ?_
  refine r_iconst (pc' := 2) C dX8_canStandInRequest_1 rfl kc_5 ?_
  refine r_idiv (pc' := 3) C dX8_canStandInRequest_2 rfl (by decide) ?_
  refine r_bipush (pc' := 5) C dX8_canStandInRequest_3 rfl kb_8 ?_
  refine r_icmp_lt (tgt := 10) (pc' := 8) C dX8_canStandInRequest_5 rfl rfl (fun c2 => ?_) (fun c2 => ?_)
  · rw [if_pos c2] at h
    refine r_iload_n (pc' := 11) C dX8_canStandInRequest_10 rfl 1 rfl ?_
    refine r_iconst (pc' := 12) C dX8_canStandInRequest_11 rfl kc_5 ?_
    refine r_irem (pc' := 13) C dX8_canStandInRequest_12 rfl (by decide) ?_
    by_cases c4 : (v1 - v1 / 5 * 5) = 1
    · rw [if_pos c4] at h
      refine r_tabIn (tgt := 44) C dX8_canStandInRequest_13 (by rw [c4]; decide) (by rw [c4]; decide) (by rw [c4]; rfl) rfl ?_
      refine r_aload_n (pc' := 45) C dX8_canStandInRequest_44 rfl 0 rfl ?_
      refine r_getR (pc' := 48) C flX8_10 sh_0 rfl dX8_canStandInRequest_45 rfl ?_
      refine r_iload_n (pc' := 49) C dX8_canStandInRequest_48 rfl 1 rfl ?_
      obtain ⟨r5, e6, h⟩ := bd h
      refine r_cV1 (pc' := 52) C (X6_digitAt_ok  e6) mlX8_100 ceX6_digitAt cvX6_digitAt sh_1 rfl rfl rfl (Nat.le_of_ble_eq_true rfl) rfl (Nat.le_of_ble_eq_true rfl) dX8_canStandInRequest_49 rfl (kk := ?_)
      refine r_aload_n (pc' := 53) C dX8_canStandInRequest_52 rfl 0 rfl ?_
      refine r_getR (pc' := 56) C flX8_10 sh_0 rfl dX8_canStandInRequest_53 rfl ?_
      refine r_iload_n (pc' := 57) C dX8_canStandInRequest_56 rfl 1 rfl ?_
      refine r_iconst (pc' := 58) C dX8_canStandInRequest_57 rfl kc_1 ?_
      refine r_isub (pc' := 59) C dX8_canStandInRequest_58 rfl ?_
      obtain ⟨r7, e8, h⟩ := bd h
      refine r_cV1 (pc' := 62) C (X6_digitAt_ok  e8) mlX8_100 ceX6_digitAt cvX6_digitAt sh_1 rfl rfl rfl (Nat.le_of_ble_eq_true rfl) rfl (Nat.le_of_ble_eq_true rfl) dX8_canStandInRequest_59 rfl (kk := ?_)
      refine r_icmp_lt (tgt := 69) (pc' := 65) C dX8_canStandInRequest_62 rfl rfl (fun c9 => ?_) (fun c9 => ?_)
      · rw [if_pos c9] at h
        refine r_iconst (pc' := 70) C dX8_canStandInRequest_69 rfl kc_0 ?_
        have h := Option.some.inj h
        subst h
        exact r_ret C rfl dX8_canStandInRequest_70 hE
      · rw [if_neg c9] at h
        refine r_iconst (pc' := 66) C dX8_canStandInRequest_65 rfl kc_1 ?_
        refine r_goto (tgt := 70) C dX8_canStandInRequest_66 rfl ?_
        have h := Option.some.inj h
        subst h
        exact r_ret C rfl dX8_canStandInRequest_70 hE
    rw [if_neg c4] at h
    by_cases c10 : (v1 - v1 / 5 * 5) = 2
    · rw [if_pos c10] at h
      refine r_tabIn (tgt := 71) C dX8_canStandInRequest_13 (by rw [c10]; decide) (by rw [c10]; decide) (by rw [c10]; rfl) rfl ?_
      refine r_aload_n (pc' := 72) C dX8_canStandInRequest_71 rfl 0 rfl ?_
      refine r_getR (pc' := 75) C flX8_10 sh_0 rfl dX8_canStandInRequest_72 rfl ?_
      refine r_iload_n (pc' := 76) C dX8_canStandInRequest_75 rfl 1 rfl ?_
      obtain ⟨r11, e12, h⟩ := bd h
      refine r_cV1 (pc' := 79) C (X6_digitAt_ok  e12) mlX8_100 ceX6_digitAt cvX6_digitAt sh_1 rfl rfl rfl (Nat.le_of_ble_eq_true rfl) rfl (Nat.le_of_ble_eq_true rfl) dX8_canStandInRequest_76 rfl (kk := ?_)
      refine r_if_le (tgt := 86) (pc' := 82) C dX8_canStandInRequest_79 rfl rfl (fun c13 => ?_) (fun c13 => ?_)
      · rw [if_pos c13] at h
        refine r_iconst (pc' := 87) C dX8_canStandInRequest_86 rfl kc_0 ?_
        have h := Option.some.inj h
        subst h
        exact r_ret C rfl dX8_canStandInRequest_87 hE
      · rw [if_neg c13] at h
        refine r_iconst (pc' := 83) C dX8_canStandInRequest_82 rfl kc_1 ?_
        refine r_goto (tgt := 87) C dX8_canStandInRequest_83 rfl ?_
        have h := Option.some.inj h
        subst h
        exact r_ret C rfl dX8_canStandInRequest_87 hE
    rw [if_neg c10] at h
    by_cases c14 : (v1 - v1 / 5 * 5) = 3
    · rw [if_pos c14] at h
      refine r_tabIn (tgt := 107) C dX8_canStandInRequest_13 (by rw [c14]; decide) (by rw [c14]; decide) (by rw [c14]; rfl) rfl ?_
      exact X8_canStandInRequest_j107_ok  h Z C hE
    rw [if_neg c14] at h
    by_cases c18 : (v1 - v1 / 5 * 5) = 4
    · rw [if_pos c18] at h
      refine r_tabIn (tgt := 88) C dX8_canStandInRequest_13 (by rw [c18]; decide) (by rw [c18]; decide) (by rw [c18]; rfl) rfl ?_
      refine r_aload_n (pc' := 89) C dX8_canStandInRequest_88 rfl 0 rfl ?_
      refine r_getR (pc' := 92) C flX8_10 sh_0 rfl dX8_canStandInRequest_89 rfl ?_
      refine r_iload_n (pc' := 93) C dX8_canStandInRequest_92 rfl 1 rfl ?_
      obtain ⟨r19, e20, h⟩ := bd h
      refine r_cV1 (pc' := 96) C (X6_at_ok  e20) mlX8_231 ceX6_at cvX6_at sh_1 rfl rfl rfl (Nat.le_of_ble_eq_true rfl) rfl (Nat.le_of_ble_eq_true rfl) dX8_canStandInRequest_93 rfl (kk := ?_)
      refine r_bipush (pc' := 98) C dX8_canStandInRequest_96 rfl kb_59 ?_
      refine r_icmp_ne (tgt := 105) (pc' := 101) C dX8_canStandInRequest_98 rfl rfl (fun c21 => ?_) (fun c21 => ?_)
      · rw [if_neg c21] at h
        refine r_iconst (pc' := 106) C dX8_canStandInRequest_105 rfl kc_0 ?_
        have h := Option.some.inj h
        subst h
        exact r_ret C rfl dX8_canStandInRequest_106 hE
      · rw [if_pos c21] at h
        refine r_iconst (pc' := 102) C dX8_canStandInRequest_101 rfl kc_1 ?_
        refine r_goto (tgt := 106) C dX8_canStandInRequest_102 rfl ?_
        have h := Option.some.inj h
        subst h
        exact r_ret C rfl dX8_canStandInRequest_106 hE
    rw [if_neg c18] at h
    have o22 : (v1 - v1 / 5 * 5).toInt < 1 ∨ 4 < (v1 - v1 / 5 * 5).toInt := by
      refine tab_out (fun k h1 h2 => ?_) (by decide) (by decide)
      have hk : k = 1 ∨ k = 2 ∨ k = 3 ∨ k = 4 := by omega
      rcases hk with rfl | rfl | rfl | rfl
      · exact c4
      · exact c10
      · exact c14
      · exact c18
    refine r_tabOut (tgt := 107) C dX8_canStandInRequest_13 o22 rfl ?_
    exact X8_canStandInRequest_j107_ok  h Z C hE
  · rw [if_neg c2] at h
    refine r_iconst (pc' := 9) C dX8_canStandInRequest_8 rfl kc_0 ?_
    have h := Option.some.inj h
    subst h
    exact r_ret C rfl dX8_canStandInRequest_9 hE

/-! BorrowedWeight.faultOfRequests()I -/
def X8_faultOfRequests_l2 (N : Nat)  (k29 : Option (Int32)) (σ : Sg) : Nat → Int32 → Option (Int32)
  | 0, _ => none
  | n + 1, v1 =>
    if (gi σ 1 1) ≤ v1 then (k29 ) else ((X8_canStandInRequest N v1 σ).bind fun r2 => (if r2 = 0 then (some v1) else (X8_faultOfRequests_l2 N k29 σ n (v1 + 1))))
set_option maxRecDepth 100000 in
set_option maxHeartbeats 4000000 in
theorem X8_faultOfRequests_l2_ok {E : Ev}  {N : Nat} {k29 : Option (Int32)} {σ : Sg} (hk29 : ∀  (r : Int32), k29 = some r → Gp E RX8 cX8_faultOfRequests (some .int) 2 (3) SH0 σ (some (.int r)) σ 29 [(0, .ref 0)] []) : ∀ (n : Nat) (v1 : Int32) (r : Int32), X8_faultOfRequests_l2 N k29 σ n v1 = some r → Gp E RX8 cX8_faultOfRequests (some .int) 2 (3) SH0 σ (some (.int r)) σ 2 [(0, .ref 0), (1, .int v1)] [] := by
  intro n
  induction n with
  | zero => intro v1 r h; cases h
  | succ n ih =>
    intro v1 r h Z C hE
    unfold X8_faultOfRequests_l2 at h
    refine r_iload_n (pc' := 3) C dX8_faultOfRequests_2 rfl 1 rfl ?_
    refine r_aload_n (pc' := 4) C dX8_faultOfRequests_3 rfl 0 rfl ?_
    refine r_getR (pc' := 7) C flX8_10 sh_0 rfl dX8_faultOfRequests_4 rfl ?_
    refine r_getI (pc' := 10) C flX8_96 sh_1 rfl dX8_faultOfRequests_7 rfl ?_
    refine r_icmp_ge (tgt := 29) (pc' := 13) C dX8_faultOfRequests_10 rfl rfl (fun c1 => ?_) (fun c1 => ?_)
    · rw [if_pos c1] at h
      refine r_sub [0] rfl ?_
      exact hk29  _ h Z C hE
    · rw [if_neg c1] at h
      refine r_aload_n (pc' := 14) C dX8_faultOfRequests_13 rfl 0 rfl ?_
      refine r_iload_n (pc' := 15) C dX8_faultOfRequests_14 rfl 1 rfl ?_
      obtain ⟨r2, e3, h⟩ := bd h
      refine r_cV1 (pc' := 18) C (X8_canStandInRequest_ok  e3) mlX8_421 ceX8_canStandInRequest cvX8_canStandInRequest sh_0 rfl rfl rfl (Nat.le_of_ble_eq_true rfl) rfl (Nat.le_of_ble_eq_true rfl) dX8_faultOfRequests_15 rfl (kk := ?_)
      refine r_if_ne (tgt := 23) (pc' := 21) C dX8_faultOfRequests_18 rfl rfl (fun c4 => ?_) (fun c4 => ?_)
      · rw [if_neg c4] at h
        refine r_iinc (pc' := 26) (v := v1 + 1) (lv2 := [(1, .int (v1 + 1)), (0, .ref 0)]) C dX8_faultOfRequests_23 rfl 1 rfl rfl (Nat.le_of_ble_eq_true rfl) rfl ?_
        refine r_goto (tgt := 2) C dX8_faultOfRequests_26 rfl ?_
        refine r_sub [1, 0] rfl ?_
        exact ih _ _ h Z C hE
      · rw [if_pos c4] at h
        refine r_iload_n (pc' := 22) C dX8_faultOfRequests_21 rfl 1 rfl ?_
        have h := Option.some.inj h
        subst h
        exact r_ret C rfl dX8_faultOfRequests_22 hE
def X8_faultOfRequests_j29 (N : Nat)    (σ : Sg) : Option (Int32) :=
  if ((gi σ 1 1) - (gi σ 1 1) / 5 * 5) = 4 then (some (-1)) else (some (gi σ 1 1))
set_option maxRecDepth 100000 in
set_option maxHeartbeats 4000000 in
theorem X8_faultOfRequests_j29_ok {E : Ev}  {N : Nat}  {σ : Sg}    {r : Int32} (h : X8_faultOfRequests_j29 N    σ = some r) : Gp E RX8 cX8_faultOfRequests (some .int) 2 (3) SH0 σ (some (.int r)) σ 29 [(0, .ref 0)] [] := by
  intro Z C hE
  unfold X8_faultOfRequests_j29 at h
  refine r_aload_n (pc' := 30) C dX8_faultOfRequests_29 rfl 0 rfl ?_
  refine r_getR (pc' := 33) C flX8_10 sh_0 rfl dX8_faultOfRequests_30 rfl ?_
  refine r_getI (pc' := 36) C flX8_96 sh_1 rfl dX8_faultOfRequests_33 rfl ?_
  refine r_iconst (pc' := 37) C dX8_faultOfRequests_36 rfl kc_5 ?_
  refine r_irem (pc' := 38) C dX8_faultOfRequests_37 rfl (by decide) ?_
  refine r_iconst (pc' := 39) C dX8_faultOfRequests_38 rfl kc_4 ?_
  refine r_icmp_eq (tgt := 52) (pc' := 42) C dX8_faultOfRequests_39 rfl rfl (fun c6 => ?_) (fun c6 => ?_)
  · rw [if_pos c6] at h
    refine r_iconst (pc' := 53) C dX8_faultOfRequests_52 rfl kc_m1 ?_
    have h := Option.some.inj h
    subst h
    exact r_ret C rfl dX8_faultOfRequests_53 hE
  · rw [if_neg c6] at h
    refine r_aload_n (pc' := 43) C dX8_faultOfRequests_42 rfl 0 rfl ?_
    refine r_getR (pc' := 46) C flX8_10 sh_0 rfl dX8_faultOfRequests_43 rfl ?_
    refine r_getI (pc' := 49) C flX8_96 sh_1 rfl dX8_faultOfRequests_46 rfl ?_
    refine r_goto (tgt := 53) C dX8_faultOfRequests_49 rfl ?_
    have h := Option.some.inj h
    subst h
    exact r_ret C rfl dX8_faultOfRequests_53 hE
def X8_faultOfRequests (N : Nat)   (σ : Sg) : Option (Int32) :=
  X8_faultOfRequests_l2 N (X8_faultOfRequests_j29 N σ) σ N 0
set_option maxRecDepth 100000 in
set_option maxHeartbeats 4000000 in
theorem X8_faultOfRequests_ok {E : Ev}  {N : Nat}  {σ : Sg} {r : Int32} (h : X8_faultOfRequests N   σ = some r) : Cm E (3) yX8_faultOfRequests cX8_faultOfRequests 2 (some .int) [.ref 0] SH0 SH0 σ σ (some (.int r)) 0 0 := by
  refine Cm.intro (by decide +kernel) (Nat.le_of_ble_eq_true rfl) (fun _ h => by obtain ⟨_, _, _, _, _, _, h⟩ := h; exact h) (fun Z C hE => ?_)
  show Wm E Z 0 0 SH0 σ 0 [(0, .ref 0)] []
  unfold X8_faultOfRequests at h
  refine r_iconst (pc' := 1) C dX8_faultOfRequests_0 rfl kc_0 ?_
  refine r_istore_n (pc' := 2) (lv2 := [(1, .int 0), (0, .ref 0)]) C dX8_faultOfRequests_1 rfl rfl (Nat.le_of_ble_eq_true rfl) rfl ?_
  refine r_sub [1, 0] rfl ?_
  exact X8_faultOfRequests_l2_ok  (fun  _ h Z C hE => by exact X8_faultOfRequests_j29_ok  h Z C hE) N _ _ h Z C hE

/-! BorrowedWeight.priceOf(II)I -/
def X8_priceOf_l5 (N : Nat)   (σ : Sg) : Nat → Int32 → Int32 → Int32 → Int32 → Option (Int32)
  | 0, _, _, _, _ => none
  | n + 1, v1, v2, v3, v4 =>
    if v2 ≤ v4 then (some v3) else (if ((v1 >>> (v4 &&& 31)) &&& 1) = 1 then ((X6_digitAt N ((v4 * 5) + 3) σ).bind fun r3 => (X8_priceOf_l5 N σ n v1 v2 (v3 + r3) (v4 + 1))) else (X8_priceOf_l5 N σ n v1 v2 v3 (v4 + 1)))
set_option maxRecDepth 100000 in
set_option maxHeartbeats 4000000 in
theorem X8_priceOf_l5_ok {E : Ev}  {N : Nat}  {σ : Sg}  : ∀ (n : Nat) (v1 : Int32) (v2 : Int32) (v3 : Int32) (v4 : Int32) (r : Int32), X8_priceOf_l5 N σ n v1 v2 v3 v4 = some r → Gp E RX8 cX8_priceOf (some .int) 5 (2) SH0 σ (some (.int r)) σ 5 [(0, .ref 0), (1, .int v1), (2, .int v2), (3, .int v3), (4, .int v4)] [] := by
  intro n
  induction n with
  | zero => intro v1 v2 v3 v4 r h; cases h
  | succ n ih =>
    intro v1 v2 v3 v4 r h Z C hE
    unfold X8_priceOf_l5 at h
    refine r_iload (pc' := 7) C dX8_priceOf_5 rfl 4 rfl ?_
    refine r_iload_n (pc' := 8) C dX8_priceOf_7 rfl 2 rfl ?_
    refine r_icmp_ge (tgt := 43) (pc' := 11) C dX8_priceOf_8 rfl rfl (fun c1 => ?_) (fun c1 => ?_)
    · rw [if_pos c1] at h
      refine r_iload_n (pc' := 44) C dX8_priceOf_43 rfl 3 rfl ?_
      have h := Option.some.inj h
      subst h
      exact r_ret C rfl dX8_priceOf_44 hE
    · rw [if_neg c1] at h
      refine r_iload_n (pc' := 12) C dX8_priceOf_11 rfl 1 rfl ?_
      refine r_iload (pc' := 14) C dX8_priceOf_12 rfl 4 rfl ?_
      refine r_ishr (pc' := 15) C dX8_priceOf_14 rfl ?_
      refine r_iconst (pc' := 16) C dX8_priceOf_15 rfl kc_1 ?_
      refine r_iand (pc' := 17) C dX8_priceOf_16 rfl ?_
      refine r_iconst (pc' := 18) C dX8_priceOf_17 rfl kc_1 ?_
      refine r_icmp_ne (tgt := 37) (pc' := 21) C dX8_priceOf_18 rfl rfl (fun c2 => ?_) (fun c2 => ?_)
      · rw [if_neg c2] at h
        refine r_iinc (pc' := 40) (v := v4 + 1) (lv2 := [(4, .int (v4 + 1)), (0, .ref 0), (1, .int v1), (2, .int v2), (3, .int v3)]) C dX8_priceOf_37 rfl 4 rfl rfl (Nat.le_of_ble_eq_true rfl) rfl ?_
        refine r_goto (tgt := 5) C dX8_priceOf_40 rfl ?_
        refine r_sub [1, 2, 3, 4, 0] rfl ?_
        exact ih _ _ _ _ _ h Z C hE
      · rw [if_pos c2] at h
        refine r_iload_n (pc' := 22) C dX8_priceOf_21 rfl 3 rfl ?_
        refine r_aload_n (pc' := 23) C dX8_priceOf_22 rfl 0 rfl ?_
        refine r_getR (pc' := 26) C flX8_10 sh_0 rfl dX8_priceOf_23 rfl ?_
        refine r_iload (pc' := 28) C dX8_priceOf_26 rfl 4 rfl ?_
        refine r_iconst (pc' := 29) C dX8_priceOf_28 rfl kc_5 ?_
        refine r_imul (pc' := 30) C dX8_priceOf_29 rfl ?_
        refine r_iconst (pc' := 31) C dX8_priceOf_30 rfl kc_3 ?_
        refine r_iadd (pc' := 32) C dX8_priceOf_31 rfl ?_
        obtain ⟨r3, e4, h⟩ := bd h
        refine r_cV1 (pc' := 35) C (X6_digitAt_ok  e4) mlX8_100 ceX6_digitAt cvX6_digitAt sh_1 rfl rfl rfl (Nat.le_of_ble_eq_true rfl) rfl (Nat.le_of_ble_eq_true rfl) dX8_priceOf_32 rfl (kk := ?_)
        refine r_iadd (pc' := 36) C dX8_priceOf_35 rfl ?_
        refine r_istore_n (pc' := 37) (lv2 := [(3, .int (v3 + r3)), (0, .ref 0), (1, .int v1), (2, .int v2), (4, .int v4)]) C dX8_priceOf_36 rfl rfl (Nat.le_of_ble_eq_true rfl) rfl ?_
        refine r_iinc (pc' := 40) (v := v4 + 1) (lv2 := [(4, .int (v4 + 1)), (3, .int (v3 + r3)), (0, .ref 0), (1, .int v1), (2, .int v2)]) C dX8_priceOf_37 rfl 4 rfl rfl (Nat.le_of_ble_eq_true rfl) rfl ?_
        refine r_goto (tgt := 5) C dX8_priceOf_40 rfl ?_
        refine r_sub [2, 3, 4, 1, 0] rfl ?_
        exact ih _ _ _ _ _ h Z C hE
def X8_priceOf (N : Nat)  (v1 : Int32) (v2 : Int32) (σ : Sg) : Option (Int32) :=
  X8_priceOf_l5 N σ N v1 v2 0 0
set_option maxRecDepth 100000 in
set_option maxHeartbeats 4000000 in
theorem X8_priceOf_ok {E : Ev}  {N : Nat} {v1 : Int32} {v2 : Int32} {σ : Sg} {r : Int32} (h : X8_priceOf N  v1 v2 σ = some r) : Cm E (2) yX8_priceOf cX8_priceOf 5 (some .int) [.ref 0, .int v1, .int v2] SH0 SH0 σ σ (some (.int r)) 0 0 := by
  refine Cm.intro (by decide +kernel) (Nat.le_of_ble_eq_true rfl) (fun _ h => by obtain ⟨_, _, _, _, _, _, h⟩ := h; exact h) (fun Z C hE => ?_)
  show Wm E Z 0 0 SH0 σ 0 [(0, .ref 0), (1, .int v1), (2, .int v2)] []
  unfold X8_priceOf at h
  refine r_iconst (pc' := 1) C dX8_priceOf_0 rfl kc_0 ?_
  refine r_istore_n (pc' := 2) (lv2 := [(3, .int 0), (0, .ref 0), (1, .int v1), (2, .int v2)]) C dX8_priceOf_1 rfl rfl (Nat.le_of_ble_eq_true rfl) rfl ?_
  refine r_iconst (pc' := 3) C dX8_priceOf_2 rfl kc_0 ?_
  refine r_istore (pc' := 5) (lv2 := [(4, .int 0), (3, .int 0), (0, .ref 0), (1, .int v1), (2, .int v2)]) C dX8_priceOf_3 rfl (Nat.le_of_ble_eq_true rfl) rfl ?_
  refine r_sub [2, 3, 4, 1, 0] rfl ?_
  exact X8_priceOf_l5_ok  N _ _ _ _ _ h Z C hE

/-! BorrowedWeight.canServe(II)Z -/
def X8_canServe_j59 (N : Nat)  (kr : Int32 → Int32 → Int32 → Int32 → Int32 → Option (Int32)) (v1 : Int32) (v2 : Int32) (v3 : Int32) (v4 : Int32) (v5 : Int32) (v6 : Int32) (s0 : Int32) (σ : Sg) : Option (Int32) :=
  if s0 = 0 then (kr v1 v2 v3 v4 (v5 + 1)) else (if ((v1 >>> (v5 &&& 31)) &&& 1) = 1 then ((X6_digitAt N (v6 + 2) σ).bind fun r8 => (kr v1 v2 v3 (v4 + r8) (v5 + 1))) else (kr v1 v2 v3 v4 (v5 + 1)))
set_option maxRecDepth 100000 in
set_option maxHeartbeats 4000000 in
theorem X8_canServe_j59_ok {E : Ev}  {N : Nat} {kr : Int32 → Int32 → Int32 → Int32 → Int32 → Option (Int32)} {σ : Sg}  (hkr : ∀ (v1 : Int32) (v2 : Int32) (v3 : Int32) (v4 : Int32) (v5 : Int32) (r : Int32), kr v1 v2 v3 v4 v5 = some r → Gp E RX8 cX8_canServe (some .boolean) 8 (2) SH0 σ (some (.int r)) σ 14 [(0, .ref 0), (1, .int v1), (2, .int v2), (3, .int v3), (4, .int v4), (5, .int v5)] []) {v1 : Int32} {v2 : Int32} {v3 : Int32} {v4 : Int32} {v5 : Int32} {v6 : Int32} {s0 : Int32} {r : Int32} (h : X8_canServe_j59 N  kr v1 v2 v3 v4 v5 v6 s0 σ = some r) : Gp E RX8 cX8_canServe (some .boolean) 8 (2) SH0 σ (some (.int r)) σ 59 [(0, .ref 0), (1, .int v1), (2, .int v2), (3, .int v3), (4, .int v4), (5, .int v5), (6, .int v6)] [.int s0] := by
  intro Z C hE
  unfold X8_canServe_j59 at h
  refine r_istore (pc' := 61) (lv2 := [(7, .int s0), (0, .ref 0), (1, .int v1), (2, .int v2), (3, .int v3), (4, .int v4), (5, .int v5), (6, .int v6)]) C dX8_canServe_59 rfl (Nat.le_of_ble_eq_true rfl) rfl ?_
  refine r_iload (pc' := 63) C dX8_canServe_61 rfl 0 rfl ?_
  refine r_if_eq (tgt := 92) (pc' := 66) C dX8_canServe_63 rfl rfl (fun c6 => ?_) (fun c6 => ?_)
  · rw [if_pos c6] at h
    refine r_iinc (pc' := 95) (v := v5 + 1) (lv2 := [(5, .int (v5 + 1)), (7, .int s0), (0, .ref 0), (1, .int v1), (2, .int v2), (3, .int v3), (4, .int v4), (6, .int v6)]) C dX8_canServe_92 rfl 6 rfl rfl (Nat.le_of_ble_eq_true rfl) rfl ?_
    refine r_goto (tgt := 14) C dX8_canServe_95 rfl ?_
    refine r_sub [2, 3, 4, 5, 6, 0] rfl ?_
    exact hkr _ _ _ _ _ _ h Z C hE
  · rw [if_neg c6] at h
    refine r_iload_n (pc' := 67) C dX8_canServe_66 rfl 2 rfl ?_
    refine r_iload (pc' := 69) C dX8_canServe_67 rfl 6 rfl ?_
    refine r_ishr (pc' := 70) C dX8_canServe_69 rfl ?_
    refine r_iconst (pc' := 71) C dX8_canServe_70 rfl kc_1 ?_
    refine r_iand (pc' := 72) C dX8_canServe_71 rfl ?_
    refine r_iconst (pc' := 73) C dX8_canServe_72 rfl kc_1 ?_
    refine r_icmp_ne (tgt := 92) (pc' := 76) C dX8_canServe_73 rfl rfl (fun c7 => ?_) (fun c7 => ?_)
    · rw [if_neg c7] at h
      refine r_iinc (pc' := 95) (v := v5 + 1) (lv2 := [(5, .int (v5 + 1)), (7, .int s0), (0, .ref 0), (1, .int v1), (2, .int v2), (3, .int v3), (4, .int v4), (6, .int v6)]) C dX8_canServe_92 rfl 6 rfl rfl (Nat.le_of_ble_eq_true rfl) rfl ?_
      refine r_goto (tgt := 14) C dX8_canServe_95 rfl ?_
      refine r_sub [2, 3, 4, 5, 6, 0] rfl ?_
      exact hkr _ _ _ _ _ _ h Z C hE
    · rw [if_pos c7] at h
      refine r_iload (pc' := 78) C dX8_canServe_76 rfl 5 rfl ?_
      refine r_aload_n (pc' := 79) C dX8_canServe_78 rfl 1 rfl ?_
      refine r_getR (pc' := 82) C flX8_10 sh_0 rfl dX8_canServe_79 rfl ?_
      refine r_iload (pc' := 84) C dX8_canServe_82 rfl 7 rfl ?_
      refine r_iconst (pc' := 85) C dX8_canServe_84 rfl kc_2 ?_
      refine r_iadd (pc' := 86) C dX8_canServe_85 rfl ?_
      obtain ⟨r8, e9, h⟩ := bd h
      refine r_cV1 (pc' := 89) C (X6_digitAt_ok  e9) mlX8_100 ceX6_digitAt cvX6_digitAt sh_1 rfl rfl rfl (Nat.le_of_ble_eq_true rfl) rfl (Nat.le_of_ble_eq_true rfl) dX8_canServe_86 rfl (kk := ?_)
      refine r_iadd (pc' := 90) C dX8_canServe_89 rfl ?_
      refine r_istore (pc' := 92) (lv2 := [(4, .int (v4 + r8)), (7, .int s0), (0, .ref 0), (1, .int v1), (2, .int v2), (3, .int v3), (5, .int v5), (6, .int v6)]) C dX8_canServe_90 rfl (Nat.le_of_ble_eq_true rfl) rfl ?_
      refine r_iinc (pc' := 95) (v := v5 + 1) (lv2 := [(5, .int (v5 + 1)), (4, .int (v4 + r8)), (7, .int s0), (0, .ref 0), (1, .int v1), (2, .int v2), (3, .int v3), (6, .int v6)]) C dX8_canServe_92 rfl 6 rfl rfl (Nat.le_of_ble_eq_true rfl) rfl ?_
      refine r_goto (tgt := 14) C dX8_canServe_95 rfl ?_
      refine r_sub [3, 4, 5, 6, 1, 0] rfl ?_
      exact hkr _ _ _ _ _ _ h Z C hE
def X8_canServe_l14 (N : Nat)  (k98 : Int32 → Int32 → Int32 → Int32 → Option (Int32)) (σ : Sg) : Nat → Int32 → Int32 → Int32 → Int32 → Int32 → Option (Int32)
  | 0, _, _, _, _, _ => none
  | n + 1, v1, v2, v3, v4, v5 =>
    if v2 ≤ v5 then (k98 v1 v2 v3 v4) else ((X6_digitAt N (v5 * 5) σ).bind fun r3 => (if v3 < r3 then (X8_canServe_j59 N (fun v1 v2 v3 v4 v5 => X8_canServe_l14 N k98 σ n v1 v2 v3 v4 v5) v1 v2 v3 v4 v5 (v5 * 5) 0 σ) else ((X6_digitAt N ((v5 * 5) + 1) σ).bind fun r10 => (if r10 < v3 then (X8_canServe_j59 N (fun v1 v2 v3 v4 v5 => X8_canServe_l14 N k98 σ n v1 v2 v3 v4 v5) v1 v2 v3 v4 v5 (v5 * 5) 0 σ) else (X8_canServe_j59 N (fun v1 v2 v3 v4 v5 => X8_canServe_l14 N k98 σ n v1 v2 v3 v4 v5) v1 v2 v3 v4 v5 (v5 * 5) 1 σ)))))
set_option maxRecDepth 100000 in
set_option maxHeartbeats 4000000 in
theorem X8_canServe_l14_ok {E : Ev}  {N : Nat} {k98 : Int32 → Int32 → Int32 → Int32 → Option (Int32)} {σ : Sg} (hk98 : ∀ (v1 : Int32) (v2 : Int32) (v3 : Int32) (v4 : Int32) (r : Int32), k98 v1 v2 v3 v4 = some r → Gp E RX8 cX8_canServe (some .boolean) 8 (2) SH0 σ (some (.int r)) σ 98 [(0, .ref 0), (1, .int v1), (2, .int v2), (3, .int v3), (4, .int v4)] []) : ∀ (n : Nat) (v1 : Int32) (v2 : Int32) (v3 : Int32) (v4 : Int32) (v5 : Int32) (r : Int32), X8_canServe_l14 N k98 σ n v1 v2 v3 v4 v5 = some r → Gp E RX8 cX8_canServe (some .boolean) 8 (2) SH0 σ (some (.int r)) σ 14 [(0, .ref 0), (1, .int v1), (2, .int v2), (3, .int v3), (4, .int v4), (5, .int v5)] [] := by
  intro n
  induction n with
  | zero => intro v1 v2 v3 v4 v5 r h; cases h
  | succ n ih =>
    intro v1 v2 v3 v4 v5 r h Z C hE
    unfold X8_canServe_l14 at h
    refine r_iload (pc' := 16) C dX8_canServe_14 rfl 5 rfl ?_
    refine r_iload_n (pc' := 17) C dX8_canServe_16 rfl 2 rfl ?_
    refine r_icmp_ge (tgt := 98) (pc' := 20) C dX8_canServe_17 rfl rfl (fun c2 => ?_) (fun c2 => ?_)
    · rw [if_pos c2] at h
      refine r_sub [0, 1, 2, 3, 4] rfl ?_
      exact hk98 _ _ _ _ _ h Z C hE
    · rw [if_neg c2] at h
      refine r_iload (pc' := 22) C dX8_canServe_20 rfl 5 rfl ?_
      refine r_iconst (pc' := 23) C dX8_canServe_22 rfl kc_5 ?_
      refine r_imul (pc' := 24) C dX8_canServe_23 rfl ?_
      refine r_istore (pc' := 26) (lv2 := [(6, .int (v5 * 5)), (0, .ref 0), (1, .int v1), (2, .int v2), (3, .int v3), (4, .int v4), (5, .int v5)]) C dX8_canServe_24 rfl (Nat.le_of_ble_eq_true rfl) rfl ?_
      refine r_aload_n (pc' := 27) C dX8_canServe_26 rfl 1 rfl ?_
      refine r_getR (pc' := 30) C flX8_10 sh_0 rfl dX8_canServe_27 rfl ?_
      refine r_iload (pc' := 32) C dX8_canServe_30 rfl 0 rfl ?_
      obtain ⟨r3, e4, h⟩ := bd h
      refine r_cV1 (pc' := 35) C (X6_digitAt_ok  e4) mlX8_100 ceX6_digitAt cvX6_digitAt sh_1 rfl rfl rfl (Nat.le_of_ble_eq_true rfl) rfl (Nat.le_of_ble_eq_true rfl) dX8_canServe_32 rfl (kk := ?_)
      refine r_iload_n (pc' := 36) C dX8_canServe_35 rfl 4 rfl ?_
      refine r_icmp_gt (tgt := 58) (pc' := 39) C dX8_canServe_36 rfl rfl (fun c5 => ?_) (fun c5 => ?_)
      · rw [if_pos c5] at h
        refine r_iconst (pc' := 59) C dX8_canServe_58 rfl kc_0 ?_
        refine r_sub [1, 2, 3, 4, 5, 6, 0] rfl ?_
        exact X8_canServe_j59_ok  ih h Z C hE
      · rw [if_neg c5] at h
        refine r_iload_n (pc' := 40) C dX8_canServe_39 rfl 4 rfl ?_
        refine r_aload_n (pc' := 41) C dX8_canServe_40 rfl 1 rfl ?_
        refine r_getR (pc' := 44) C flX8_10 sh_0 rfl dX8_canServe_41 rfl ?_
        refine r_iload (pc' := 46) C dX8_canServe_44 rfl 0 rfl ?_
        refine r_iconst (pc' := 47) C dX8_canServe_46 rfl kc_1 ?_
        refine r_iadd (pc' := 48) C dX8_canServe_47 rfl ?_
        obtain ⟨r10, e11, h⟩ := bd h
        refine r_cV1 (pc' := 51) C (X6_digitAt_ok  e11) mlX8_100 ceX6_digitAt cvX6_digitAt sh_1 rfl rfl rfl (Nat.le_of_ble_eq_true rfl) rfl (Nat.le_of_ble_eq_true rfl) dX8_canServe_48 rfl (kk := ?_)
        refine r_icmp_gt (tgt := 58) (pc' := 54) C dX8_canServe_51 rfl rfl (fun c12 => ?_) (fun c12 => ?_)
        · rw [if_pos c12] at h
          refine r_iconst (pc' := 59) C dX8_canServe_58 rfl kc_0 ?_
          refine r_sub [1, 2, 3, 4, 5, 6, 0] rfl ?_
          exact X8_canServe_j59_ok  ih h Z C hE
        · rw [if_neg c12] at h
          refine r_iconst (pc' := 55) C dX8_canServe_54 rfl kc_1 ?_
          refine r_goto (tgt := 59) C dX8_canServe_55 rfl ?_
          refine r_sub [1, 2, 3, 4, 5, 6, 0] rfl ?_
          exact X8_canServe_j59_ok  ih h Z C hE
def X8_canServe_j98 (N : Nat)  (kr : Int32 → Int32 → Int32 → Option (Int32)) (v1 : Int32) (v2 : Int32) (v3 : Int32) (v4 : Int32) (σ : Sg) : Option (Int32) :=
  if v4 ≤ (gi σ 19 5) then (kr v1 v2 (v3 + 1)) else (some 0)
set_option maxRecDepth 100000 in
set_option maxHeartbeats 4000000 in
theorem X8_canServe_j98_ok {E : Ev}  {N : Nat} {kr : Int32 → Int32 → Int32 → Option (Int32)} {σ : Sg}  (hkr : ∀ (v1 : Int32) (v2 : Int32) (v3 : Int32) (r : Int32), kr v1 v2 v3 = some r → Gp E RX8 cX8_canServe (some .boolean) 8 (2) SH0 σ (some (.int r)) σ 2 [(0, .ref 0), (1, .int v1), (2, .int v2), (3, .int v3)] []) {v1 : Int32} {v2 : Int32} {v3 : Int32} {v4 : Int32} {r : Int32} (h : X8_canServe_j98 N  kr v1 v2 v3 v4 σ = some r) : Gp E RX8 cX8_canServe (some .boolean) 8 (2) SH0 σ (some (.int r)) σ 98 [(0, .ref 0), (1, .int v1), (2, .int v2), (3, .int v3), (4, .int v4)] [] := by
  intro Z C hE
  unfold X8_canServe_j98 at h
  refine r_iload (pc' := 100) C dX8_canServe_98 rfl 4 rfl ?_
  refine r_aload_n (pc' := 101) C dX8_canServe_100 rfl 0 rfl ?_
  refine r_getR (pc' := 104) C flX8_33 sh_0 rfl dX8_canServe_101 rfl ?_
  refine r_getI (pc' := 107) C flX8_222 sh_19 rfl dX8_canServe_104 rfl ?_
  refine r_icmp_le (tgt := 112) (pc' := 110) C dX8_canServe_107 rfl rfl (fun c13 => ?_) (fun c13 => ?_)
  · rw [if_pos c13] at h
    refine r_iinc (pc' := 115) (v := v3 + 1) (lv2 := [(3, .int (v3 + 1)), (0, .ref 0), (1, .int v1), (2, .int v2), (4, .int v4)]) C dX8_canServe_112 rfl 3 rfl rfl (Nat.le_of_ble_eq_true rfl) rfl ?_
    refine r_goto (tgt := 2) C dX8_canServe_115 rfl ?_
    refine r_sub [1, 2, 3, 0] rfl ?_
    exact hkr _ _ _ _ h Z C hE
  · rw [if_neg c13] at h
    refine r_iconst (pc' := 111) C dX8_canServe_110 rfl kc_0 ?_
    have h := Option.some.inj h
    subst h
    exact r_ret C rfl dX8_canServe_111 hE
def X8_canServe_l2 (N : Nat)   (σ : Sg) : Nat → Int32 → Int32 → Int32 → Option (Int32)
  | 0, _, _, _ => none
  | n + 1, v1, v2, v3 =>
    if 10 ≤ v3 then (some 1) else (X8_canServe_l14 N (fun v1 v2 v3 v4 => X8_canServe_j98 N (fun v1 v2 v3 => X8_canServe_l2 N σ n v1 v2 v3) v1 v2 v3 v4 σ) σ N v1 v2 v3 0 0)
set_option maxRecDepth 100000 in
set_option maxHeartbeats 4000000 in
theorem X8_canServe_l2_ok {E : Ev}  {N : Nat}  {σ : Sg}  : ∀ (n : Nat) (v1 : Int32) (v2 : Int32) (v3 : Int32) (r : Int32), X8_canServe_l2 N σ n v1 v2 v3 = some r → Gp E RX8 cX8_canServe (some .boolean) 8 (2) SH0 σ (some (.int r)) σ 2 [(0, .ref 0), (1, .int v1), (2, .int v2), (3, .int v3)] [] := by
  intro n
  induction n with
  | zero => intro v1 v2 v3 r h; cases h
  | succ n ih =>
    intro v1 v2 v3 r h Z C hE
    unfold X8_canServe_l2 at h
    refine r_iload_n (pc' := 3) C dX8_canServe_2 rfl 3 rfl ?_
    refine r_bipush (pc' := 5) C dX8_canServe_3 rfl kb_10 ?_
    refine r_icmp_ge (tgt := 118) (pc' := 8) C dX8_canServe_5 rfl rfl (fun c1 => ?_) (fun c1 => ?_)
    · rw [if_pos c1] at h
      refine r_iconst (pc' := 119) C dX8_canServe_118 rfl kc_1 ?_
      have h := Option.some.inj h
      subst h
      exact r_ret C rfl dX8_canServe_119 hE
    · rw [if_neg c1] at h
      refine r_iconst (pc' := 9) C dX8_canServe_8 rfl kc_0 ?_
      refine r_istore (pc' := 11) (lv2 := [(4, .int 0), (0, .ref 0), (1, .int v1), (2, .int v2), (3, .int v3)]) C dX8_canServe_9 rfl (Nat.le_of_ble_eq_true rfl) rfl ?_
      refine r_iconst (pc' := 12) C dX8_canServe_11 rfl kc_0 ?_
      refine r_istore (pc' := 14) (lv2 := [(5, .int 0), (4, .int 0), (0, .ref 0), (1, .int v1), (2, .int v2), (3, .int v3)]) C dX8_canServe_12 rfl (Nat.le_of_ble_eq_true rfl) rfl ?_
      refine r_sub [2, 3, 4, 5, 1, 0] rfl ?_
      exact X8_canServe_l14_ok  (fun _ _ _ _ _ h Z C hE => by exact X8_canServe_j98_ok  ih h Z C hE) N _ _ _ _ _ _ h Z C hE
def X8_canServe (N : Nat)  (v1 : Int32) (v2 : Int32) (σ : Sg) : Option (Int32) :=
  X8_canServe_l2 N σ N v1 v2 0
set_option maxRecDepth 100000 in
set_option maxHeartbeats 4000000 in
theorem X8_canServe_ok {E : Ev}  {N : Nat} {v1 : Int32} {v2 : Int32} {σ : Sg} {r : Int32} (h : X8_canServe N  v1 v2 σ = some r) : Cm E (2) yX8_canServe cX8_canServe 8 (some .boolean) [.ref 0, .int v1, .int v2] SH0 SH0 σ σ (some (.int r)) 0 0 := by
  refine Cm.intro (by decide +kernel) (Nat.le_of_ble_eq_true rfl) (fun _ h => by obtain ⟨_, _, _, _, _, _, h⟩ := h; exact h) (fun Z C hE => ?_)
  show Wm E Z 0 0 SH0 σ 0 [(0, .ref 0), (1, .int v1), (2, .int v2)] []
  unfold X8_canServe at h
  refine r_iconst (pc' := 1) C dX8_canServe_0 rfl kc_0 ?_
  refine r_istore_n (pc' := 2) (lv2 := [(3, .int 0), (0, .ref 0), (1, .int v1), (2, .int v2)]) C dX8_canServe_1 rfl rfl (Nat.le_of_ble_eq_true rfl) rfl ?_
  refine r_sub [1, 2, 3, 0] rfl ?_
  exact X8_canServe_l2_ok  N _ _ _ _ h Z C hE

/-! BorrowedWeight.serves()I -/
def X8_serves_j100 (N : Nat)  (kr : Int32 → Int32 → Int32 → Int32 → Sg → Option (Int32 × Sg)) (v2 : Int32) (v3 : Int32) (v4 : Int32) (v5 : Int32) (v6 : Int32) (σ : Sg) : Option (Int32 × Sg) :=
  (X8_canServe N v5 v2 σ).bind fun r16 => (if r16 = 0 then (kr v2 v3 v4 (v5 + 1) σ) else (kr v2 v6 v5 (v5 + 1) σ))
set_option maxRecDepth 100000 in
set_option maxHeartbeats 4000000 in
theorem X8_serves_j100_ok {E : Ev}  {N : Nat} {kr : Int32 → Int32 → Int32 → Int32 → Sg → Option (Int32 × Sg)}  (hkr : ∀ (v2 : Int32) (v3 : Int32) (v4 : Int32) (v5 : Int32) (σ : Sg) (r : Int32 × Sg), kr v2 v3 v4 v5 σ = some r → Gp E RX8 cX8_serves (some .int) 8 (4) SH0 r.2 (some (.int r.1)) σ 46 [(0, .ref 0), (2, .int v2), (3, .int v3), (4, .int v4), (5, .int v5)] []) {v2 : Int32} {v3 : Int32} {v4 : Int32} {v5 : Int32} {v6 : Int32} {σ : Sg} {r : Int32 × Sg} (h : X8_serves_j100 N  kr v2 v3 v4 v5 v6 σ = some r) : Gp E RX8 cX8_serves (some .int) 8 (4) SH0 r.2 (some (.int r.1)) σ 100 [(0, .ref 0), (2, .int v2), (3, .int v3), (4, .int v4), (5, .int v5), (6, .int v6)] [] := by
  intro Z C hE
  unfold X8_serves_j100 at h
  refine r_aload_n (pc' := 101) C dX8_serves_100 rfl 0 rfl ?_
  refine r_iload (pc' := 103) C dX8_serves_101 rfl 4 rfl ?_
  refine r_iload_n (pc' := 104) C dX8_serves_103 rfl 1 rfl ?_
  obtain ⟨r16, e17, h⟩ := bd h
  refine r_cV1 (pc' := 107) C (X8_canServe_ok  e17) mlX8_327 ceX8_canServe cvX8_canServe sh_0 rfl rfl rfl (Nat.le_of_ble_eq_true rfl) rfl (Nat.le_of_ble_eq_true rfl) dX8_serves_104 rfl (kk := ?_)
  refine r_if_eq (tgt := 117) (pc' := 110) C dX8_serves_107 rfl rfl (fun c18 => ?_) (fun c18 => ?_)
  · rw [if_pos c18] at h
    refine r_iinc (pc' := 120) (v := v5 + 1) (lv2 := [(5, .int (v5 + 1)), (0, .ref 0), (2, .int v2), (3, .int v3), (4, .int v4), (6, .int v6)]) C dX8_serves_117 rfl 4 rfl rfl (Nat.le_of_ble_eq_true rfl) rfl ?_
    refine r_goto (tgt := 46) C dX8_serves_120 rfl ?_
    refine r_sub [1, 2, 3, 4, 0] rfl ?_
    exact hkr _ _ _ _ _ _ h Z C hE
  · rw [if_neg c18] at h
    refine r_iload (pc' := 112) C dX8_serves_110 rfl 5 rfl ?_
    refine r_istore_n (pc' := 113) (lv2 := [(3, .int v6), (0, .ref 0), (2, .int v2), (4, .int v4), (5, .int v5), (6, .int v6)]) C dX8_serves_112 rfl rfl (Nat.le_of_ble_eq_true rfl) rfl ?_
    refine r_iload (pc' := 115) C dX8_serves_113 rfl 4 rfl ?_
    refine r_istore (pc' := 117) (lv2 := [(4, .int v5), (3, .int v6), (0, .ref 0), (2, .int v2), (5, .int v5), (6, .int v6)]) C dX8_serves_115 rfl (Nat.le_of_ble_eq_true rfl) rfl ?_
    refine r_iinc (pc' := 120) (v := v5 + 1) (lv2 := [(5, .int (v5 + 1)), (4, .int v5), (3, .int v6), (0, .ref 0), (2, .int v2), (6, .int v6)]) C dX8_serves_117 rfl 4 rfl rfl (Nat.le_of_ble_eq_true rfl) rfl ?_
    refine r_goto (tgt := 46) C dX8_serves_120 rfl ?_
    refine r_sub [3, 4, 2, 1, 0] rfl ?_
    exact hkr _ _ _ _ _ _ h Z C hE
def X8_serves_j81 (N : Nat)  (kr : Int32 → Int32 → Int32 → Int32 → Sg → Option (Int32 × Sg)) (v2 : Int32) (v3 : Int32) (v4 : Int32) (v5 : Int32) (v6 : Int32) (s0 : Int32) (σ : Sg) : Option (Int32 × Sg) :=
  if v3 < v6 then (X8_serves_j100 N kr v2 v3 v4 v5 v6 σ) else (if v6 = v3 then (if s0 = 0 then (kr v2 v3 v4 (v5 + 1) σ) else (X8_serves_j100 N kr v2 v3 v4 v5 v6 σ)) else (kr v2 v3 v4 (v5 + 1) σ))
set_option maxRecDepth 100000 in
set_option maxHeartbeats 4000000 in
theorem X8_serves_j81_ok {E : Ev}  {N : Nat} {kr : Int32 → Int32 → Int32 → Int32 → Sg → Option (Int32 × Sg)}  (hkr : ∀ (v2 : Int32) (v3 : Int32) (v4 : Int32) (v5 : Int32) (σ : Sg) (r : Int32 × Sg), kr v2 v3 v4 v5 σ = some r → Gp E RX8 cX8_serves (some .int) 8 (4) SH0 r.2 (some (.int r.1)) σ 46 [(0, .ref 0), (2, .int v2), (3, .int v3), (4, .int v4), (5, .int v5)] []) {v2 : Int32} {v3 : Int32} {v4 : Int32} {v5 : Int32} {v6 : Int32} {s0 : Int32} {σ : Sg} {r : Int32 × Sg} (h : X8_serves_j81 N  kr v2 v3 v4 v5 v6 s0 σ = some r) : Gp E RX8 cX8_serves (some .int) 8 (4) SH0 r.2 (some (.int r.1)) σ 81 [(0, .ref 0), (2, .int v2), (3, .int v3), (4, .int v4), (5, .int v5), (6, .int v6)] [.int s0] := by
  intro Z C hE
  unfold X8_serves_j81 at h
  refine r_istore (pc' := 83) (lv2 := [(7, .int s0), (0, .ref 0), (2, .int v2), (3, .int v3), (4, .int v4), (5, .int v5), (6, .int v6)]) C dX8_serves_81 rfl (Nat.le_of_ble_eq_true rfl) rfl ?_
  refine r_iload (pc' := 85) C dX8_serves_83 rfl 6 rfl ?_
  refine r_iload_n (pc' := 86) C dX8_serves_85 rfl 3 rfl ?_
  refine r_icmp_gt (tgt := 100) (pc' := 89) C dX8_serves_86 rfl rfl (fun c15 => ?_) (fun c15 => ?_)
  · rw [if_pos c15] at h
    refine r_sub [1, 2, 3, 4, 5, 6] rfl ?_
    exact X8_serves_j100_ok  hkr h Z C hE
  · rw [if_neg c15] at h
    refine r_iload (pc' := 91) C dX8_serves_89 rfl 6 rfl ?_
    refine r_iload_n (pc' := 92) C dX8_serves_91 rfl 3 rfl ?_
    refine r_icmp_ne (tgt := 117) (pc' := 95) C dX8_serves_92 rfl rfl (fun c19 => ?_) (fun c19 => ?_)
    · rw [if_neg c19] at h
      refine r_iinc (pc' := 120) (v := v5 + 1) (lv2 := [(5, .int (v5 + 1)), (7, .int s0), (0, .ref 0), (2, .int v2), (3, .int v3), (4, .int v4), (6, .int v6)]) C dX8_serves_117 rfl 5 rfl rfl (Nat.le_of_ble_eq_true rfl) rfl ?_
      refine r_goto (tgt := 46) C dX8_serves_120 rfl ?_
      refine r_sub [2, 3, 4, 5, 0] rfl ?_
      exact hkr _ _ _ _ _ _ h Z C hE
    · rw [if_pos c19] at h
      refine r_iload (pc' := 97) C dX8_serves_95 rfl 0 rfl ?_
      refine r_if_eq (tgt := 117) (pc' := 100) C dX8_serves_97 rfl rfl (fun c20 => ?_) (fun c20 => ?_)
      · rw [if_pos c20] at h
        refine r_iinc (pc' := 120) (v := v5 + 1) (lv2 := [(5, .int (v5 + 1)), (7, .int s0), (0, .ref 0), (2, .int v2), (3, .int v3), (4, .int v4), (6, .int v6)]) C dX8_serves_117 rfl 5 rfl rfl (Nat.le_of_ble_eq_true rfl) rfl ?_
        refine r_goto (tgt := 46) C dX8_serves_120 rfl ?_
        refine r_sub [2, 3, 4, 5, 0] rfl ?_
        exact hkr _ _ _ _ _ _ h Z C hE
      · rw [if_neg c20] at h
        refine r_sub [1, 2, 3, 4, 5, 6] rfl ?_
        exact X8_serves_j100_ok  hkr h Z C hE
def X8_serves_l46 (N : Nat)  (k123 : Int32 → Int32 → Sg → Option (Int32 × Sg))  : Nat → Int32 → Int32 → Int32 → Int32 → Sg → Option (Int32 × Sg)
  | 0, _, _, _, _, _ => none
  | n + 1, v2, v3, v4, v5, σ =>
    if (1 <<< (v2 &&& 31)) ≤ v5 then (k123 v3 v4 σ) else ((X8_priceOf N v5 v2 σ).bind fun r8 => ((J6_bitCount_0f7a4 N v5 σ).bind fun r10 => ((J6_bitCount_0f7a4 N v4 σ).bind fun r12 => (if r12 ≤ r10 then (X8_serves_j81 N (fun v2 v3 v4 v5 σ => X8_serves_l46 N k123 n v2 v3 v4 v5 σ) v2 v3 v4 v5 r8 0 σ) else (X8_serves_j81 N (fun v2 v3 v4 v5 σ => X8_serves_l46 N k123 n v2 v3 v4 v5 σ) v2 v3 v4 v5 r8 1 σ)))))
set_option maxRecDepth 100000 in
set_option maxHeartbeats 4000000 in
theorem X8_serves_l46_ok {E : Ev}  {N : Nat} {k123 : Int32 → Int32 → Sg → Option (Int32 × Sg)}  (hk123 : ∀ (v3 : Int32) (v4 : Int32) (σ : Sg) (r : Int32 × Sg), k123 v3 v4 σ = some r → Gp E RX8 cX8_serves (some .int) 8 (4) SH0 r.2 (some (.int r.1)) σ 123 [(0, .ref 0), (3, .int v3), (4, .int v4)] []) : ∀ (n : Nat) (v2 : Int32) (v3 : Int32) (v4 : Int32) (v5 : Int32) (σ : Sg) (r : Int32 × Sg), X8_serves_l46 N k123 n v2 v3 v4 v5 σ = some r → Gp E RX8 cX8_serves (some .int) 8 (4) SH0 r.2 (some (.int r.1)) σ 46 [(0, .ref 0), (2, .int v2), (3, .int v3), (4, .int v4), (5, .int v5)] [] := by
  intro n
  induction n with
  | zero => intro v2 v3 v4 v5 σ r h; cases h
  | succ n ih =>
    intro v2 v3 v4 v5 σ r h Z C hE
    unfold X8_serves_l46 at h
    refine r_iload (pc' := 48) C dX8_serves_46 rfl 4 rfl ?_
    refine r_iconst (pc' := 49) C dX8_serves_48 rfl kc_1 ?_
    refine r_iload_n (pc' := 50) C dX8_serves_49 rfl 1 rfl ?_
    refine r_ishl (pc' := 51) C dX8_serves_50 rfl ?_
    refine r_icmp_ge (tgt := 123) (pc' := 54) C dX8_serves_51 rfl rfl (fun c7 => ?_) (fun c7 => ?_)
    · rw [if_pos c7] at h
      refine r_sub [0, 2, 3] rfl ?_
      exact hk123 _ _ _ _ h Z C hE
    · rw [if_neg c7] at h
      refine r_aload_n (pc' := 55) C dX8_serves_54 rfl 0 rfl ?_
      refine r_iload (pc' := 57) C dX8_serves_55 rfl 4 rfl ?_
      refine r_iload_n (pc' := 58) C dX8_serves_57 rfl 1 rfl ?_
      obtain ⟨r8, e9, h⟩ := bd h
      refine r_cV1 (pc' := 61) C (X8_priceOf_ok  e9) mlX8_324 ceX8_priceOf cvX8_priceOf sh_0 rfl rfl rfl (Nat.le_of_ble_eq_true rfl) rfl (Nat.le_of_ble_eq_true rfl) dX8_serves_58 rfl (kk := ?_)
      refine r_istore (pc' := 63) (lv2 := [(6, .int r8), (0, .ref 0), (2, .int v2), (3, .int v3), (4, .int v4), (5, .int v5)]) C dX8_serves_61 rfl (Nat.le_of_ble_eq_true rfl) rfl ?_
      refine r_iload (pc' := 65) C dX8_serves_63 rfl 5 rfl ?_
      obtain ⟨r10, e11, h⟩ := bd h
      refine r_cS1 (pc' := 68) C (J6_bitCount_0f7a4_ok  e11) mlX8_189 ceJ6_bitCount_0f7a4 csJ6_bitCount_0f7a4 rfl (Nat.le_of_ble_eq_true rfl) rfl (Nat.le_of_ble_eq_true rfl) dX8_serves_65 rfl (kk := ?_)
      refine r_iload (pc' := 70) C dX8_serves_68 rfl 4 rfl ?_
      obtain ⟨r12, e13, h⟩ := bd h
      refine r_cS1 (pc' := 73) C (J6_bitCount_0f7a4_ok  e13) mlX8_189 ceJ6_bitCount_0f7a4 csJ6_bitCount_0f7a4 rfl (Nat.le_of_ble_eq_true rfl) rfl (Nat.le_of_ble_eq_true rfl) dX8_serves_70 rfl (kk := ?_)
      refine r_icmp_ge (tgt := 80) (pc' := 76) C dX8_serves_73 rfl rfl (fun c14 => ?_) (fun c14 => ?_)
      · rw [if_pos c14] at h
        refine r_iconst (pc' := 81) C dX8_serves_80 rfl kc_0 ?_
        refine r_sub [1, 2, 3, 4, 5, 0] rfl ?_
        exact X8_serves_j81_ok  ih h Z C hE
      · rw [if_neg c14] at h
        refine r_iconst (pc' := 77) C dX8_serves_76 rfl kc_1 ?_
        refine r_goto (tgt := 81) C dX8_serves_77 rfl ?_
        refine r_sub [1, 2, 3, 4, 5, 0] rfl ?_
        exact X8_serves_j81_ok  ih h Z C hE
def X8_serves_j123 (N : Nat)   (v3 : Int32) (v4 : Int32) (σ : Sg) : Option (Int32 × Sg) :=
  (X6_clear N σ).bind fun r21 => ((X2_tell N v4.toInt64 r21).bind fun r23 => (some (v3, r23)))
set_option maxRecDepth 100000 in
set_option maxHeartbeats 4000000 in
theorem X8_serves_j123_ok {E : Ev}  {N : Nat}    {v3 : Int32} {v4 : Int32} {σ : Sg} {r : Int32 × Sg} (h : X8_serves_j123 N   v3 v4 σ = some r) : Gp E RX8 cX8_serves (some .int) 8 (4) SH0 r.2 (some (.int r.1)) σ 123 [(0, .ref 0), (3, .int v3), (4, .int v4)] [] := by
  intro Z C hE
  unfold X8_serves_j123 at h
  refine r_aload_n (pc' := 124) C dX8_serves_123 rfl 0 rfl ?_
  refine r_getR (pc' := 127) C flX8_10 sh_0 rfl dX8_serves_124 rfl ?_
  obtain ⟨r21, e22, h⟩ := bd h
  refine r_cV0 (pc' := 130) C (X6_clear_ok  e22) mlX8_111 ceX6_clear cvX6_clear sh_1 rfl rfl rfl (Nat.le_of_ble_eq_true rfl) rfl (Nat.le_of_ble_eq_true rfl) dX8_serves_127 rfl (kk := ?_)
  refine r_aload_n (pc' := 131) C dX8_serves_130 rfl 0 rfl ?_
  refine r_getR (pc' := 134) C flX8_19 sh_0 rfl dX8_serves_131 rfl ?_
  refine r_iload (pc' := 136) C dX8_serves_134 rfl 2 rfl ?_
  refine r_i2l (pc' := 137) C dX8_serves_136 rfl rfl ?_
  obtain ⟨r23, e24, h⟩ := bd h
  refine r_cV0 (pc' := 140) C (X2_tell_ok  e24) mlX8_261 ceX2_tell cvX2_tell sh_3 rfl rfl rfl (Nat.le_of_ble_eq_true rfl) rfl (Nat.le_of_ble_eq_true rfl) dX8_serves_137 rfl (kk := ?_)
  refine r_iload_n (pc' := 141) C dX8_serves_140 rfl 1 rfl ?_
  have h := Option.some.inj h
  subst h
  exact r_ret C rfl dX8_serves_141 hE
def X8_serves (N : Nat)   (σ : Sg) : Option (Int32 × Sg) :=
  (X8_faultOfRequests N σ).bind fun r1 => (if r1 = (-1) then ((J9_min_7cf53 N (((gi σ 1 1) + 1) / 5) 8 σ).bind fun r5 => (X8_serves_l46 N (fun v3 v4 σ => X8_serves_j123 N v3 v4 σ) N r5 0 0 1 σ)) else ((X6_clear N σ).bind fun r25 => (some ((-1) - r1, r25))))
set_option maxRecDepth 100000 in
set_option maxHeartbeats 4000000 in
theorem X8_serves_ok {E : Ev}  {N : Nat}  {σ : Sg} {r : Int32 × Sg} (h : X8_serves N   σ = some r) : Cm E (4) yX8_serves cX8_serves 8 (some .int) [.ref 0] SH0 SH0 σ r.2 (some (.int r.1)) 0 0 := by
  refine Cm.intro (by decide +kernel) (Nat.le_of_ble_eq_true rfl) (fun _ h => by obtain ⟨_, _, _, _, _, _, h⟩ := h; exact h) (fun Z C hE => ?_)
  show Wm E Z 0 0 SH0 σ 0 [(0, .ref 0)] []
  unfold X8_serves at h
  refine r_aload_n (pc' := 1) C dX8_serves_0 rfl 0 rfl ?_
  obtain ⟨r1, e2, h⟩ := bd h
  refine r_cV1 (pc' := 4) C (X8_faultOfRequests_ok  e2) mlX8_321 ceX8_faultOfRequests cvX8_faultOfRequests sh_0 rfl rfl rfl (Nat.le_of_ble_eq_true rfl) rfl (Nat.le_of_ble_eq_true rfl) dX8_serves_1 rfl (kk := ?_)
  refine r_istore_n (pc' := 5) (lv2 := [(1, .int r1), (0, .ref 0)]) C dX8_serves_4 rfl rfl (Nat.le_of_ble_eq_true rfl) rfl ?_
  refine r_iload_n (pc' := 6) C dX8_serves_5 rfl 0 rfl ?_
  refine r_iconst (pc' := 7) C dX8_serves_6 rfl kc_m1 ?_
  refine r_icmp_eq (tgt := 21) (pc' := 10) C dX8_serves_7 rfl rfl (fun c3 => ?_) (fun c3 => ?_)
  · rw [if_pos c3] at h
    refine r_aload_n (pc' := 22) C dX8_serves_21 rfl 1 rfl ?_
    refine r_getR (pc' := 25) C flX8_10 sh_0 rfl dX8_serves_22 rfl ?_
    refine r_getI (pc' := 28) C flX8_96 sh_1 rfl dX8_serves_25 rfl ?_
    refine r_iconst (pc' := 29) C dX8_serves_28 rfl kc_1 ?_
    refine r_iadd (pc' := 30) C dX8_serves_29 rfl ?_
    refine r_iconst (pc' := 31) C dX8_serves_30 rfl kc_5 ?_
    refine r_idiv (pc' := 32) C dX8_serves_31 rfl (by decide) ?_
    refine r_bipush (pc' := 34) C dX8_serves_32 rfl kb_8 ?_
    obtain ⟨r5, e6, h⟩ := bd h
    refine r_cS1 (pc' := 37) C (J9_min_7cf53_ok  e6) mlX8_310 ceJ9_min_7cf53 csJ9_min_7cf53 rfl (Nat.le_of_ble_eq_true rfl) rfl (Nat.le_of_ble_eq_true rfl) dX8_serves_34 rfl (kk := ?_)
    refine r_istore_n (pc' := 38) (lv2 := [(2, .int r5), (1, .int r1), (0, .ref 0)]) C dX8_serves_37 rfl rfl (Nat.le_of_ble_eq_true rfl) rfl ?_
    refine r_iconst (pc' := 39) C dX8_serves_38 rfl kc_0 ?_
    refine r_istore_n (pc' := 40) (lv2 := [(3, .int 0), (2, .int r5), (1, .int r1), (0, .ref 0)]) C dX8_serves_39 rfl rfl (Nat.le_of_ble_eq_true rfl) rfl ?_
    refine r_iconst (pc' := 41) C dX8_serves_40 rfl kc_0 ?_
    refine r_istore (pc' := 43) (lv2 := [(4, .int 0), (3, .int 0), (2, .int r5), (1, .int r1), (0, .ref 0)]) C dX8_serves_41 rfl (Nat.le_of_ble_eq_true rfl) rfl ?_
    refine r_iconst (pc' := 44) C dX8_serves_43 rfl kc_1 ?_
    refine r_istore (pc' := 46) (lv2 := [(5, .int 1), (4, .int 0), (3, .int 0), (2, .int r5), (1, .int r1), (0, .ref 0)]) C dX8_serves_44 rfl (Nat.le_of_ble_eq_true rfl) rfl ?_
    refine r_sub [5, 3, 2, 1, 0] rfl ?_
    exact X8_serves_l46_ok  (fun _ _ _ _ h Z C hE => by exact X8_serves_j123_ok  h Z C hE) N _ _ _ _ _ _ h Z C hE
  · rw [if_neg c3] at h
    refine r_aload_n (pc' := 11) C dX8_serves_10 rfl 1 rfl ?_
    refine r_getR (pc' := 14) C flX8_10 sh_0 rfl dX8_serves_11 rfl ?_
    obtain ⟨r25, e26, h⟩ := bd h
    refine r_cV0 (pc' := 17) C (X6_clear_ok  e26) mlX8_111 ceX6_clear cvX6_clear sh_1 rfl rfl rfl (Nat.le_of_ble_eq_true rfl) rfl (Nat.le_of_ble_eq_true rfl) dX8_serves_14 rfl (kk := ?_)
    refine r_iconst (pc' := 18) C dX8_serves_17 rfl kc_m1 ?_
    refine r_iload_n (pc' := 19) C dX8_serves_18 rfl 0 rfl ?_
    refine r_isub (pc' := 20) C dX8_serves_19 rfl ?_
    have h := Option.some.inj h
    subst h
    exact r_ret C rfl dX8_serves_20 hE
