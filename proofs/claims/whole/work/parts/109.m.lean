/-! BorrowedWeightModel.faultOf(IIZ)I -/
def X9_faultOf_j44 (N : Nat)   (v4 : Int32) (σ : Sg) : Option (Int32) :=
  if v4 = 0 then (some ((-1) - (gi σ 149 12))) else (some 0)
set_option maxRecDepth 100000 in
set_option maxHeartbeats 4000000 in
theorem X9_faultOf_j44_ok {E : Ev}  {N : Nat}  {σ : Sg}   {v4 : Int32} {r : Int32} (h : X9_faultOf_j44 N   v4 σ = some r) : Gp E RX9 cX9_faultOf (some .int) 5 (0) SH0 σ (some (.int r)) σ 44 [(0, .ref 149), (4, .int v4)] [] := by
  intro Z C hE
  unfold X9_faultOf_j44 at h
  refine r_iload (pc' := 46) C dX9_faultOf_44 rfl 1 rfl ?_
  refine r_if_eq (tgt := 53) (pc' := 49) C dX9_faultOf_46 rfl rfl (fun c3 => ?_) (fun c3 => ?_)
  · rw [if_pos c3] at h
    refine r_iconst (pc' := 54) C dX9_faultOf_53 rfl kc_m1 ?_
    refine r_aload_n (pc' := 55) C dX9_faultOf_54 rfl 0 rfl ?_
    refine r_getI (pc' := 58) C flX9_144 sh_149 rfl dX9_faultOf_55 rfl ?_
    refine r_isub (pc' := 59) C dX9_faultOf_58 rfl ?_
    have h := Option.some.inj h
    subst h
    exact r_ret C rfl dX9_faultOf_59 hE
  · rw [if_neg c3] at h
    refine r_iconst (pc' := 50) C dX9_faultOf_49 rfl kc_0 ?_
    refine r_goto (tgt := 59) C dX9_faultOf_50 rfl ?_
    have h := Option.some.inj h
    subst h
    exact r_ret C rfl dX9_faultOf_59 hE
def X9_faultOf_j20 (N : Nat)   (v1 : Int32) (v2 : Int32) (s0 : Int32) (σ : Sg) : Option (Int32) :=
  if v1 ≤ v2 then (X9_faultOf_j44 N s0 σ) else (if s0 = 0 then (if (gi σ 149 12) < v2 then (X9_faultOf_j44 N s0 σ) else (some ((-1) - v2))) else (some ((-1) - v2)))
set_option maxRecDepth 100000 in
set_option maxHeartbeats 4000000 in
theorem X9_faultOf_j20_ok {E : Ev}  {N : Nat}  {σ : Sg}   {v1 : Int32} {v2 : Int32} {s0 : Int32} {r : Int32} (h : X9_faultOf_j20 N   v1 v2 s0 σ = some r) : Gp E RX9 cX9_faultOf (some .int) 5 (0) SH0 σ (some (.int r)) σ 20 [(0, .ref 149), (1, .int v1), (2, .int v2)] [.int s0] := by
  intro Z C hE
  unfold X9_faultOf_j20 at h
  refine r_istore (pc' := 22) (lv2 := [(4, .int s0), (0, .ref 149), (1, .int v1), (2, .int v2)]) C dX9_faultOf_20 rfl (Nat.le_of_ble_eq_true rfl) rfl ?_
  refine r_iload_n (pc' := 23) C dX9_faultOf_22 rfl 2 rfl ?_
  refine r_iload_n (pc' := 24) C dX9_faultOf_23 rfl 3 rfl ?_
  refine r_icmp_le (tgt := 44) (pc' := 27) C dX9_faultOf_24 rfl rfl (fun c2 => ?_) (fun c2 => ?_)
  · rw [if_pos c2] at h
    refine r_sub [1, 0] rfl ?_
    exact X9_faultOf_j44_ok  h Z C hE
  · rw [if_neg c2] at h
    refine r_iload (pc' := 29) C dX9_faultOf_27 rfl 0 rfl ?_
    refine r_if_ne (tgt := 40) (pc' := 32) C dX9_faultOf_29 rfl rfl (fun c4 => ?_) (fun c4 => ?_)
    · rw [if_neg c4] at h
      refine r_iconst (pc' := 41) C dX9_faultOf_40 rfl kc_m1 ?_
      refine r_iload_n (pc' := 42) C dX9_faultOf_41 rfl 3 rfl ?_
      refine r_isub (pc' := 43) C dX9_faultOf_42 rfl ?_
      have h := Option.some.inj h
      subst h
      exact r_ret C rfl dX9_faultOf_43 hE
    · rw [if_pos c4] at h
      refine r_aload_n (pc' := 33) C dX9_faultOf_32 rfl 1 rfl ?_
      refine r_getI (pc' := 36) C flX9_144 sh_149 rfl dX9_faultOf_33 rfl ?_
      refine r_iload_n (pc' := 37) C dX9_faultOf_36 rfl 3 rfl ?_
      refine r_icmp_lt (tgt := 44) (pc' := 40) C dX9_faultOf_37 rfl rfl (fun c5 => ?_) (fun c5 => ?_)
      · rw [if_pos c5] at h
        refine r_sub [1, 0] rfl ?_
        exact X9_faultOf_j44_ok  h Z C hE
      · rw [if_neg c5] at h
        refine r_iconst (pc' := 41) C dX9_faultOf_40 rfl kc_m1 ?_
        refine r_iload_n (pc' := 42) C dX9_faultOf_41 rfl 3 rfl ?_
        refine r_isub (pc' := 43) C dX9_faultOf_42 rfl ?_
        have h := Option.some.inj h
        subst h
        exact r_ret C rfl dX9_faultOf_43 hE
def X9_faultOf (N : Nat)  (v1 : Int32) (v2 : Int32) (v3 : Int32) (σ : Sg) : Option (Int32) :=
  if v3 = 0 then (X9_faultOf_j20 N v1 v2 0 σ) else (if (gi σ 149 12) = (gi σ 149 13) then (X9_faultOf_j20 N v1 v2 1 σ) else (X9_faultOf_j20 N v1 v2 0 σ))
set_option maxRecDepth 100000 in
set_option maxHeartbeats 4000000 in
theorem X9_faultOf_ok {E : Ev}  {N : Nat} {v1 : Int32} {v2 : Int32} {v3 : Int32} {σ : Sg} {r : Int32} (h : X9_faultOf N  v1 v2 v3 σ = some r) : Cm E (0) yX9_faultOf cX9_faultOf 5 (some .int) [.ref 149, .int v1, .int v2, .int v3] SH0 SH0 σ σ (some (.int r)) 0 0 := by
  refine Cm.intro (by decide +kernel) (Nat.le_of_ble_eq_true rfl) (fun _ h => by obtain ⟨_, _, _, _, _, _, h⟩ := h; exact h) (fun Z C hE => ?_)
  show Wm E Z 0 0 SH0 σ 0 [(0, .ref 149), (1, .int v1), (2, .int v2), (3, .int v3)] []
  unfold X9_faultOf at h
  refine r_iload_n (pc' := 1) C dX9_faultOf_0 rfl 3 rfl ?_
  refine r_if_eq (tgt := 19) (pc' := 4) C dX9_faultOf_1 rfl rfl (fun c1 => ?_) (fun c1 => ?_)
  · rw [if_pos c1] at h
    refine r_iconst (pc' := 20) C dX9_faultOf_19 rfl kc_0 ?_
    refine r_sub [0, 1, 2] rfl ?_
    exact X9_faultOf_j20_ok  h Z C hE
  · rw [if_neg c1] at h
    refine r_aload_n (pc' := 5) C dX9_faultOf_4 rfl 0 rfl ?_
    refine r_getI (pc' := 8) C flX9_144 sh_149 rfl dX9_faultOf_5 rfl ?_
    refine r_aload_n (pc' := 9) C dX9_faultOf_8 rfl 0 rfl ?_
    refine r_getI (pc' := 12) C flX9_156 sh_149 rfl dX9_faultOf_9 rfl ?_
    refine r_icmp_ne (tgt := 19) (pc' := 15) C dX9_faultOf_12 rfl rfl (fun c6 => ?_) (fun c6 => ?_)
    · rw [if_neg c6] at h
      refine r_iconst (pc' := 20) C dX9_faultOf_19 rfl kc_0 ?_
      refine r_sub [0, 1, 2] rfl ?_
      exact X9_faultOf_j20_ok  h Z C hE
    · rw [if_pos c6] at h
      refine r_iconst (pc' := 16) C dX9_faultOf_15 rfl kc_1 ?_
      refine r_goto (tgt := 20) C dX9_faultOf_16 rfl ?_
      refine r_sub [0, 1, 2] rfl ?_
      exact X9_faultOf_j20_ok  h Z C hE

/-! BorrowedWeightModel.things()I -/
def X9_things_j84 (N : Nat)  (kr : Int32 → Int32 → Int32 → Sg → Option (Int32 × Sg)) (v1 : Int32) (s0 : Int32) (σ : Sg) : Option (Int32 × Sg) :=
  (X9_flag N s0 σ).bind fun r15 => (bnS (wi σ 149 16 ((gi σ 149 16) + r15)) fun σ17 => if s0 = 0 then (kr v1 s0 0 σ17) else ((X9_takes N 59 σ17).bind fun r20 => (if r20.1 = 0 then (kr v1 s0 0 r20.2) else (kr v1 s0 1 r20.2))))
set_option maxRecDepth 100000 in
set_option maxHeartbeats 4000000 in
theorem X9_things_j84_ok {E : Ev}  {N : Nat} {kr : Int32 → Int32 → Int32 → Sg → Option (Int32 × Sg)}  (hkr : ∀ (v1 : Int32) (v2 : Int32) (v3 : Int32) (σ : Sg) (r : Int32 × Sg), kr v1 v2 v3 σ = some r → Gp E RX9 cX9_things (some .int) 6 (2) SH0 r.2 (some (.int r.1)) σ 29 [(0, .ref 149), (1, .int v1), (2, .int v2), (3, .int v3)] []) {v1 : Int32} {s0 : Int32} {σ : Sg} {r : Int32 × Sg} (h : X9_things_j84 N  kr v1 s0 σ = some r) : Gp E RX9 cX9_things (some .int) 6 (2) SH0 r.2 (some (.int r.1)) σ 84 [(0, .ref 149), (1, .int v1)] [.int s0] := by
  intro Z C hE
  unfold X9_things_j84 at h
  refine r_istore_n (pc' := 85) (lv2 := [(2, .int s0), (0, .ref 149), (1, .int v1)]) C dX9_things_84 rfl rfl (Nat.le_of_ble_eq_true rfl) rfl ?_
  refine r_aload_n (pc' := 86) C dX9_things_85 rfl 1 rfl ?_
  refine r_dup (pc' := 87) C dX9_things_86 rfl rfl ?_
  refine r_getI (pc' := 90) C flX9_183 sh_149 rfl dX9_things_87 rfl ?_
  refine r_iload_n (pc' := 91) C dX9_things_90 rfl 0 rfl ?_
  obtain ⟨r15, e16, h⟩ := bd h
  refine r_cS1 (pc' := 94) C (X9_flag_ok  e16) mlX9_159 ceX9_flag csX9_flag rfl (Nat.le_of_ble_eq_true rfl) rfl (Nat.le_of_ble_eq_true rfl) dX9_things_91 rfl (kk := ?_)
  refine r_iadd (pc' := 95) C dX9_things_94 rfl ?_
  obtain ⟨σ17, e18, h⟩ := bs h
  refine r_putI (pc' := 98) (σ1 := σ17) C fpX9_183 sh_149 rfl rfl rfl dX9_things_95 rfl e18 ?_
  refine r_iload_n (pc' := 99) C dX9_things_98 rfl 0 rfl ?_
  refine r_if_eq (tgt := 115) (pc' := 102) C dX9_things_99 rfl rfl (fun c19 => ?_) (fun c19 => ?_)
  · rw [if_pos c19] at h
    refine r_iconst (pc' := 116) C dX9_things_115 rfl kc_0 ?_
    refine r_istore_n (pc' := 117) (lv2 := [(3, .int 0), (2, .int s0), (0, .ref 149), (1, .int v1)]) C dX9_things_116 rfl rfl (Nat.le_of_ble_eq_true rfl) rfl ?_
    refine r_goto (tgt := 29) C dX9_things_117 rfl ?_
    refine r_sub [2, 3, 1, 0] rfl ?_
    exact hkr _ _ _ _ _ h Z C hE
  · rw [if_neg c19] at h
    refine r_aload_n (pc' := 103) C dX9_things_102 rfl 1 rfl ?_
    refine r_bipush (pc' := 105) C dX9_things_103 rfl kb_59 ?_
    obtain ⟨r20, e21, h⟩ := bd h
    refine r_cV1 (pc' := 108) C (X9_takes_ok  e21) mlX9_189 ceX9_takes cvX9_takes sh_149 rfl rfl rfl (Nat.le_of_ble_eq_true rfl) rfl (Nat.le_of_ble_eq_true rfl) dX9_things_105 rfl (kk := ?_)
    refine r_if_eq (tgt := 115) (pc' := 111) C dX9_things_108 rfl rfl (fun c22 => ?_) (fun c22 => ?_)
    · rw [if_pos c22] at h
      refine r_iconst (pc' := 116) C dX9_things_115 rfl kc_0 ?_
      refine r_istore_n (pc' := 117) (lv2 := [(3, .int 0), (2, .int s0), (0, .ref 149), (1, .int v1)]) C dX9_things_116 rfl rfl (Nat.le_of_ble_eq_true rfl) rfl ?_
      refine r_goto (tgt := 29) C dX9_things_117 rfl ?_
      refine r_sub [2, 3, 1, 0] rfl ?_
      exact hkr _ _ _ _ _ h Z C hE
    · rw [if_neg c22] at h
      refine r_iconst (pc' := 112) C dX9_things_111 rfl kc_1 ?_
      refine r_goto (tgt := 116) C dX9_things_112 rfl ?_
      refine r_istore_n (pc' := 117) (lv2 := [(3, .int 1), (2, .int s0), (0, .ref 149), (1, .int v1)]) C dX9_things_116 rfl rfl (Nat.le_of_ble_eq_true rfl) rfl ?_
      refine r_goto (tgt := 29) C dX9_things_117 rfl ?_
      refine r_sub [2, 3, 1, 0] rfl ?_
      exact hkr _ _ _ _ _ h Z C hE
def X9_things_j66 (N : Nat)  (kr : Int32 → Int32 → Int32 → Sg → Option (Int32 × Sg)) (v1 : Int32) (s0 : Int32) (s1 : Int32) (σ : Sg) : Option (Int32 × Sg) :=
  if inb s1 48 = true then bnS (wi σ 156 s1.toNatClampNeg s0) fun σ11 => if inb (gi σ11 149 16) 48 = true then if (gi σ11 156 (gi σ11 149 16).toNatClampNeg) ≤ 0 then (X9_things_j84 N kr v1 0 σ11) else (X9_things_j84 N kr v1 1 σ11) else none else none
set_option maxRecDepth 100000 in
set_option maxHeartbeats 4000000 in
theorem X9_things_j66_ok {E : Ev}  {N : Nat} {kr : Int32 → Int32 → Int32 → Sg → Option (Int32 × Sg)}  (hkr : ∀ (v1 : Int32) (v2 : Int32) (v3 : Int32) (σ : Sg) (r : Int32 × Sg), kr v1 v2 v3 σ = some r → Gp E RX9 cX9_things (some .int) 6 (2) SH0 r.2 (some (.int r.1)) σ 29 [(0, .ref 149), (1, .int v1), (2, .int v2), (3, .int v3)] []) {v1 : Int32} {s0 : Int32} {s1 : Int32} {σ : Sg} {r : Int32 × Sg} (h : X9_things_j66 N  kr v1 s0 s1 σ = some r) : Gp E RX9 cX9_things (some .int) 6 (2) SH0 r.2 (some (.int r.1)) σ 66 [(0, .ref 149), (1, .int v1)] [.int s0, .int s1, .ref 156] := by
  intro Z C hE
  unfold X9_things_j66 at h
  obtain ⟨q10, h⟩ := ck h
  obtain ⟨σ11, e12, h⟩ := bs h
  refine r_iast (pc' := 67) (σ1 := σ11) C sh_156 (vin q10) dX9_things_66 rfl e12 ?_
  refine r_aload_n (pc' := 68) C dX9_things_67 rfl 0 rfl ?_
  refine r_getR (pc' := 71) C flX9_43 sh_149 rfl dX9_things_68 rfl ?_
  refine r_aload_n (pc' := 72) C dX9_things_71 rfl 0 rfl ?_
  refine r_getI (pc' := 75) C flX9_183 sh_149 rfl dX9_things_72 rfl ?_
  obtain ⟨q13, h⟩ := ck h
  refine r_iald (pc' := 76) C sh_156 (vin q13) dX9_things_75 rfl ?_
  refine r_if_le (tgt := 83) (pc' := 79) C dX9_things_76 rfl rfl (fun c14 => ?_) (fun c14 => ?_)
  · rw [if_pos c14] at h
    refine r_iconst (pc' := 84) C dX9_things_83 rfl kc_0 ?_
    exact X9_things_j84_ok  hkr h Z C hE
  · rw [if_neg c14] at h
    refine r_iconst (pc' := 80) C dX9_things_79 rfl kc_1 ?_
    refine r_goto (tgt := 84) C dX9_things_80 rfl ?_
    exact X9_things_j84_ok  hkr h Z C hE
def X9_things_l29 (N : Nat)  (k120 : Int32 → Int32 → Sg → Option (Int32 × Sg))  : Nat → Int32 → Int32 → Int32 → Sg → Option (Int32 × Sg)
  | 0, _, _, _, _ => none
  | n + 1, v1, v2, v3, σ =>
    if v3 = 0 then (k120 v1 v2 σ) else (if 8 ≤ ((gi σ 149 3) + (gi σ 149 16)) then (X9_things_j66 N (fun v1 v2 v3 σ => X9_things_l29 N k120 n v1 v2 v3 σ) v1 (-1) (gi σ 149 16) σ) else ((X9_digitIn N 1 9 σ).bind fun r23 => (X9_things_j66 N (fun v1 v2 v3 σ => X9_things_l29 N k120 n v1 v2 v3 σ) v1 r23.1 (gi σ 149 16) r23.2)))
set_option maxRecDepth 100000 in
set_option maxHeartbeats 4000000 in
theorem X9_things_l29_ok {E : Ev}  {N : Nat} {k120 : Int32 → Int32 → Sg → Option (Int32 × Sg)}  (hk120 : ∀ (v1 : Int32) (v2 : Int32) (σ : Sg) (r : Int32 × Sg), k120 v1 v2 σ = some r → Gp E RX9 cX9_things (some .int) 6 (2) SH0 r.2 (some (.int r.1)) σ 120 [(0, .ref 149), (1, .int v1), (2, .int v2)] []) : ∀ (n : Nat) (v1 : Int32) (v2 : Int32) (v3 : Int32) (σ : Sg) (r : Int32 × Sg), X9_things_l29 N k120 n v1 v2 v3 σ = some r → Gp E RX9 cX9_things (some .int) 6 (2) SH0 r.2 (some (.int r.1)) σ 29 [(0, .ref 149), (1, .int v1), (2, .int v2), (3, .int v3)] [] := by
  intro n
  induction n with
  | zero => intro v1 v2 v3 σ r h; cases h
  | succ n ih =>
    intro v1 v2 v3 σ r h Z C hE
    unfold X9_things_l29 at h
    refine r_iload_n (pc' := 30) C dX9_things_29 rfl 3 rfl ?_
    refine r_if_eq (tgt := 120) (pc' := 33) C dX9_things_30 rfl rfl (fun c8 => ?_) (fun c8 => ?_)
    · rw [if_pos c8] at h
      refine r_sub [0, 1, 2] rfl ?_
      exact hk120 _ _ _ _ h Z C hE
    · rw [if_neg c8] at h
      refine r_aload_n (pc' := 34) C dX9_things_33 rfl 0 rfl ?_
      refine r_getR (pc' := 37) C flX9_43 sh_149 rfl dX9_things_34 rfl ?_
      refine r_aload_n (pc' := 38) C dX9_things_37 rfl 0 rfl ?_
      refine r_getI (pc' := 41) C flX9_183 sh_149 rfl dX9_things_38 rfl ?_
      refine r_aload_n (pc' := 42) C dX9_things_41 rfl 0 rfl ?_
      refine r_getI (pc' := 45) C flX9_116 sh_149 rfl dX9_things_42 rfl ?_
      refine r_aload_n (pc' := 46) C dX9_things_45 rfl 0 rfl ?_
      refine r_getI (pc' := 49) C flX9_183 sh_149 rfl dX9_things_46 rfl ?_
      refine r_iadd (pc' := 50) C dX9_things_49 rfl ?_
      refine r_bipush (pc' := 52) C dX9_things_50 rfl kb_8 ?_
      refine r_icmp_ge (tgt := 65) (pc' := 55) C dX9_things_52 rfl rfl (fun c9 => ?_) (fun c9 => ?_)
      · rw [if_pos c9] at h
        refine r_iconst (pc' := 66) C dX9_things_65 rfl kc_m1 ?_
        refine r_sub [0, 1] rfl ?_
        exact X9_things_j66_ok  ih h Z C hE
      · rw [if_neg c9] at h
        refine r_aload_n (pc' := 56) C dX9_things_55 rfl 0 rfl ?_
        refine r_iconst (pc' := 57) C dX9_things_56 rfl kc_1 ?_
        refine r_bipush (pc' := 59) C dX9_things_57 rfl kb_9 ?_
        obtain ⟨r23, e24, h⟩ := bd h
        refine r_cV1 (pc' := 62) C (X9_digitIn_ok  e24) mlX9_186 ceX9_digitIn cvX9_digitIn sh_149 rfl rfl rfl (Nat.le_of_ble_eq_true rfl) rfl (Nat.le_of_ble_eq_true rfl) dX9_things_59 rfl (kk := ?_)
        refine r_goto (tgt := 66) C dX9_things_62 rfl ?_
        refine r_sub [0, 1] rfl ?_
        exact X9_things_j66_ok  ih h Z C hE
def X9_things_l141 (N : Nat)  (k231 : Sg → Option (Int32 × Sg))  : Nat → Int32 → Sg → Option (Int32 × Sg)
  | 0, _, _ => none
  | n + 1, v5, σ =>
    if (gi σ 149 16) ≤ v5 then (k231 σ) else (if inb v5 48 = true then if inb (gi σ 149 3) 8 = true then bnS (wi σ 151 (gi σ 149 3).toNatClampNeg (gi σ 156 v5.toNatClampNeg)) fun σ31 => if inb (gi σ31 149 3) 37 = true then bnS (wi σ31 153 (gi σ31 149 3).toNatClampNeg 0) fun σ34 => if inb (8 + (gi σ34 149 3)) 37 = true then bnS (wi σ34 153 (8 + (gi σ34 149 3)).toNatClampNeg 0) fun σ37 => if inb (16 + (gi σ37 149 3)) 37 = true then bnS (wi σ37 153 (16 + (gi σ37 149 3)).toNatClampNeg 0) fun σ40 => if inb (24 + (gi σ40 149 3)) 37 = true then bnS (wi σ40 153 (24 + (gi σ40 149 3)).toNatClampNeg 0) fun σ43 => bnS (wi σ43 149 3 ((gi σ43 149 3) + 1)) fun σ45 => X9_things_l141 N k231 n (v5 + 1) σ45 else none else none else none else none else none else none)
set_option maxRecDepth 100000 in
set_option maxHeartbeats 4000000 in
theorem X9_things_l141_ok {E : Ev}  {N : Nat} {k231 : Sg → Option (Int32 × Sg)}  (hk231 : ∀ (σ : Sg) (r : Int32 × Sg), k231 σ = some r → Gp E RX9 cX9_things (some .int) 6 (2) SH0 r.2 (some (.int r.1)) σ 231 [(0, .ref 149)] []) : ∀ (n : Nat) (v5 : Int32) (σ : Sg) (r : Int32 × Sg), X9_things_l141 N k231 n v5 σ = some r → Gp E RX9 cX9_things (some .int) 6 (2) SH0 r.2 (some (.int r.1)) σ 141 [(0, .ref 149), (5, .int v5)] [] := by
  intro n
  induction n with
  | zero => intro v5 σ r h; cases h
  | succ n ih =>
    intro v5 σ r h Z C hE
    unfold X9_things_l141 at h
    refine r_iload (pc' := 143) C dX9_things_141 rfl 1 rfl ?_
    refine r_aload_n (pc' := 144) C dX9_things_143 rfl 0 rfl ?_
    refine r_getI (pc' := 147) C flX9_183 sh_149 rfl dX9_things_144 rfl ?_
    refine r_icmp_ge (tgt := 231) (pc' := 150) C dX9_things_147 rfl rfl (fun c28 => ?_) (fun c28 => ?_)
    · rw [if_pos c28] at h
      refine r_sub [0] rfl ?_
      exact hk231 _ _ h Z C hE
    · rw [if_neg c28] at h
      refine r_aload_n (pc' := 151) C dX9_things_150 rfl 0 rfl ?_
      refine r_getR (pc' := 154) C flX9_27 sh_149 rfl dX9_things_151 rfl ?_
      refine r_aload_n (pc' := 155) C dX9_things_154 rfl 0 rfl ?_
      refine r_getI (pc' := 158) C flX9_116 sh_149 rfl dX9_things_155 rfl ?_
      refine r_aload_n (pc' := 159) C dX9_things_158 rfl 0 rfl ?_
      refine r_getR (pc' := 162) C flX9_43 sh_149 rfl dX9_things_159 rfl ?_
      refine r_iload (pc' := 164) C dX9_things_162 rfl 1 rfl ?_
      obtain ⟨q29, h⟩ := ck h
      refine r_iald (pc' := 165) C sh_156 (vin q29) dX9_things_164 rfl ?_
      obtain ⟨q30, h⟩ := ck h
      obtain ⟨σ31, e32, h⟩ := bs h
      refine r_iast (pc' := 166) (σ1 := σ31) C sh_151 (vin q30) dX9_things_165 rfl e32 ?_
      refine r_aload_n (pc' := 167) C dX9_things_166 rfl 0 rfl ?_
      refine r_getR (pc' := 170) C flX9_34 sh_149 rfl dX9_things_167 rfl ?_
      refine r_aload_n (pc' := 171) C dX9_things_170 rfl 0 rfl ?_
      refine r_getI (pc' := 174) C flX9_116 sh_149 rfl dX9_things_171 rfl ?_
      refine r_iconst (pc' := 175) C dX9_things_174 rfl kc_0 ?_
      obtain ⟨q33, h⟩ := ck h
      obtain ⟨σ34, e35, h⟩ := bs h
      refine r_iast (pc' := 176) (σ1 := σ34) C sh_153 (vin q33) dX9_things_175 rfl e35 ?_
      refine r_aload_n (pc' := 177) C dX9_things_176 rfl 0 rfl ?_
      refine r_getR (pc' := 180) C flX9_34 sh_149 rfl dX9_things_177 rfl ?_
      refine r_bipush (pc' := 182) C dX9_things_180 rfl kb_8 ?_
      refine r_aload_n (pc' := 183) C dX9_things_182 rfl 0 rfl ?_
      refine r_getI (pc' := 186) C flX9_116 sh_149 rfl dX9_things_183 rfl ?_
      refine r_iadd (pc' := 187) C dX9_things_186 rfl ?_
      refine r_iconst (pc' := 188) C dX9_things_187 rfl kc_0 ?_
      obtain ⟨q36, h⟩ := ck h
      obtain ⟨σ37, e38, h⟩ := bs h
      refine r_iast (pc' := 189) (σ1 := σ37) C sh_153 (vin q36) dX9_things_188 rfl e38 ?_
      refine r_aload_n (pc' := 190) C dX9_things_189 rfl 0 rfl ?_
      refine r_getR (pc' := 193) C flX9_34 sh_149 rfl dX9_things_190 rfl ?_
      refine r_bipush (pc' := 195) C dX9_things_193 rfl kb_16 ?_
      refine r_aload_n (pc' := 196) C dX9_things_195 rfl 0 rfl ?_
      refine r_getI (pc' := 199) C flX9_116 sh_149 rfl dX9_things_196 rfl ?_
      refine r_iadd (pc' := 200) C dX9_things_199 rfl ?_
      refine r_iconst (pc' := 201) C dX9_things_200 rfl kc_0 ?_
      obtain ⟨q39, h⟩ := ck h
      obtain ⟨σ40, e41, h⟩ := bs h
      refine r_iast (pc' := 202) (σ1 := σ40) C sh_153 (vin q39) dX9_things_201 rfl e41 ?_
      refine r_aload_n (pc' := 203) C dX9_things_202 rfl 0 rfl ?_
      refine r_getR (pc' := 206) C flX9_34 sh_149 rfl dX9_things_203 rfl ?_
      refine r_bipush (pc' := 208) C dX9_things_206 rfl kb_24 ?_
      refine r_aload_n (pc' := 209) C dX9_things_208 rfl 0 rfl ?_
      refine r_getI (pc' := 212) C flX9_116 sh_149 rfl dX9_things_209 rfl ?_
      refine r_iadd (pc' := 213) C dX9_things_212 rfl ?_
      refine r_iconst (pc' := 214) C dX9_things_213 rfl kc_0 ?_
      obtain ⟨q42, h⟩ := ck h
      obtain ⟨σ43, e44, h⟩ := bs h
      refine r_iast (pc' := 215) (σ1 := σ43) C sh_153 (vin q42) dX9_things_214 rfl e44 ?_
      refine r_aload_n (pc' := 216) C dX9_things_215 rfl 0 rfl ?_
      refine r_dup (pc' := 217) C dX9_things_216 rfl rfl ?_
      refine r_getI (pc' := 220) C flX9_116 sh_149 rfl dX9_things_217 rfl ?_
      refine r_iconst (pc' := 221) C dX9_things_220 rfl kc_1 ?_
      refine r_iadd (pc' := 222) C dX9_things_221 rfl ?_
      obtain ⟨σ45, e46, h⟩ := bs h
      refine r_putI (pc' := 225) (σ1 := σ45) C fpX9_116 sh_149 rfl rfl rfl dX9_things_222 rfl e46 ?_
      refine r_iinc (pc' := 228) (v := v5 + 1) (lv2 := [(5, .int (v5 + 1)), (0, .ref 149)]) C dX9_things_225 rfl 1 rfl rfl (Nat.le_of_ble_eq_true rfl) rfl ?_
      refine r_goto (tgt := 141) C dX9_things_228 rfl ?_
      refine r_sub [1, 0] rfl ?_
      exact ih _ _ _ h Z C hE
def X9_things_j267 (N : Nat)   (s0 : Int32) (s1 : Int32) (σ : Sg) : Option (Int32 × Sg) :=
  (X9_flag N s0 σ).bind fun r51 => (bnS (wi σ 149 4 (s1 + r51)) fun σ53 => some (gi σ53 149 16, σ53))
set_option maxRecDepth 100000 in
set_option maxHeartbeats 4000000 in
theorem X9_things_j267_ok {E : Ev}  {N : Nat}    {s0 : Int32} {s1 : Int32} {σ : Sg} {r : Int32 × Sg} (h : X9_things_j267 N   s0 s1 σ = some r) : Gp E RX9 cX9_things (some .int) 6 (2) SH0 r.2 (some (.int r.1)) σ 267 [(0, .ref 149)] [.int s0, .int s1, .ref 149] := by
  intro Z C hE
  unfold X9_things_j267 at h
  obtain ⟨r51, e52, h⟩ := bd h
  refine r_cS1 (pc' := 270) C (X9_flag_ok  e52) mlX9_159 ceX9_flag csX9_flag rfl (Nat.le_of_ble_eq_true rfl) rfl (Nat.le_of_ble_eq_true rfl) dX9_things_267 rfl (kk := ?_)
  refine r_iadd (pc' := 271) C dX9_things_270 rfl ?_
  obtain ⟨σ53, e54, h⟩ := bs h
  refine r_putI (pc' := 274) (σ1 := σ53) C fpX9_199 sh_149 rfl rfl rfl dX9_things_271 rfl e54 ?_
  refine r_aload_n (pc' := 275) C dX9_things_274 rfl 0 rfl ?_
  refine r_getI (pc' := 278) C flX9_183 sh_149 rfl dX9_things_275 rfl ?_
  have h := Option.some.inj h
  subst h
  exact r_ret C rfl dX9_things_278 hE
def X9_things_j247 (N : Nat)   (s0 : Int32) (σ : Sg) : Option (Int32 × Sg) :=
  bnS (wi σ 149 23 s0) fun σ48 => if (gi σ48 149 16) ≤ 0 then (X9_things_j267 N 0 (gi σ48 149 4) σ48) else (X9_things_j267 N 1 (gi σ48 149 4) σ48)
set_option maxRecDepth 100000 in
set_option maxHeartbeats 4000000 in
theorem X9_things_j247_ok {E : Ev}  {N : Nat}    {s0 : Int32} {σ : Sg} {r : Int32 × Sg} (h : X9_things_j247 N   s0 σ = some r) : Gp E RX9 cX9_things (some .int) 6 (2) SH0 r.2 (some (.int r.1)) σ 247 [(0, .ref 149)] [.int s0, .ref 149] := by
  intro Z C hE
  unfold X9_things_j247 at h
  obtain ⟨σ48, e49, h⟩ := bs h
  refine r_putI (pc' := 250) (σ1 := σ48) C fpX9_196 sh_149 rfl rfl rfl dX9_things_247 rfl e49 ?_
  refine r_aload_n (pc' := 251) C dX9_things_250 rfl 0 rfl ?_
  refine r_dup (pc' := 252) C dX9_things_251 rfl rfl ?_
  refine r_getI (pc' := 255) C flX9_199 sh_149 rfl dX9_things_252 rfl ?_
  refine r_aload_n (pc' := 256) C dX9_things_255 rfl 0 rfl ?_
  refine r_getI (pc' := 259) C flX9_183 sh_149 rfl dX9_things_256 rfl ?_
  refine r_if_le (tgt := 266) (pc' := 262) C dX9_things_259 rfl rfl (fun c50 => ?_) (fun c50 => ?_)
  · rw [if_pos c50] at h
    refine r_iconst (pc' := 267) C dX9_things_266 rfl kc_0 ?_
    exact X9_things_j267_ok  h Z C hE
  · rw [if_neg c50] at h
    refine r_iconst (pc' := 263) C dX9_things_262 rfl kc_1 ?_
    refine r_goto (tgt := 267) C dX9_things_263 rfl ?_
    exact X9_things_j267_ok  h Z C hE
def X9_things_j231 (N : Nat)    (σ : Sg) : Option (Int32 × Sg) :=
  if (gi σ 149 16) ≤ 0 then (X9_things_j247 N (gi σ 149 23) σ) else (X9_things_j247 N 0 σ)
set_option maxRecDepth 100000 in
set_option maxHeartbeats 4000000 in
theorem X9_things_j231_ok {E : Ev}  {N : Nat}     {σ : Sg} {r : Int32 × Sg} (h : X9_things_j231 N    σ = some r) : Gp E RX9 cX9_things (some .int) 6 (2) SH0 r.2 (some (.int r.1)) σ 231 [(0, .ref 149)] [] := by
  intro Z C hE
  unfold X9_things_j231 at h
  refine r_aload_n (pc' := 232) C dX9_things_231 rfl 0 rfl ?_
  refine r_aload_n (pc' := 233) C dX9_things_232 rfl 0 rfl ?_
  refine r_getI (pc' := 236) C flX9_183 sh_149 rfl dX9_things_233 rfl ?_
  refine r_if_le (tgt := 243) (pc' := 239) C dX9_things_236 rfl rfl (fun c47 => ?_) (fun c47 => ?_)
  · rw [if_pos c47] at h
    refine r_aload_n (pc' := 244) C dX9_things_243 rfl 0 rfl ?_
    refine r_getI (pc' := 247) C flX9_196 sh_149 rfl dX9_things_244 rfl ?_
    exact X9_things_j247_ok  h Z C hE
  · rw [if_neg c47] at h
    refine r_iconst (pc' := 240) C dX9_things_239 rfl kc_0 ?_
    refine r_goto (tgt := 247) C dX9_things_240 rfl ?_
    exact X9_things_j247_ok  h Z C hE
def X9_things_j120 (N : Nat)   (v1 : Int32) (v2 : Int32) (σ : Sg) : Option (Int32 × Sg) :=
  (X9_faultOf N v1 15 v2 σ).bind fun r25 => (if 0 ≤ r25 then (X9_things_l141 N (fun σ => X9_things_j231 N σ) N 0 σ) else (some (r25, σ)))
set_option maxRecDepth 100000 in
set_option maxHeartbeats 4000000 in
theorem X9_things_j120_ok {E : Ev}  {N : Nat}    {v1 : Int32} {v2 : Int32} {σ : Sg} {r : Int32 × Sg} (h : X9_things_j120 N   v1 v2 σ = some r) : Gp E RX9 cX9_things (some .int) 6 (2) SH0 r.2 (some (.int r.1)) σ 120 [(0, .ref 149), (1, .int v1), (2, .int v2)] [] := by
  intro Z C hE
  unfold X9_things_j120 at h
  refine r_aload_n (pc' := 121) C dX9_things_120 rfl 0 rfl ?_
  refine r_iload_n (pc' := 122) C dX9_things_121 rfl 1 rfl ?_
  refine r_bipush (pc' := 124) C dX9_things_122 rfl kb_15 ?_
  refine r_iload_n (pc' := 125) C dX9_things_124 rfl 2 rfl ?_
  obtain ⟨r25, e26, h⟩ := bd h
  refine r_cV1 (pc' := 128) C (X9_faultOf_ok  e26) mlX9_192 ceX9_faultOf cvX9_faultOf sh_149 rfl rfl rfl (Nat.le_of_ble_eq_true rfl) rfl (Nat.le_of_ble_eq_true rfl) dX9_things_125 rfl (kk := ?_)
  refine r_istore (pc' := 130) (lv2 := [(4, .int r25), (0, .ref 149), (1, .int v1), (2, .int v2)]) C dX9_things_128 rfl (Nat.le_of_ble_eq_true rfl) rfl ?_
  refine r_iload (pc' := 132) C dX9_things_130 rfl 0 rfl ?_
  refine r_if_ge (tgt := 138) (pc' := 135) C dX9_things_132 rfl rfl (fun c27 => ?_) (fun c27 => ?_)
  · rw [if_pos c27] at h
    refine r_iconst (pc' := 139) C dX9_things_138 rfl kc_0 ?_
    refine r_istore (pc' := 141) (lv2 := [(5, .int 0), (4, .int r25), (0, .ref 149), (1, .int v1), (2, .int v2)]) C dX9_things_139 rfl (Nat.le_of_ble_eq_true rfl) rfl ?_
    refine r_sub [2, 0] rfl ?_
    exact X9_things_l141_ok  (fun _ _ h Z C hE => by exact X9_things_j231_ok  h Z C hE) N _ _ _ h Z C hE
  · rw [if_neg c27] at h
    refine r_iload (pc' := 137) C dX9_things_135 rfl 0 rfl ?_
    have h := Option.some.inj h
    subst h
    exact r_ret C rfl dX9_things_137 hE
def X9_things (N : Nat)   (σ : Sg) : Option (Int32 × Sg) :=
  bnS (wi σ 149 0 0) fun σ1 => (X9_begins N 15 σ1).bind fun r3 => (bnS (wi r3.2 149 16 0) fun σ5 => if r3.1 ≤ 0 then (X9_things_l29 N (fun v1 v2 σ => X9_things_j120 N v1 v2 σ) N r3.1 1 0 σ5) else (X9_things_l29 N (fun v1 v2 σ => X9_things_j120 N v1 v2 σ) N r3.1 1 1 σ5))
set_option maxRecDepth 100000 in
set_option maxHeartbeats 4000000 in
theorem X9_things_ok {E : Ev}  {N : Nat}  {σ : Sg} {r : Int32 × Sg} (h : X9_things N   σ = some r) : Cm E (2) yX9_things cX9_things 6 (some .int) [.ref 149] SH0 SH0 σ r.2 (some (.int r.1)) 0 0 := by
  refine Cm.intro (by decide +kernel) (Nat.le_of_ble_eq_true rfl) (fun _ h => by obtain ⟨_, _, _, _, _, _, h⟩ := h; exact h) (fun Z C hE => ?_)
  show Wm E Z 0 0 SH0 σ 0 [(0, .ref 149)] []
  unfold X9_things at h
  refine r_aload_n (pc' := 1) C dX9_things_0 rfl 0 rfl ?_
  refine r_iconst (pc' := 2) C dX9_things_1 rfl kc_0 ?_
  obtain ⟨σ1, e2, h⟩ := bs h
  refine r_putI (pc' := 5) (σ1 := σ1) C fpX9_3 sh_149 rfl rfl rfl dX9_things_2 rfl e2 ?_
  refine r_aload_n (pc' := 6) C dX9_things_5 rfl 0 rfl ?_
  refine r_bipush (pc' := 8) C dX9_things_6 rfl kb_15 ?_
  obtain ⟨r3, e4, h⟩ := bd h
  refine r_cV1 (pc' := 11) C (X9_begins_ok  e4) mlX9_180 ceX9_begins cvX9_begins sh_149 rfl rfl rfl (Nat.le_of_ble_eq_true rfl) rfl (Nat.le_of_ble_eq_true rfl) dX9_things_8 rfl (kk := ?_)
  refine r_istore_n (pc' := 12) (lv2 := [(1, .int r3.1), (0, .ref 149)]) C dX9_things_11 rfl rfl (Nat.le_of_ble_eq_true rfl) rfl ?_
  refine r_aload_n (pc' := 13) C dX9_things_12 rfl 1 rfl ?_
  refine r_iconst (pc' := 14) C dX9_things_13 rfl kc_0 ?_
  obtain ⟨σ5, e6, h⟩ := bs h
  refine r_putI (pc' := 17) (σ1 := σ5) C fpX9_183 sh_149 rfl rfl rfl dX9_things_14 rfl e6 ?_
  refine r_iconst (pc' := 18) C dX9_things_17 rfl kc_1 ?_
  refine r_istore_n (pc' := 19) (lv2 := [(2, .int 1), (1, .int r3.1), (0, .ref 149)]) C dX9_things_18 rfl rfl (Nat.le_of_ble_eq_true rfl) rfl ?_
  refine r_iload_n (pc' := 20) C dX9_things_19 rfl 1 rfl ?_
  refine r_if_le (tgt := 27) (pc' := 23) C dX9_things_20 rfl rfl (fun c7 => ?_) (fun c7 => ?_)
  · rw [if_pos c7] at h
    refine r_iconst (pc' := 28) C dX9_things_27 rfl kc_0 ?_
    refine r_istore_n (pc' := 29) (lv2 := [(3, .int 0), (2, .int 1), (1, .int r3.1), (0, .ref 149)]) C dX9_things_28 rfl rfl (Nat.le_of_ble_eq_true rfl) rfl ?_
    refine r_sub [3, 2, 1, 0] rfl ?_
    exact X9_things_l29_ok  (fun _ _ _ _ h Z C hE => by exact X9_things_j120_ok  h Z C hE) N _ _ _ _ _ h Z C hE
  · rw [if_neg c7] at h
    refine r_iconst (pc' := 24) C dX9_things_23 rfl kc_1 ?_
    refine r_goto (tgt := 28) C dX9_things_24 rfl ?_
    refine r_istore_n (pc' := 29) (lv2 := [(3, .int 1), (2, .int 1), (1, .int r3.1), (0, .ref 149)]) C dX9_things_28 rfl rfl (Nat.le_of_ble_eq_true rfl) rfl ?_
    refine r_sub [3, 2, 1, 0] rfl ?_
    exact X9_things_l29_ok  (fun _ _ _ _ h Z C hE => by exact X9_things_j120_ok  h Z C hE) N _ _ _ _ _ h Z C hE

/-! BorrowedWeightModel.isThing(I)Z -/
def X9_isThing (N : Nat)  (v1 : Int32) (σ : Sg) : Option (Int32) :=
  (X9_in N v1.toInt64 0 (((gi σ 149 3) - 1).toInt64) σ).bind fun r1 => (if isB r1 = true then some r1 else none)
set_option maxRecDepth 100000 in
set_option maxHeartbeats 4000000 in
theorem X9_isThing_ok {E : Ev}  {N : Nat} {v1 : Int32} {σ : Sg} {r : Int32} (h : X9_isThing N  v1 σ = some r) : Cm E (1) yX9_isThing cX9_isThing 2 (some .boolean) [.ref 149, .int v1] SH0 SH0 σ σ (some (.int r)) 0 0 := by
  refine Cm.intro (by decide +kernel) (Nat.le_of_ble_eq_true rfl) (fun _ h => by obtain ⟨_, _, _, _, _, _, h⟩ := h; exact h) (fun Z C hE => ?_)
  show Wm E Z 0 0 SH0 σ 0 [(0, .ref 149), (1, .int v1)] []
  unfold X9_isThing at h
  refine r_iload_n (pc' := 1) C dX9_isThing_0 rfl 1 rfl ?_
  refine r_i2l (pc' := 2) C dX9_isThing_1 rfl rfl ?_
  refine r_lconst (pc' := 3) C dX9_isThing_2 rfl kl_0 ?_
  refine r_aload_n (pc' := 4) C dX9_isThing_3 rfl 0 rfl ?_
  refine r_getI (pc' := 7) C flX9_116 sh_149 rfl dX9_isThing_4 rfl ?_
  refine r_iconst (pc' := 8) C dX9_isThing_7 rfl kc_1 ?_
  refine r_isub (pc' := 9) C dX9_isThing_8 rfl ?_
  refine r_i2l (pc' := 10) C dX9_isThing_9 rfl rfl ?_
  obtain ⟨r1, e2, h⟩ := bd h
  refine r_cS1 (pc' := 13) C (X9_in_ok  e2) mlX9_119 ceX9_in csX9_in rfl (Nat.le_of_ble_eq_true rfl) rfl (Nat.le_of_ble_eq_true rfl) dX9_isThing_10 rfl (kk := ?_)
  obtain ⟨q3, h⟩ := ck h
  have h := Option.some.inj h
  subst h
  exact r_ret C (nisB q3) dX9_isThing_13 hE

/-! BorrowedWeightModel.has(II)Z -/
def X9_has (N : Nat)  (v0 : Int32) (v1 : Int32) (σ : Sg) : Option (Int32) :=
  if ((v0 >>> (v1 &&& 31)) &&& 1) = 1 then (some 1) else (some 0)
set_option maxRecDepth 100000 in
set_option maxHeartbeats 4000000 in
theorem X9_has_ok {E : Ev}  {N : Nat} {v0 : Int32} {v1 : Int32} {σ : Sg} {r : Int32} (h : X9_has N  v0 v1 σ = some r) : Cm E (0) yX9_has cX9_has 2 (some .boolean) [.int v0, .int v1] SH0 SH0 σ σ (some (.int r)) 0 0 := by
  refine Cm.intro (by decide +kernel) (Nat.le_of_ble_eq_true rfl) (fun _ h => by obtain ⟨_, _, _, _, _, _, h⟩ := h; exact h) (fun Z C hE => ?_)
  show Wm E Z 0 0 SH0 σ 0 [(0, .int v0), (1, .int v1)] []
  unfold X9_has at h
  refine r_iload_n (pc' := 1) C dX9_has_0 rfl 0 rfl ?_
  refine r_iload_n (pc' := 2) C dX9_has_1 rfl 1 rfl ?_
  refine r_ishr (pc' := 3) C dX9_has_2 rfl ?_
  refine r_iconst (pc' := 4) C dX9_has_3 rfl kc_1 ?_
  refine r_iand (pc' := 5) C dX9_has_4 rfl ?_
  refine r_iconst (pc' := 6) C dX9_has_5 rfl kc_1 ?_
  refine r_icmp_ne (tgt := 13) (pc' := 9) C dX9_has_6 rfl rfl (fun c1 => ?_) (fun c1 => ?_)
  · rw [if_neg c1] at h
    refine r_iconst (pc' := 14) C dX9_has_13 rfl kc_0 ?_
    have h := Option.some.inj h
    subst h
    exact r_ret C rfl dX9_has_14 hE
  · rw [if_pos c1] at h
    refine r_iconst (pc' := 10) C dX9_has_9 rfl kc_1 ?_
    refine r_goto (tgt := 14) C dX9_has_10 rfl ?_
    have h := Option.some.inj h
    subst h
    exact r_ret C rfl dX9_has_14 hE

/-! BorrowedWeightModel.isHere([II)Z -/
def X9_isHere (N : Nat) (k1 : Nat) (v2 : Int32) (σ : Sg) : Option (Int32) :=
  (X9_isThing N v2 σ).bind fun r1 => (if r1 = 0 then (some 0) else (if inb 32 37 = true then (X9_has N (gi σ k1 (32 : Int32).toNatClampNeg) v2 σ).bind fun r5 => (if r5 = 0 then (some 1) else (some 0)) else none))
set_option maxRecDepth 100000 in
set_option maxHeartbeats 4000000 in
theorem X9_isHere_ok {E : Ev} {k1 : Nat} (hk1 : MaAt SH0 k1) {N : Nat} {v2 : Int32} {σ : Sg} {r : Int32} (h : X9_isHere N k1 v2 σ = some r) : Cm E (2) yX9_isHere cX9_isHere 3 (some .boolean) [.ref 149, .ref k1, .int v2] SH0 SH0 σ σ (some (.int r)) 0 0 := by
  refine Cm.intro (by decide +kernel) (Nat.le_of_ble_eq_true rfl) (fun _ h => by obtain ⟨_, _, _, _, _, _, h⟩ := h; exact h) (fun Z C hE => ?_)
  show Wm E Z 0 0 SH0 σ 0 [(0, .ref 149), (1, .ref k1), (2, .int v2)] []
  unfold X9_isHere at h
  refine r_aload_n (pc' := 1) C dX9_isHere_0 rfl 0 rfl ?_
  refine r_iload_n (pc' := 2) C dX9_isHere_1 rfl 2 rfl ?_
  obtain ⟨r1, e2, h⟩ := bd h
  refine r_cV1 (pc' := 5) C (X9_isThing_ok  e2) mlX9_123 ceX9_isThing cvX9_isThing sh_149 rfl rfl rfl (Nat.le_of_ble_eq_true rfl) rfl (Nat.le_of_ble_eq_true rfl) dX9_isHere_2 rfl (kk := ?_)
  refine r_if_eq (tgt := 23) (pc' := 8) C dX9_isHere_5 rfl rfl (fun c3 => ?_) (fun c3 => ?_)
  · rw [if_pos c3] at h
    refine r_iconst (pc' := 24) C dX9_isHere_23 rfl kc_0 ?_
    have h := Option.some.inj h
    subst h
    exact r_ret C rfl dX9_isHere_24 hE
  · rw [if_neg c3] at h
    refine r_aload_n (pc' := 9) C dX9_isHere_8 rfl 1 rfl ?_
    refine r_bipush (pc' := 11) C dX9_isHere_9 rfl kb_32 ?_
    obtain ⟨q4, h⟩ := ck h
    refine r_iald (pc' := 12) C hk1 (vin q4) dX9_isHere_11 rfl ?_
    refine r_iload_n (pc' := 13) C dX9_isHere_12 rfl 2 rfl ?_
    obtain ⟨r5, e6, h⟩ := bd h
    refine r_cS1 (pc' := 16) C (X9_has_ok  e6) mlX9_127 ceX9_has csX9_has rfl (Nat.le_of_ble_eq_true rfl) rfl (Nat.le_of_ble_eq_true rfl) dX9_isHere_13 rfl (kk := ?_)
    refine r_if_ne (tgt := 23) (pc' := 19) C dX9_isHere_16 rfl rfl (fun c7 => ?_) (fun c7 => ?_)
    · rw [if_neg c7] at h
      refine r_iconst (pc' := 24) C dX9_isHere_23 rfl kc_0 ?_
      have h := Option.some.inj h
      subst h
      exact r_ret C rfl dX9_isHere_24 hE
    · rw [if_pos c7] at h
      refine r_iconst (pc' := 20) C dX9_isHere_19 rfl kc_1 ?_
      refine r_goto (tgt := 24) C dX9_isHere_20 rfl ?_
      have h := Option.some.inj h
      subst h
      exact r_ret C rfl dX9_isHere_24 hE

/-! BorrowedWeightModel.thingBut(I)I -/
def X9_thingBut_j33 (N : Nat)    (σ : Sg) : Option (Int32 × Sg) :=
  bnS (wi σ 149 12 ((gi σ 149 12) - 1)) fun σ5 => some ((-1), σ5)
set_option maxRecDepth 100000 in
set_option maxHeartbeats 4000000 in
theorem X9_thingBut_j33_ok {E : Ev}  {N : Nat}     {σ : Sg} {r : Int32 × Sg} (h : X9_thingBut_j33 N    σ = some r) : Gp E RX9 cX9_thingBut (some .int) 3 (3) SH0 r.2 (some (.int r.1)) σ 33 [(0, .ref 149)] [] := by
  intro Z C hE
  unfold X9_thingBut_j33 at h
  refine r_aload_n (pc' := 34) C dX9_thingBut_33 rfl 0 rfl ?_
  refine r_dup (pc' := 35) C dX9_thingBut_34 rfl rfl ?_
  refine r_getI (pc' := 38) C flX9_144 sh_149 rfl dX9_thingBut_35 rfl ?_
  refine r_iconst (pc' := 39) C dX9_thingBut_38 rfl kc_1 ?_
  refine r_isub (pc' := 40) C dX9_thingBut_39 rfl ?_
  obtain ⟨σ5, e6, h⟩ := bs h
  refine r_putI (pc' := 43) (σ1 := σ5) C fpX9_144 sh_149 rfl rfl rfl dX9_thingBut_40 rfl e6 ?_
  refine r_iconst (pc' := 44) C dX9_thingBut_43 rfl kc_m1 ?_
  have h := Option.some.inj h
  subst h
  exact r_ret C rfl dX9_thingBut_44 hE
def X9_thingBut (N : Nat)  (v1 : Int32) (σ : Sg) : Option (Int32 × Sg) :=
  (X9_digitIn N 0 ((gi σ 149 3) - 1) σ).bind fun r1 => (if r1.1 < 0 then (some (r1.1, r1.2)) else (if r1.1 = v1 then (X9_thingBut_j33 N r1.2) else ((X9_isHere N 153 r1.1 r1.2).bind fun r7 => (if r7 = 0 then (X9_thingBut_j33 N r1.2) else (some (r1.1, r1.2))))))
set_option maxRecDepth 100000 in
set_option maxHeartbeats 4000000 in
theorem X9_thingBut_ok {E : Ev}  {N : Nat} {v1 : Int32} {σ : Sg} {r : Int32 × Sg} (h : X9_thingBut N  v1 σ = some r) : Cm E (3) yX9_thingBut cX9_thingBut 3 (some .int) [.ref 149, .int v1] SH0 SH0 σ r.2 (some (.int r.1)) 0 0 := by
  refine Cm.intro (by decide +kernel) (Nat.le_of_ble_eq_true rfl) (fun _ h => by obtain ⟨_, _, _, _, _, _, h⟩ := h; exact h) (fun Z C hE => ?_)
  show Wm E Z 0 0 SH0 σ 0 [(0, .ref 149), (1, .int v1)] []
  unfold X9_thingBut at h
  refine r_aload_n (pc' := 1) C dX9_thingBut_0 rfl 0 rfl ?_
  refine r_iconst (pc' := 2) C dX9_thingBut_1 rfl kc_0 ?_
  refine r_aload_n (pc' := 3) C dX9_thingBut_2 rfl 0 rfl ?_
  refine r_getI (pc' := 6) C flX9_116 sh_149 rfl dX9_thingBut_3 rfl ?_
  refine r_iconst (pc' := 7) C dX9_thingBut_6 rfl kc_1 ?_
  refine r_isub (pc' := 8) C dX9_thingBut_7 rfl ?_
  obtain ⟨r1, e2, h⟩ := bd h
  refine r_cV1 (pc' := 11) C (X9_digitIn_ok  e2) mlX9_186 ceX9_digitIn cvX9_digitIn sh_149 rfl rfl rfl (Nat.le_of_ble_eq_true rfl) rfl (Nat.le_of_ble_eq_true rfl) dX9_thingBut_8 rfl (kk := ?_)
  refine r_istore_n (pc' := 12) (lv2 := [(2, .int r1.1), (0, .ref 149), (1, .int v1)]) C dX9_thingBut_11 rfl rfl (Nat.le_of_ble_eq_true rfl) rfl ?_
  refine r_iload_n (pc' := 13) C dX9_thingBut_12 rfl 0 rfl ?_
  refine r_if_lt (tgt := 45) (pc' := 16) C dX9_thingBut_13 rfl rfl (fun c3 => ?_) (fun c3 => ?_)
  · rw [if_pos c3] at h
    refine r_iload_n (pc' := 46) C dX9_thingBut_45 rfl 0 rfl ?_
    have h := Option.some.inj h
    subst h
    exact r_ret C rfl dX9_thingBut_46 hE
  · rw [if_neg c3] at h
    refine r_iload_n (pc' := 17) C dX9_thingBut_16 rfl 0 rfl ?_
    refine r_iload_n (pc' := 18) C dX9_thingBut_17 rfl 2 rfl ?_
    refine r_icmp_eq (tgt := 33) (pc' := 21) C dX9_thingBut_18 rfl rfl (fun c4 => ?_) (fun c4 => ?_)
    · rw [if_pos c4] at h
      refine r_sub [1] rfl ?_
      exact X9_thingBut_j33_ok  h Z C hE
    · rw [if_neg c4] at h
      refine r_aload_n (pc' := 22) C dX9_thingBut_21 rfl 1 rfl ?_
      refine r_aload_n (pc' := 23) C dX9_thingBut_22 rfl 1 rfl ?_
      refine r_getR (pc' := 26) C flX9_34 sh_149 rfl dX9_thingBut_23 rfl ?_
      refine r_iload_n (pc' := 27) C dX9_thingBut_26 rfl 0 rfl ?_
      obtain ⟨r7, e8, h⟩ := bd h
      refine r_cV1 (pc' := 30) C (X9_isHere_ok mac_153 e8) mlX9_202 ceX9_isHere cvX9_isHere sh_149 rfl rfl rfl (Nat.le_of_ble_eq_true rfl) rfl (Nat.le_of_ble_eq_true rfl) dX9_thingBut_27 rfl (kk := ?_)
      refine r_if_ne (tgt := 45) (pc' := 33) C dX9_thingBut_30 rfl rfl (fun c9 => ?_) (fun c9 => ?_)
      · rw [if_neg c9] at h
        refine r_iload_n (pc' := 46) C dX9_thingBut_45 rfl 0 rfl ?_
        have h := Option.some.inj h
        subst h
        exact r_ret C rfl dX9_thingBut_46 hE
      · rw [if_pos c9] at h
        refine r_sub [1] rfl ?_
        exact X9_thingBut_j33_ok  h Z C hE

/-! BorrowedWeightModel.putsBy()V -/
def X9_putsBy_l2 (N : Nat)    : Nat → Int32 → Sg → Option (Sg)
  | 0, _, _ => none
  | n + 1, v1, σ =>
    if 37 ≤ v1 then (some σ) else (if inb v1 37 = true then if inb ((37 * (gi σ 149 23)) + v1) 592 = true then bnS (wi σ 161 ((37 * (gi σ 149 23)) + v1).toNatClampNeg (gi σ 153 v1.toNatClampNeg)) fun σ4 => X9_putsBy_l2 N n (v1 + 1) σ4 else none else none)
set_option maxRecDepth 100000 in
set_option maxHeartbeats 4000000 in
theorem X9_putsBy_l2_ok {E : Ev}  {N : Nat}    : ∀ (n : Nat) (v1 : Int32) (σ : Sg) (r : Sg), X9_putsBy_l2 N n v1 σ = some r → Gp E RX9 cX9_putsBy none 2 (0) SH0 r (none) σ 2 [(0, .ref 149), (1, .int v1)] [] := by
  intro n
  induction n with
  | zero => intro v1 σ r h; cases h
  | succ n ih =>
    intro v1 σ r h Z C hE
    unfold X9_putsBy_l2 at h
    refine r_iload_n (pc' := 3) C dX9_putsBy_2 rfl 1 rfl ?_
    refine r_bipush (pc' := 5) C dX9_putsBy_3 rfl kb_37 ?_
    refine r_icmp_ge (tgt := 34) (pc' := 8) C dX9_putsBy_5 rfl rfl (fun c1 => ?_) (fun c1 => ?_)
    · rw [if_pos c1] at h
      have h := Option.some.inj h
      subst h
      exact r_vret C dX9_putsBy_34 hE
    · rw [if_neg c1] at h
      refine r_aload_n (pc' := 9) C dX9_putsBy_8 rfl 0 rfl ?_
      refine r_getR (pc' := 12) C flX9_58 sh_149 rfl dX9_putsBy_9 rfl ?_
      refine r_bipush (pc' := 14) C dX9_putsBy_12 rfl kb_37 ?_
      refine r_aload_n (pc' := 15) C dX9_putsBy_14 rfl 0 rfl ?_
      refine r_getI (pc' := 18) C flX9_196 sh_149 rfl dX9_putsBy_15 rfl ?_
      refine r_imul (pc' := 19) C dX9_putsBy_18 rfl ?_
      refine r_iload_n (pc' := 20) C dX9_putsBy_19 rfl 1 rfl ?_
      refine r_iadd (pc' := 21) C dX9_putsBy_20 rfl ?_
      refine r_aload_n (pc' := 22) C dX9_putsBy_21 rfl 0 rfl ?_
      refine r_getR (pc' := 25) C flX9_34 sh_149 rfl dX9_putsBy_22 rfl ?_
      refine r_iload_n (pc' := 26) C dX9_putsBy_25 rfl 1 rfl ?_
      obtain ⟨q2, h⟩ := ck h
      refine r_iald (pc' := 27) C sh_153 (vin q2) dX9_putsBy_26 rfl ?_
      obtain ⟨q3, h⟩ := ck h
      obtain ⟨σ4, e5, h⟩ := bs h
      refine r_iast (pc' := 28) (σ1 := σ4) C sh_161 (vin q3) dX9_putsBy_27 rfl e5 ?_
      refine r_iinc (pc' := 31) (v := v1 + 1) (lv2 := [(1, .int (v1 + 1)), (0, .ref 149)]) C dX9_putsBy_28 rfl 1 rfl rfl (Nat.le_of_ble_eq_true rfl) rfl ?_
      refine r_goto (tgt := 2) C dX9_putsBy_31 rfl ?_
      refine r_sub [1, 0] rfl ?_
      exact ih _ _ _ h Z C hE
def X9_putsBy (N : Nat)   (σ : Sg) : Option (Sg) :=
  X9_putsBy_l2 N N 0 σ
set_option maxRecDepth 100000 in
set_option maxHeartbeats 4000000 in
theorem X9_putsBy_ok {E : Ev}  {N : Nat}  {σ : Sg} {r : Sg} (h : X9_putsBy N   σ = some r) : Cm E (0) yX9_putsBy cX9_putsBy 2 none [.ref 149] SH0 SH0 σ r (none) 0 0 := by
  refine Cm.intro (by decide +kernel) (Nat.le_of_ble_eq_true rfl) (fun _ h => by obtain ⟨_, _, _, _, _, _, h⟩ := h; exact h) (fun Z C hE => ?_)
  show Wm E Z 0 0 SH0 σ 0 [(0, .ref 149)] []
  unfold X9_putsBy at h
  refine r_iconst (pc' := 1) C dX9_putsBy_0 rfl kc_0 ?_
  refine r_istore_n (pc' := 2) (lv2 := [(1, .int 0), (0, .ref 149)]) C dX9_putsBy_1 rfl rfl (Nat.le_of_ble_eq_true rfl) rfl ?_
  refine r_sub [1, 0] rfl ?_
  exact X9_putsBy_l2_ok  N _ _ _ h Z C hE

/-! BorrowedWeightModel.toggles([III)V -/
def X9_toggles (N : Nat) (k0 : Nat) (v1 : Int32) (v2 : Int32) (σ : Sg) : Option (Sg) :=
  if inb (24 + v1) 37 = true then if inb (24 + v1) 37 = true then bnS (wi σ k0 (24 + v1).toNatClampNeg ((gi σ k0 (24 + v1).toNatClampNeg) ^^^ (1 <<< (v2 &&& 31)))) fun σ3 => if inb (24 + v2) 37 = true then if inb (24 + v2) 37 = true then bnS (wi σ3 k0 (24 + v2).toNatClampNeg ((gi σ3 k0 (24 + v2).toNatClampNeg) ^^^ (1 <<< (v1 &&& 31)))) fun σ7 => some σ7 else none else none else none else none
set_option maxRecDepth 100000 in
set_option maxHeartbeats 4000000 in
theorem X9_toggles_ok {E : Ev} {k0 : Nat} (hk0 : MaAt SH0 k0) {N : Nat} {v1 : Int32} {v2 : Int32} {σ : Sg} {r : Sg} (h : X9_toggles N k0 v1 v2 σ = some r) : Cm E (0) yX9_toggles cX9_toggles 3 none [.ref k0, .int v1, .int v2] SH0 SH0 σ r (none) 0 0 := by
  refine Cm.intro (by decide +kernel) (Nat.le_of_ble_eq_true rfl) (fun _ h => by obtain ⟨_, _, _, _, _, _, h⟩ := h; exact h) (fun Z C hE => ?_)
  show Wm E Z 0 0 SH0 σ 0 [(0, .ref k0), (1, .int v1), (2, .int v2)] []
  unfold X9_toggles at h
  refine r_aload_n (pc' := 1) C dX9_toggles_0 rfl 0 rfl ?_
  refine r_bipush (pc' := 3) C dX9_toggles_1 rfl kb_24 ?_
  refine r_iload_n (pc' := 4) C dX9_toggles_3 rfl 1 rfl ?_
  refine r_iadd (pc' := 5) C dX9_toggles_4 rfl ?_
  refine r_dup2 (pc' := 6) C dX9_toggles_5 rfl rfl rfl ?_
  obtain ⟨q1, h⟩ := ck h
  refine r_iald (pc' := 7) C hk0 (vin q1) dX9_toggles_6 rfl ?_
  refine r_iconst (pc' := 8) C dX9_toggles_7 rfl kc_1 ?_
  refine r_iload_n (pc' := 9) C dX9_toggles_8 rfl 2 rfl ?_
  refine r_ishl (pc' := 10) C dX9_toggles_9 rfl ?_
  refine r_ixor (pc' := 11) C dX9_toggles_10 rfl ?_
  obtain ⟨q2, h⟩ := ck h
  obtain ⟨σ3, e4, h⟩ := bs h
  refine r_iast (pc' := 12) (σ1 := σ3) C hk0 (vin q2) dX9_toggles_11 rfl e4 ?_
  refine r_aload_n (pc' := 13) C dX9_toggles_12 rfl 0 rfl ?_
  refine r_bipush (pc' := 15) C dX9_toggles_13 rfl kb_24 ?_
  refine r_iload_n (pc' := 16) C dX9_toggles_15 rfl 2 rfl ?_
  refine r_iadd (pc' := 17) C dX9_toggles_16 rfl ?_
  refine r_dup2 (pc' := 18) C dX9_toggles_17 rfl rfl rfl ?_
  obtain ⟨q5, h⟩ := ck h
  refine r_iald (pc' := 19) C hk0 (vin q5) dX9_toggles_18 rfl ?_
  refine r_iconst (pc' := 20) C dX9_toggles_19 rfl kc_1 ?_
  refine r_iload_n (pc' := 21) C dX9_toggles_20 rfl 1 rfl ?_
  refine r_ishl (pc' := 22) C dX9_toggles_21 rfl ?_
  refine r_ixor (pc' := 23) C dX9_toggles_22 rfl ?_
  obtain ⟨q6, h⟩ := ck h
  obtain ⟨σ7, e8, h⟩ := bs h
  refine r_iast (pc' := 24) (σ1 := σ7) C hk0 (vin q6) dX9_toggles_23 rfl e8 ?_
  have h := Option.some.inj h
  subst h
  exact r_vret C dX9_toggles_24 hE

/-! BorrowedWeightModel.adds(I)I -/
def X9_adds_l21 (N : Nat)  (k49 : Int32 → Sg → Option (Int32 × Sg))  : Nat → Int32 → Int32 → Sg → Option (Int32 × Sg)
  | 0, _, _, _ => none
  | n + 1, v1, v2, σ =>
    if 555 ≤ v2 then (k49 v1 σ) else (if inb (v2 + 37) 592 = true then if inb v2 592 = true then bnS (wi σ 161 v2.toNatClampNeg (gi σ 161 (v2 + 37).toNatClampNeg)) fun σ7 => X9_adds_l21 N k49 n v1 (v2 + 1) σ7 else none else none)
set_option maxRecDepth 100000 in
set_option maxHeartbeats 4000000 in
theorem X9_adds_l21_ok {E : Ev}  {N : Nat} {k49 : Int32 → Sg → Option (Int32 × Sg)}  (hk49 : ∀ (v1 : Int32) (σ : Sg) (r : Int32 × Sg), k49 v1 σ = some r → Gp E RX9 cX9_adds (some .int) 3 (0) SH0 r.2 (some (.int r.1)) σ 49 [(0, .ref 149), (1, .int v1)] []) : ∀ (n : Nat) (v1 : Int32) (v2 : Int32) (σ : Sg) (r : Int32 × Sg), X9_adds_l21 N k49 n v1 v2 σ = some r → Gp E RX9 cX9_adds (some .int) 3 (0) SH0 r.2 (some (.int r.1)) σ 21 [(0, .ref 149), (1, .int v1), (2, .int v2)] [] := by
  intro n
  induction n with
  | zero => intro v1 v2 σ r h; cases h
  | succ n ih =>
    intro v1 v2 σ r h Z C hE
    unfold X9_adds_l21 at h
    refine r_iload_n (pc' := 22) C dX9_adds_21 rfl 2 rfl ?_
    refine r_sipush (pc' := 25) C dX9_adds_22 rfl ks_555 ?_
    refine r_icmp_ge (tgt := 49) (pc' := 28) C dX9_adds_25 rfl rfl (fun c4 => ?_) (fun c4 => ?_)
    · rw [if_pos c4] at h
      refine r_sub [0, 1] rfl ?_
      exact hk49 _ _ _ h Z C hE
    · rw [if_neg c4] at h
      refine r_aload_n (pc' := 29) C dX9_adds_28 rfl 0 rfl ?_
      refine r_getR (pc' := 32) C flX9_58 sh_149 rfl dX9_adds_29 rfl ?_
      refine r_iload_n (pc' := 33) C dX9_adds_32 rfl 2 rfl ?_
      refine r_aload_n (pc' := 34) C dX9_adds_33 rfl 0 rfl ?_
      refine r_getR (pc' := 37) C flX9_58 sh_149 rfl dX9_adds_34 rfl ?_
      refine r_iload_n (pc' := 38) C dX9_adds_37 rfl 2 rfl ?_
      refine r_bipush (pc' := 40) C dX9_adds_38 rfl kb_37 ?_
      refine r_iadd (pc' := 41) C dX9_adds_40 rfl ?_
      obtain ⟨q5, h⟩ := ck h
      refine r_iald (pc' := 42) C sh_161 (vin q5) dX9_adds_41 rfl ?_
      obtain ⟨q6, h⟩ := ck h
      obtain ⟨σ7, e8, h⟩ := bs h
      refine r_iast (pc' := 43) (σ1 := σ7) C sh_161 (vin q6) dX9_adds_42 rfl e8 ?_
      refine r_iinc (pc' := 46) (v := v2 + 1) (lv2 := [(2, .int (v2 + 1)), (0, .ref 149), (1, .int v1)]) C dX9_adds_43 rfl 2 rfl rfl (Nat.le_of_ble_eq_true rfl) rfl ?_
      refine r_goto (tgt := 21) C dX9_adds_46 rfl ?_
      refine r_sub [1, 2, 0] rfl ?_
      exact ih _ _ _ _ h Z C hE
def X9_adds_j49 (N : Nat)   (v1 : Int32) (σ : Sg) : Option (Int32 × Sg) :=
  bnS (wi σ 149 23 ((gi σ 149 23) - 1)) fun σ9 => some (v1, σ9)
set_option maxRecDepth 100000 in
set_option maxHeartbeats 4000000 in
theorem X9_adds_j49_ok {E : Ev}  {N : Nat}    {v1 : Int32} {σ : Sg} {r : Int32 × Sg} (h : X9_adds_j49 N   v1 σ = some r) : Gp E RX9 cX9_adds (some .int) 3 (0) SH0 r.2 (some (.int r.1)) σ 49 [(0, .ref 149), (1, .int v1)] [] := by
  intro Z C hE
  unfold X9_adds_j49 at h
  refine r_aload_n (pc' := 50) C dX9_adds_49 rfl 0 rfl ?_
  refine r_dup (pc' := 51) C dX9_adds_50 rfl rfl ?_
  refine r_getI (pc' := 54) C flX9_196 sh_149 rfl dX9_adds_51 rfl ?_
  refine r_iconst (pc' := 55) C dX9_adds_54 rfl kc_1 ?_
  refine r_isub (pc' := 56) C dX9_adds_55 rfl ?_
  obtain ⟨σ9, e10, h⟩ := bs h
  refine r_putI (pc' := 59) (σ1 := σ9) C fpX9_196 sh_149 rfl rfl rfl dX9_adds_56 rfl e10 ?_
  refine r_iload_n (pc' := 60) C dX9_adds_59 rfl 1 rfl ?_
  have h := Option.some.inj h
  subst h
  exact r_ret C rfl dX9_adds_60 hE
def X9_adds (N : Nat)  (v1 : Int32) (σ : Sg) : Option (Int32 × Sg) :=
  bnS (wi σ 149 23 ((gi σ 149 23) + 1)) fun σ1 => if (gi σ1 149 23) ≤ 15 then (some (v1, σ1)) else (X9_adds_l21 N (fun v1 σ => X9_adds_j49 N v1 σ) N v1 0 σ1)
set_option maxRecDepth 100000 in
set_option maxHeartbeats 4000000 in
theorem X9_adds_ok {E : Ev}  {N : Nat} {v1 : Int32} {σ : Sg} {r : Int32 × Sg} (h : X9_adds N  v1 σ = some r) : Cm E (0) yX9_adds cX9_adds 3 (some .int) [.ref 149, .int v1] SH0 SH0 σ r.2 (some (.int r.1)) 0 0 := by
  refine Cm.intro (by decide +kernel) (Nat.le_of_ble_eq_true rfl) (fun _ h => by obtain ⟨_, _, _, _, _, _, h⟩ := h; exact h) (fun Z C hE => ?_)
  show Wm E Z 0 0 SH0 σ 0 [(0, .ref 149), (1, .int v1)] []
  unfold X9_adds at h
  refine r_aload_n (pc' := 1) C dX9_adds_0 rfl 0 rfl ?_
  refine r_dup (pc' := 2) C dX9_adds_1 rfl rfl ?_
  refine r_getI (pc' := 5) C flX9_196 sh_149 rfl dX9_adds_2 rfl ?_
  refine r_iconst (pc' := 6) C dX9_adds_5 rfl kc_1 ?_
  refine r_iadd (pc' := 7) C dX9_adds_6 rfl ?_
  obtain ⟨σ1, e2, h⟩ := bs h
  refine r_putI (pc' := 10) (σ1 := σ1) C fpX9_196 sh_149 rfl rfl rfl dX9_adds_7 rfl e2 ?_
  refine r_aload_n (pc' := 11) C dX9_adds_10 rfl 0 rfl ?_
  refine r_getI (pc' := 14) C flX9_196 sh_149 rfl dX9_adds_11 rfl ?_
  refine r_bipush (pc' := 16) C dX9_adds_14 rfl kb_15 ?_
  refine r_icmp_le (tgt := 59) (pc' := 19) C dX9_adds_16 rfl rfl (fun c3 => ?_) (fun c3 => ?_)
  · rw [if_pos c3] at h
    refine r_iload_n (pc' := 60) C dX9_adds_59 rfl 1 rfl ?_
    have h := Option.some.inj h
    subst h
    exact r_ret C rfl dX9_adds_60 hE
  · rw [if_neg c3] at h
    refine r_iconst (pc' := 20) C dX9_adds_19 rfl kc_0 ?_
    refine r_istore_n (pc' := 21) (lv2 := [(2, .int 0), (0, .ref 149), (1, .int v1)]) C dX9_adds_20 rfl rfl (Nat.le_of_ble_eq_true rfl) rfl ?_
    refine r_sub [1, 2, 0] rfl ?_
    exact X9_adds_l21_ok  (fun _ _ _ h Z C hE => by exact X9_adds_j49_ok  h Z C hE) N _ _ _ _ h Z C hE

/-! BorrowedWeightModel.strings()I -/
def X9_strings_j67 (N : Nat)  (kr : Int32 → Int32 → Int32 → Sg → Option (Int32 × Sg)) (v1 : Int32) (v4 : Int32) (v5 : Int32) (s0 : Int32) (σ : Sg) : Option (Int32 × Sg) :=
  if inb (2 * (gi σ 149 16)) 48 = true then bnS (wi σ 156 (2 * (gi σ 149 16)).toNatClampNeg v4) fun σ16 => if inb ((2 * (gi σ16 149 16)) + 1) 48 = true then bnS (wi σ16 156 ((2 * (gi σ16 149 16)) + 1).toNatClampNeg v5) fun σ19 => (X9_flag N s0 σ19).bind fun r21 => (bnS (wi σ19 149 16 ((gi σ19 149 16) + r21)) fun σ23 => if s0 = 0 then (kr v1 s0 0 σ23) else ((X9_takes N 59 σ23).bind fun r26 => (if r26.1 = 0 then (kr v1 s0 0 r26.2) else (kr v1 s0 1 r26.2)))) else none else none
set_option maxRecDepth 100000 in
set_option maxHeartbeats 4000000 in
theorem X9_strings_j67_ok {E : Ev}  {N : Nat} {kr : Int32 → Int32 → Int32 → Sg → Option (Int32 × Sg)}  (hkr : ∀ (v1 : Int32) (v2 : Int32) (v3 : Int32) (σ : Sg) (r : Int32 × Sg), kr v1 v2 v3 σ = some r → Gp E RX9 cX9_strings (some .int) 8 (4) SH0 r.2 (some (.int r.1)) σ 29 [(0, .ref 149), (1, .int v1), (2, .int v2), (3, .int v3)] []) {v1 : Int32} {v4 : Int32} {v5 : Int32} {s0 : Int32} {σ : Sg} {r : Int32 × Sg} (h : X9_strings_j67 N  kr v1 v4 v5 s0 σ = some r) : Gp E RX9 cX9_strings (some .int) 8 (4) SH0 r.2 (some (.int r.1)) σ 67 [(0, .ref 149), (1, .int v1), (4, .int v4), (5, .int v5)] [.int s0] := by
  intro Z C hE
  unfold X9_strings_j67 at h
  refine r_istore_n (pc' := 68) (lv2 := [(2, .int s0), (0, .ref 149), (1, .int v1), (4, .int v4), (5, .int v5)]) C dX9_strings_67 rfl rfl (Nat.le_of_ble_eq_true rfl) rfl ?_
  refine r_aload_n (pc' := 69) C dX9_strings_68 rfl 1 rfl ?_
  refine r_getR (pc' := 72) C flX9_43 sh_149 rfl dX9_strings_69 rfl ?_
  refine r_iconst (pc' := 73) C dX9_strings_72 rfl kc_2 ?_
  refine r_aload_n (pc' := 74) C dX9_strings_73 rfl 1 rfl ?_
  refine r_getI (pc' := 77) C flX9_183 sh_149 rfl dX9_strings_74 rfl ?_
  refine r_imul (pc' := 78) C dX9_strings_77 rfl ?_
  refine r_iload (pc' := 80) C dX9_strings_78 rfl 3 rfl ?_
  obtain ⟨q15, h⟩ := ck h
  obtain ⟨σ16, e17, h⟩ := bs h
  refine r_iast (pc' := 81) (σ1 := σ16) C sh_156 (vin q15) dX9_strings_80 rfl e17 ?_
  refine r_aload_n (pc' := 82) C dX9_strings_81 rfl 1 rfl ?_
  refine r_getR (pc' := 85) C flX9_43 sh_149 rfl dX9_strings_82 rfl ?_
  refine r_iconst (pc' := 86) C dX9_strings_85 rfl kc_2 ?_
  refine r_aload_n (pc' := 87) C dX9_strings_86 rfl 1 rfl ?_
  refine r_getI (pc' := 90) C flX9_183 sh_149 rfl dX9_strings_87 rfl ?_
  refine r_imul (pc' := 91) C dX9_strings_90 rfl ?_
  refine r_iconst (pc' := 92) C dX9_strings_91 rfl kc_1 ?_
  refine r_iadd (pc' := 93) C dX9_strings_92 rfl ?_
  refine r_iload (pc' := 95) C dX9_strings_93 rfl 4 rfl ?_
  obtain ⟨q18, h⟩ := ck h
  obtain ⟨σ19, e20, h⟩ := bs h
  refine r_iast (pc' := 96) (σ1 := σ19) C sh_156 (vin q18) dX9_strings_95 rfl e20 ?_
  refine r_aload_n (pc' := 97) C dX9_strings_96 rfl 1 rfl ?_
  refine r_dup (pc' := 98) C dX9_strings_97 rfl rfl ?_
  refine r_getI (pc' := 101) C flX9_183 sh_149 rfl dX9_strings_98 rfl ?_
  refine r_iload_n (pc' := 102) C dX9_strings_101 rfl 0 rfl ?_
  obtain ⟨r21, e22, h⟩ := bd h
  refine r_cS1 (pc' := 105) C (X9_flag_ok  e22) mlX9_159 ceX9_flag csX9_flag rfl (Nat.le_of_ble_eq_true rfl) rfl (Nat.le_of_ble_eq_true rfl) dX9_strings_102 rfl (kk := ?_)
  refine r_iadd (pc' := 106) C dX9_strings_105 rfl ?_
  obtain ⟨σ23, e24, h⟩ := bs h
  refine r_putI (pc' := 109) (σ1 := σ23) C fpX9_183 sh_149 rfl rfl rfl dX9_strings_106 rfl e24 ?_
  refine r_iload_n (pc' := 110) C dX9_strings_109 rfl 0 rfl ?_
  refine r_if_eq (tgt := 126) (pc' := 113) C dX9_strings_110 rfl rfl (fun c25 => ?_) (fun c25 => ?_)
  · rw [if_pos c25] at h
    refine r_iconst (pc' := 127) C dX9_strings_126 rfl kc_0 ?_
    refine r_istore_n (pc' := 128) (lv2 := [(3, .int 0), (2, .int s0), (0, .ref 149), (1, .int v1), (4, .int v4), (5, .int v5)]) C dX9_strings_127 rfl rfl (Nat.le_of_ble_eq_true rfl) rfl ?_
    refine r_goto (tgt := 29) C dX9_strings_128 rfl ?_
    refine r_sub [2, 3, 1, 0] rfl ?_
    exact hkr _ _ _ _ _ h Z C hE
  · rw [if_neg c25] at h
    refine r_aload_n (pc' := 114) C dX9_strings_113 rfl 1 rfl ?_
    refine r_bipush (pc' := 116) C dX9_strings_114 rfl kb_59 ?_
    obtain ⟨r26, e27, h⟩ := bd h
    refine r_cV1 (pc' := 119) C (X9_takes_ok  e27) mlX9_189 ceX9_takes cvX9_takes sh_149 rfl rfl rfl (Nat.le_of_ble_eq_true rfl) rfl (Nat.le_of_ble_eq_true rfl) dX9_strings_116 rfl (kk := ?_)
    refine r_if_eq (tgt := 126) (pc' := 122) C dX9_strings_119 rfl rfl (fun c28 => ?_) (fun c28 => ?_)
    · rw [if_pos c28] at h
      refine r_iconst (pc' := 127) C dX9_strings_126 rfl kc_0 ?_
      refine r_istore_n (pc' := 128) (lv2 := [(3, .int 0), (2, .int s0), (0, .ref 149), (1, .int v1), (4, .int v4), (5, .int v5)]) C dX9_strings_127 rfl rfl (Nat.le_of_ble_eq_true rfl) rfl ?_
      refine r_goto (tgt := 29) C dX9_strings_128 rfl ?_
      refine r_sub [2, 3, 1, 0] rfl ?_
      exact hkr _ _ _ _ _ h Z C hE
    · rw [if_neg c28] at h
      refine r_iconst (pc' := 123) C dX9_strings_122 rfl kc_1 ?_
      refine r_goto (tgt := 127) C dX9_strings_123 rfl ?_
      refine r_istore_n (pc' := 128) (lv2 := [(3, .int 1), (2, .int s0), (0, .ref 149), (1, .int v1), (4, .int v4), (5, .int v5)]) C dX9_strings_127 rfl rfl (Nat.le_of_ble_eq_true rfl) rfl ?_
      refine r_goto (tgt := 29) C dX9_strings_128 rfl ?_
      refine r_sub [2, 3, 1, 0] rfl ?_
      exact hkr _ _ _ _ _ h Z C hE
def X9_strings_j55 (N : Nat)  (kr : Int32 → Int32 → Int32 → Sg → Option (Int32 × Sg)) (v1 : Int32) (v4 : Int32) (s0 : Int32) (σ : Sg) : Option (Int32 × Sg) :=
  if s0 < 0 then (X9_strings_j67 N kr v1 v4 s0 0 σ) else (X9_strings_j67 N kr v1 v4 s0 1 σ)
set_option maxRecDepth 100000 in
set_option maxHeartbeats 4000000 in
theorem X9_strings_j55_ok {E : Ev}  {N : Nat} {kr : Int32 → Int32 → Int32 → Sg → Option (Int32 × Sg)}  (hkr : ∀ (v1 : Int32) (v2 : Int32) (v3 : Int32) (σ : Sg) (r : Int32 × Sg), kr v1 v2 v3 σ = some r → Gp E RX9 cX9_strings (some .int) 8 (4) SH0 r.2 (some (.int r.1)) σ 29 [(0, .ref 149), (1, .int v1), (2, .int v2), (3, .int v3)] []) {v1 : Int32} {v4 : Int32} {s0 : Int32} {σ : Sg} {r : Int32 × Sg} (h : X9_strings_j55 N  kr v1 v4 s0 σ = some r) : Gp E RX9 cX9_strings (some .int) 8 (4) SH0 r.2 (some (.int r.1)) σ 55 [(0, .ref 149), (1, .int v1), (4, .int v4)] [.int s0] := by
  intro Z C hE
  unfold X9_strings_j55 at h
  refine r_istore (pc' := 57) (lv2 := [(5, .int s0), (0, .ref 149), (1, .int v1), (4, .int v4)]) C dX9_strings_55 rfl (Nat.le_of_ble_eq_true rfl) rfl ?_
  refine r_iload (pc' := 59) C dX9_strings_57 rfl 0 rfl ?_
  refine r_if_lt (tgt := 66) (pc' := 62) C dX9_strings_59 rfl rfl (fun c14 => ?_) (fun c14 => ?_)
  · rw [if_pos c14] at h
    refine r_iconst (pc' := 67) C dX9_strings_66 rfl kc_0 ?_
    refine r_sub [1, 2, 3, 0] rfl ?_
    exact X9_strings_j67_ok  hkr h Z C hE
  · rw [if_neg c14] at h
    refine r_iconst (pc' := 63) C dX9_strings_62 rfl kc_1 ?_
    refine r_goto (tgt := 67) C dX9_strings_63 rfl ?_
    refine r_sub [1, 2, 3, 0] rfl ?_
    exact X9_strings_j67_ok  hkr h Z C hE
def X9_strings_l29 (N : Nat)  (k131 : Int32 → Int32 → Sg → Option (Int32 × Sg))  : Nat → Int32 → Int32 → Int32 → Sg → Option (Int32 × Sg)
  | 0, _, _, _, _ => none
  | n + 1, v1, v2, v3, σ =>
    if v3 = 0 then (k131 v1 v2 σ) else ((X9_thingBut N (-1) σ).bind fun r9 => (if 0 ≤ r9.1 then ((X9_thingBut N r9.1 r9.2).bind fun r12 => (X9_strings_j55 N (fun v1 v2 v3 σ => X9_strings_l29 N k131 n v1 v2 v3 σ) v1 r9.1 r12.1 r12.2)) else (X9_strings_j55 N (fun v1 v2 v3 σ => X9_strings_l29 N k131 n v1 v2 v3 σ) v1 r9.1 (-1) r9.2)))
set_option maxRecDepth 100000 in
set_option maxHeartbeats 4000000 in
theorem X9_strings_l29_ok {E : Ev}  {N : Nat} {k131 : Int32 → Int32 → Sg → Option (Int32 × Sg)}  (hk131 : ∀ (v1 : Int32) (v2 : Int32) (σ : Sg) (r : Int32 × Sg), k131 v1 v2 σ = some r → Gp E RX9 cX9_strings (some .int) 8 (4) SH0 r.2 (some (.int r.1)) σ 131 [(0, .ref 149), (1, .int v1), (2, .int v2)] []) : ∀ (n : Nat) (v1 : Int32) (v2 : Int32) (v3 : Int32) (σ : Sg) (r : Int32 × Sg), X9_strings_l29 N k131 n v1 v2 v3 σ = some r → Gp E RX9 cX9_strings (some .int) 8 (4) SH0 r.2 (some (.int r.1)) σ 29 [(0, .ref 149), (1, .int v1), (2, .int v2), (3, .int v3)] [] := by
  intro n
  induction n with
  | zero => intro v1 v2 v3 σ r h; cases h
  | succ n ih =>
    intro v1 v2 v3 σ r h Z C hE
    unfold X9_strings_l29 at h
    refine r_iload_n (pc' := 30) C dX9_strings_29 rfl 3 rfl ?_
    refine r_if_eq (tgt := 131) (pc' := 33) C dX9_strings_30 rfl rfl (fun c8 => ?_) (fun c8 => ?_)
    · rw [if_pos c8] at h
      refine r_sub [0, 1, 2] rfl ?_
      exact hk131 _ _ _ _ h Z C hE
    · rw [if_neg c8] at h
      refine r_aload_n (pc' := 34) C dX9_strings_33 rfl 0 rfl ?_
      refine r_iconst (pc' := 35) C dX9_strings_34 rfl kc_m1 ?_
      obtain ⟨r9, e10, h⟩ := bd h
      refine r_cV1 (pc' := 38) C (X9_thingBut_ok  e10) mlX9_206 ceX9_thingBut cvX9_thingBut sh_149 rfl rfl rfl (Nat.le_of_ble_eq_true rfl) rfl (Nat.le_of_ble_eq_true rfl) dX9_strings_35 rfl (kk := ?_)
      refine r_istore (pc' := 40) (lv2 := [(4, .int r9.1), (0, .ref 149), (1, .int v1), (2, .int v2), (3, .int v3)]) C dX9_strings_38 rfl (Nat.le_of_ble_eq_true rfl) rfl ?_
      refine r_iload (pc' := 42) C dX9_strings_40 rfl 0 rfl ?_
      refine r_if_ge (tgt := 49) (pc' := 45) C dX9_strings_42 rfl rfl (fun c11 => ?_) (fun c11 => ?_)
      · rw [if_pos c11] at h
        refine r_aload_n (pc' := 50) C dX9_strings_49 rfl 1 rfl ?_
        refine r_iload (pc' := 52) C dX9_strings_50 rfl 0 rfl ?_
        obtain ⟨r12, e13, h⟩ := bd h
        refine r_cV1 (pc' := 55) C (X9_thingBut_ok  e13) mlX9_206 ceX9_thingBut cvX9_thingBut sh_149 rfl rfl rfl (Nat.le_of_ble_eq_true rfl) rfl (Nat.le_of_ble_eq_true rfl) dX9_strings_52 rfl (kk := ?_)
        refine r_sub [1, 2, 0] rfl ?_
        exact X9_strings_j55_ok  ih h Z C hE
      · rw [if_neg c11] at h
        refine r_iconst (pc' := 46) C dX9_strings_45 rfl kc_m1 ?_
        refine r_goto (tgt := 55) C dX9_strings_46 rfl ?_
        refine r_sub [1, 2, 0] rfl ?_
        exact X9_strings_j55_ok  ih h Z C hE
def X9_strings_j241 (N : Nat)  (kr : Int32 → Int32 → Sg → Option (Int32 × Sg)) (v5 : Int32) (v6 : Int32) (v7 : Int32) (σ : Sg) : Option (Int32 × Sg) :=
  (X9_flag N v7 σ).bind fun r42 => (kr (v5 + r42) (v6 + 1) σ)
set_option maxRecDepth 100000 in
set_option maxHeartbeats 4000000 in
theorem X9_strings_j241_ok {E : Ev}  {N : Nat} {kr : Int32 → Int32 → Sg → Option (Int32 × Sg)}  (hkr : ∀ (v5 : Int32) (v6 : Int32) (σ : Sg) (r : Int32 × Sg), kr v5 v6 σ = some r → Gp E RX9 cX9_strings (some .int) 8 (4) SH0 r.2 (some (.int r.1)) σ 159 [(0, .ref 149), (5, .int v5), (6, .int v6)] []) {v5 : Int32} {v6 : Int32} {v7 : Int32} {σ : Sg} {r : Int32 × Sg} (h : X9_strings_j241 N  kr v5 v6 v7 σ = some r) : Gp E RX9 cX9_strings (some .int) 8 (4) SH0 r.2 (some (.int r.1)) σ 241 [(0, .ref 149), (5, .int v5), (6, .int v6), (7, .int v7)] [] := by
  intro Z C hE
  unfold X9_strings_j241 at h
  refine r_iload (pc' := 243) C dX9_strings_241 rfl 1 rfl ?_
  refine r_iload (pc' := 245) C dX9_strings_243 rfl 3 rfl ?_
  obtain ⟨r42, e43, h⟩ := bd h
  refine r_cS1 (pc' := 248) C (X9_flag_ok  e43) mlX9_159 ceX9_flag csX9_flag rfl (Nat.le_of_ble_eq_true rfl) rfl (Nat.le_of_ble_eq_true rfl) dX9_strings_245 rfl (kk := ?_)
  refine r_iadd (pc' := 249) C dX9_strings_248 rfl ?_
  refine r_istore (pc' := 251) (lv2 := [(5, .int (v5 + r42)), (0, .ref 149), (6, .int v6), (7, .int v7)]) C dX9_strings_249 rfl (Nat.le_of_ble_eq_true rfl) rfl ?_
  refine r_iinc (pc' := 254) (v := v6 + 1) (lv2 := [(6, .int (v6 + 1)), (5, .int (v5 + r42)), (0, .ref 149), (7, .int v7)]) C dX9_strings_251 rfl 2 rfl rfl (Nat.le_of_ble_eq_true rfl) rfl ?_
  refine r_goto (tgt := 159) C dX9_strings_254 rfl ?_
  refine r_sub [2, 1, 0] rfl ?_
  exact hkr _ _ _ _ h Z C hE
def X9_strings_j207 (N : Nat)  (kr : Int32 → Int32 → Sg → Option (Int32 × Sg)) (v5 : Int32) (v6 : Int32) (s0 : Int32) (σ : Sg) : Option (Int32 × Sg) :=
  if s0 = 0 then (X9_strings_j241 N kr v5 v6 s0 σ) else (if inb (2 * v6) 48 = true then if inb ((2 * v6) + 1) 48 = true then (X9_toggles N 153 (gi σ 156 (2 * v6).toNatClampNeg) (gi σ 156 ((2 * v6) + 1).toNatClampNeg) σ).bind fun r46 => (X9_strings_j241 N kr v5 v6 s0 r46) else none else none)
set_option maxRecDepth 100000 in
set_option maxHeartbeats 4000000 in
theorem X9_strings_j207_ok {E : Ev}  {N : Nat} {kr : Int32 → Int32 → Sg → Option (Int32 × Sg)}  (hkr : ∀ (v5 : Int32) (v6 : Int32) (σ : Sg) (r : Int32 × Sg), kr v5 v6 σ = some r → Gp E RX9 cX9_strings (some .int) 8 (4) SH0 r.2 (some (.int r.1)) σ 159 [(0, .ref 149), (5, .int v5), (6, .int v6)] []) {v5 : Int32} {v6 : Int32} {s0 : Int32} {σ : Sg} {r : Int32 × Sg} (h : X9_strings_j207 N  kr v5 v6 s0 σ = some r) : Gp E RX9 cX9_strings (some .int) 8 (4) SH0 r.2 (some (.int r.1)) σ 207 [(0, .ref 149), (5, .int v5), (6, .int v6)] [.int s0] := by
  intro Z C hE
  unfold X9_strings_j207 at h
  refine r_istore (pc' := 209) (lv2 := [(7, .int s0), (0, .ref 149), (5, .int v5), (6, .int v6)]) C dX9_strings_207 rfl (Nat.le_of_ble_eq_true rfl) rfl ?_
  refine r_iload (pc' := 211) C dX9_strings_209 rfl 0 rfl ?_
  refine r_if_eq (tgt := 241) (pc' := 214) C dX9_strings_211 rfl rfl (fun c41 => ?_) (fun c41 => ?_)
  · rw [if_pos c41] at h
    refine r_sub [1, 2, 3, 0] rfl ?_
    exact X9_strings_j241_ok  hkr h Z C hE
  · rw [if_neg c41] at h
    refine r_aload_n (pc' := 215) C dX9_strings_214 rfl 1 rfl ?_
    refine r_getR (pc' := 218) C flX9_34 sh_149 rfl dX9_strings_215 rfl ?_
    refine r_aload_n (pc' := 219) C dX9_strings_218 rfl 1 rfl ?_
    refine r_getR (pc' := 222) C flX9_43 sh_149 rfl dX9_strings_219 rfl ?_
    refine r_iconst (pc' := 223) C dX9_strings_222 rfl kc_2 ?_
    refine r_iload (pc' := 225) C dX9_strings_223 rfl 3 rfl ?_
    refine r_imul (pc' := 226) C dX9_strings_225 rfl ?_
    obtain ⟨q44, h⟩ := ck h
    refine r_iald (pc' := 227) C sh_156 (vin q44) dX9_strings_226 rfl ?_
    refine r_aload_n (pc' := 228) C dX9_strings_227 rfl 1 rfl ?_
    refine r_getR (pc' := 231) C flX9_43 sh_149 rfl dX9_strings_228 rfl ?_
    refine r_iconst (pc' := 232) C dX9_strings_231 rfl kc_2 ?_
    refine r_iload (pc' := 234) C dX9_strings_232 rfl 3 rfl ?_
    refine r_imul (pc' := 235) C dX9_strings_234 rfl ?_
    refine r_iconst (pc' := 236) C dX9_strings_235 rfl kc_1 ?_
    refine r_iadd (pc' := 237) C dX9_strings_236 rfl ?_
    obtain ⟨q45, h⟩ := ck h
    refine r_iald (pc' := 238) C sh_156 (vin q45) dX9_strings_237 rfl ?_
    obtain ⟨r46, e47, h⟩ := bd h
    refine r_cS0 (pc' := 241) C (X9_toggles_ok mac_153 e47) mlX9_212 ceX9_toggles csX9_toggles rfl (Nat.le_of_ble_eq_true rfl) rfl (Nat.le_of_ble_eq_true rfl) dX9_strings_238 rfl (kk := ?_)
    refine r_sub [1, 2, 3, 0] rfl ?_
    exact X9_strings_j241_ok  hkr h Z C hE
def X9_strings_l159 (N : Nat)  (k257 : Int32 → Sg → Option (Int32 × Sg))  : Nat → Int32 → Int32 → Sg → Option (Int32 × Sg)
  | 0, _, _, _ => none
  | n + 1, v5, v6, σ =>
    if (gi σ 149 16) ≤ v6 then (k257 v5 σ) else (if inb (2 * v6) 48 = true then if inb (24 + (gi σ 156 (2 * v6).toNatClampNeg)) 37 = true then if inb ((2 * v6) + 1) 48 = true then (X9_has N (gi σ 153 (24 + (gi σ 156 (2 * v6).toNatClampNeg)).toNatClampNeg) (gi σ 156 ((2 * v6) + 1).toNatClampNeg) σ).bind fun r38 => (if r38 = 0 then (X9_strings_j207 N (fun v5 v6 σ => X9_strings_l159 N k257 n v5 v6 σ) v5 v6 1 σ) else (X9_strings_j207 N (fun v5 v6 σ => X9_strings_l159 N k257 n v5 v6 σ) v5 v6 0 σ)) else none else none else none)
set_option maxRecDepth 100000 in
set_option maxHeartbeats 4000000 in
theorem X9_strings_l159_ok {E : Ev}  {N : Nat} {k257 : Int32 → Sg → Option (Int32 × Sg)}  (hk257 : ∀ (v5 : Int32) (σ : Sg) (r : Int32 × Sg), k257 v5 σ = some r → Gp E RX9 cX9_strings (some .int) 8 (4) SH0 r.2 (some (.int r.1)) σ 257 [(0, .ref 149), (5, .int v5)] []) : ∀ (n : Nat) (v5 : Int32) (v6 : Int32) (σ : Sg) (r : Int32 × Sg), X9_strings_l159 N k257 n v5 v6 σ = some r → Gp E RX9 cX9_strings (some .int) 8 (4) SH0 r.2 (some (.int r.1)) σ 159 [(0, .ref 149), (5, .int v5), (6, .int v6)] [] := by
  intro n
  induction n with
  | zero => intro v5 v6 σ r h; cases h
  | succ n ih =>
    intro v5 v6 σ r h Z C hE
    unfold X9_strings_l159 at h
    refine r_iload (pc' := 161) C dX9_strings_159 rfl 2 rfl ?_
    refine r_aload_n (pc' := 162) C dX9_strings_161 rfl 0 rfl ?_
    refine r_getI (pc' := 165) C flX9_183 sh_149 rfl dX9_strings_162 rfl ?_
    refine r_icmp_ge (tgt := 257) (pc' := 168) C dX9_strings_165 rfl rfl (fun c34 => ?_) (fun c34 => ?_)
    · rw [if_pos c34] at h
      refine r_sub [0, 1] rfl ?_
      exact hk257 _ _ _ h Z C hE
    · rw [if_neg c34] at h
      refine r_aload_n (pc' := 169) C dX9_strings_168 rfl 0 rfl ?_
      refine r_getR (pc' := 172) C flX9_34 sh_149 rfl dX9_strings_169 rfl ?_
      refine r_bipush (pc' := 174) C dX9_strings_172 rfl kb_24 ?_
      refine r_aload_n (pc' := 175) C dX9_strings_174 rfl 0 rfl ?_
      refine r_getR (pc' := 178) C flX9_43 sh_149 rfl dX9_strings_175 rfl ?_
      refine r_iconst (pc' := 179) C dX9_strings_178 rfl kc_2 ?_
      refine r_iload (pc' := 181) C dX9_strings_179 rfl 2 rfl ?_
      refine r_imul (pc' := 182) C dX9_strings_181 rfl ?_
      obtain ⟨q35, h⟩ := ck h
      refine r_iald (pc' := 183) C sh_156 (vin q35) dX9_strings_182 rfl ?_
      refine r_iadd (pc' := 184) C dX9_strings_183 rfl ?_
      obtain ⟨q36, h⟩ := ck h
      refine r_iald (pc' := 185) C sh_153 (vin q36) dX9_strings_184 rfl ?_
      refine r_aload_n (pc' := 186) C dX9_strings_185 rfl 0 rfl ?_
      refine r_getR (pc' := 189) C flX9_43 sh_149 rfl dX9_strings_186 rfl ?_
      refine r_iconst (pc' := 190) C dX9_strings_189 rfl kc_2 ?_
      refine r_iload (pc' := 192) C dX9_strings_190 rfl 2 rfl ?_
      refine r_imul (pc' := 193) C dX9_strings_192 rfl ?_
      refine r_iconst (pc' := 194) C dX9_strings_193 rfl kc_1 ?_
      refine r_iadd (pc' := 195) C dX9_strings_194 rfl ?_
      obtain ⟨q37, h⟩ := ck h
      refine r_iald (pc' := 196) C sh_156 (vin q37) dX9_strings_195 rfl ?_
      obtain ⟨r38, e39, h⟩ := bd h
      refine r_cS1 (pc' := 199) C (X9_has_ok  e39) mlX9_127 ceX9_has csX9_has rfl (Nat.le_of_ble_eq_true rfl) rfl (Nat.le_of_ble_eq_true rfl) dX9_strings_196 rfl (kk := ?_)
      refine r_if_ne (tgt := 206) (pc' := 202) C dX9_strings_199 rfl rfl (fun c40 => ?_) (fun c40 => ?_)
      · rw [if_neg c40] at h
        refine r_iconst (pc' := 207) C dX9_strings_206 rfl kc_0 ?_
        exact X9_strings_j207_ok  ih h Z C hE
      · rw [if_pos c40] at h
        refine r_iconst (pc' := 203) C dX9_strings_202 rfl kc_1 ?_
        refine r_goto (tgt := 207) C dX9_strings_203 rfl ?_
        exact X9_strings_j207_ok  ih h Z C hE
def X9_strings_j257 (N : Nat)   (v5 : Int32) (σ : Sg) : Option (Int32 × Sg) :=
  if v5 ≤ 0 then (some (0, σ)) else ((X9_adds N v5 σ).bind fun r49 => (some (r49.1, r49.2)))
set_option maxRecDepth 100000 in
set_option maxHeartbeats 4000000 in
theorem X9_strings_j257_ok {E : Ev}  {N : Nat}    {v5 : Int32} {σ : Sg} {r : Int32 × Sg} (h : X9_strings_j257 N   v5 σ = some r) : Gp E RX9 cX9_strings (some .int) 8 (4) SH0 r.2 (some (.int r.1)) σ 257 [(0, .ref 149), (5, .int v5)] [] := by
  intro Z C hE
  unfold X9_strings_j257 at h
  refine r_iload (pc' := 259) C dX9_strings_257 rfl 1 rfl ?_
  refine r_if_le (tgt := 271) (pc' := 262) C dX9_strings_259 rfl rfl (fun c48 => ?_) (fun c48 => ?_)
  · rw [if_pos c48] at h
    refine r_iconst (pc' := 272) C dX9_strings_271 rfl kc_0 ?_
    have h := Option.some.inj h
    subst h
    exact r_ret C rfl dX9_strings_272 hE
  · rw [if_neg c48] at h
    refine r_aload_n (pc' := 263) C dX9_strings_262 rfl 0 rfl ?_
    refine r_iload (pc' := 265) C dX9_strings_263 rfl 1 rfl ?_
    obtain ⟨r49, e50, h⟩ := bd h
    refine r_cV1 (pc' := 268) C (X9_adds_ok  e50) mlX9_216 ceX9_adds cvX9_adds sh_149 rfl rfl rfl (Nat.le_of_ble_eq_true rfl) rfl (Nat.le_of_ble_eq_true rfl) dX9_strings_265 rfl (kk := ?_)
    refine r_goto (tgt := 272) C dX9_strings_268 rfl ?_
    have h := Option.some.inj h
    subst h
    exact r_ret C rfl dX9_strings_272 hE
def X9_strings_j131 (N : Nat)   (v1 : Int32) (v2 : Int32) (σ : Sg) : Option (Int32 × Sg) :=
  (X9_faultOf N v1 35 v2 σ).bind fun r29 => (if 0 ≤ r29 then ((X9_putsBy N σ).bind fun r32 => (X9_strings_l159 N (fun v5 σ => X9_strings_j257 N v5 σ) N 0 0 r32)) else (some (r29, σ)))
set_option maxRecDepth 100000 in
set_option maxHeartbeats 4000000 in
theorem X9_strings_j131_ok {E : Ev}  {N : Nat}    {v1 : Int32} {v2 : Int32} {σ : Sg} {r : Int32 × Sg} (h : X9_strings_j131 N   v1 v2 σ = some r) : Gp E RX9 cX9_strings (some .int) 8 (4) SH0 r.2 (some (.int r.1)) σ 131 [(0, .ref 149), (1, .int v1), (2, .int v2)] [] := by
  intro Z C hE
  unfold X9_strings_j131 at h
  refine r_aload_n (pc' := 132) C dX9_strings_131 rfl 0 rfl ?_
  refine r_iload_n (pc' := 133) C dX9_strings_132 rfl 1 rfl ?_
  refine r_bipush (pc' := 135) C dX9_strings_133 rfl kb_35 ?_
  refine r_iload_n (pc' := 136) C dX9_strings_135 rfl 2 rfl ?_
  obtain ⟨r29, e30, h⟩ := bd h
  refine r_cV1 (pc' := 139) C (X9_faultOf_ok  e30) mlX9_192 ceX9_faultOf cvX9_faultOf sh_149 rfl rfl rfl (Nat.le_of_ble_eq_true rfl) rfl (Nat.le_of_ble_eq_true rfl) dX9_strings_136 rfl (kk := ?_)
  refine r_istore (pc' := 141) (lv2 := [(4, .int r29), (0, .ref 149), (1, .int v1), (2, .int v2)]) C dX9_strings_139 rfl (Nat.le_of_ble_eq_true rfl) rfl ?_
  refine r_iload (pc' := 143) C dX9_strings_141 rfl 0 rfl ?_
  refine r_if_ge (tgt := 149) (pc' := 146) C dX9_strings_143 rfl rfl (fun c31 => ?_) (fun c31 => ?_)
  · rw [if_pos c31] at h
    refine r_aload_n (pc' := 150) C dX9_strings_149 rfl 1 rfl ?_
    obtain ⟨r32, e33, h⟩ := bd h
    refine r_cV0 (pc' := 153) C (X9_putsBy_ok  e33) mlX9_209 ceX9_putsBy cvX9_putsBy sh_149 rfl rfl rfl (Nat.le_of_ble_eq_true rfl) rfl (Nat.le_of_ble_eq_true rfl) dX9_strings_150 rfl (kk := ?_)
    refine r_iconst (pc' := 154) C dX9_strings_153 rfl kc_0 ?_
    refine r_istore (pc' := 156) (lv2 := [(5, .int 0), (4, .int r29), (0, .ref 149), (1, .int v1), (2, .int v2)]) C dX9_strings_154 rfl (Nat.le_of_ble_eq_true rfl) rfl ?_
    refine r_iconst (pc' := 157) C dX9_strings_156 rfl kc_0 ?_
    refine r_istore (pc' := 159) (lv2 := [(6, .int 0), (5, .int 0), (4, .int r29), (0, .ref 149), (1, .int v1), (2, .int v2)]) C dX9_strings_157 rfl (Nat.le_of_ble_eq_true rfl) rfl ?_
    refine r_sub [3, 1, 0] rfl ?_
    exact X9_strings_l159_ok  (fun _ _ _ h Z C hE => by exact X9_strings_j257_ok  h Z C hE) N _ _ _ _ h Z C hE
  · rw [if_neg c31] at h
    refine r_iload (pc' := 148) C dX9_strings_146 rfl 0 rfl ?_
    have h := Option.some.inj h
    subst h
    exact r_ret C rfl dX9_strings_148 hE
def X9_strings (N : Nat)   (σ : Sg) : Option (Int32 × Sg) :=
  bnS (wi σ 149 0 0) fun σ1 => (X9_begins N 35 σ1).bind fun r3 => (bnS (wi r3.2 149 16 0) fun σ5 => if r3.1 ≤ 0 then (X9_strings_l29 N (fun v1 v2 σ => X9_strings_j131 N v1 v2 σ) N r3.1 1 0 σ5) else (X9_strings_l29 N (fun v1 v2 σ => X9_strings_j131 N v1 v2 σ) N r3.1 1 1 σ5))
set_option maxRecDepth 100000 in
set_option maxHeartbeats 4000000 in
theorem X9_strings_ok {E : Ev}  {N : Nat}  {σ : Sg} {r : Int32 × Sg} (h : X9_strings N   σ = some r) : Cm E (4) yX9_strings cX9_strings 8 (some .int) [.ref 149] SH0 SH0 σ r.2 (some (.int r.1)) 0 0 := by
  refine Cm.intro (by decide +kernel) (Nat.le_of_ble_eq_true rfl) (fun _ h => by obtain ⟨_, _, _, _, _, _, h⟩ := h; exact h) (fun Z C hE => ?_)
  show Wm E Z 0 0 SH0 σ 0 [(0, .ref 149)] []
  unfold X9_strings at h
  refine r_aload_n (pc' := 1) C dX9_strings_0 rfl 0 rfl ?_
  refine r_iconst (pc' := 2) C dX9_strings_1 rfl kc_0 ?_
  obtain ⟨σ1, e2, h⟩ := bs h
  refine r_putI (pc' := 5) (σ1 := σ1) C fpX9_3 sh_149 rfl rfl rfl dX9_strings_2 rfl e2 ?_
  refine r_aload_n (pc' := 6) C dX9_strings_5 rfl 0 rfl ?_
  refine r_bipush (pc' := 8) C dX9_strings_6 rfl kb_35 ?_
  obtain ⟨r3, e4, h⟩ := bd h
  refine r_cV1 (pc' := 11) C (X9_begins_ok  e4) mlX9_180 ceX9_begins cvX9_begins sh_149 rfl rfl rfl (Nat.le_of_ble_eq_true rfl) rfl (Nat.le_of_ble_eq_true rfl) dX9_strings_8 rfl (kk := ?_)
  refine r_istore_n (pc' := 12) (lv2 := [(1, .int r3.1), (0, .ref 149)]) C dX9_strings_11 rfl rfl (Nat.le_of_ble_eq_true rfl) rfl ?_
  refine r_aload_n (pc' := 13) C dX9_strings_12 rfl 1 rfl ?_
  refine r_iconst (pc' := 14) C dX9_strings_13 rfl kc_0 ?_
  obtain ⟨σ5, e6, h⟩ := bs h
  refine r_putI (pc' := 17) (σ1 := σ5) C fpX9_183 sh_149 rfl rfl rfl dX9_strings_14 rfl e6 ?_
  refine r_iconst (pc' := 18) C dX9_strings_17 rfl kc_1 ?_
  refine r_istore_n (pc' := 19) (lv2 := [(2, .int 1), (1, .int r3.1), (0, .ref 149)]) C dX9_strings_18 rfl rfl (Nat.le_of_ble_eq_true rfl) rfl ?_
  refine r_iload_n (pc' := 20) C dX9_strings_19 rfl 1 rfl ?_
  refine r_if_le (tgt := 27) (pc' := 23) C dX9_strings_20 rfl rfl (fun c7 => ?_) (fun c7 => ?_)
  · rw [if_pos c7] at h
    refine r_iconst (pc' := 28) C dX9_strings_27 rfl kc_0 ?_
    refine r_istore_n (pc' := 29) (lv2 := [(3, .int 0), (2, .int 1), (1, .int r3.1), (0, .ref 149)]) C dX9_strings_28 rfl rfl (Nat.le_of_ble_eq_true rfl) rfl ?_
    refine r_sub [3, 2, 1, 0] rfl ?_
    exact X9_strings_l29_ok  (fun _ _ _ _ h Z C hE => by exact X9_strings_j131_ok  h Z C hE) N _ _ _ _ _ h Z C hE
  · rw [if_neg c7] at h
    refine r_iconst (pc' := 24) C dX9_strings_23 rfl kc_1 ?_
    refine r_goto (tgt := 28) C dX9_strings_24 rfl ?_
    refine r_istore_n (pc' := 29) (lv2 := [(3, .int 1), (2, .int 1), (1, .int r3.1), (0, .ref 149)]) C dX9_strings_28 rfl rfl (Nat.le_of_ble_eq_true rfl) rfl ?_
    refine r_sub [3, 2, 1, 0] rfl ?_
    exact X9_strings_l29_ok  (fun _ _ _ _ h Z C hE => by exact X9_strings_j131_ok  h Z C hE) N _ _ _ _ _ h Z C hE

/-! BorrowedWeightModel.isDigit()Z -/
def X9_isDigit (N : Nat)   (σ : Sg) : Option (Int32) :=
  if (gi σ 149 13) ≤ (gi σ 149 12) then (some 0) else (if inb (gi σ 149 12) 80 = true then (X9_in N ((gi σ 155 (gi σ 149 12).toNatClampNeg).toInt64) 48 57 σ).bind fun r3 => (if r3 = 0 then (some 0) else (some 1)) else none)
set_option maxRecDepth 100000 in
set_option maxHeartbeats 4000000 in
theorem X9_isDigit_ok {E : Ev}  {N : Nat}  {σ : Sg} {r : Int32} (h : X9_isDigit N   σ = some r) : Cm E (1) yX9_isDigit cX9_isDigit 1 (some .boolean) [.ref 149] SH0 SH0 σ σ (some (.int r)) 0 0 := by
  refine Cm.intro (by decide +kernel) (Nat.le_of_ble_eq_true rfl) (fun _ h => by obtain ⟨_, _, _, _, _, _, h⟩ := h; exact h) (fun Z C hE => ?_)
  show Wm E Z 0 0 SH0 σ 0 [(0, .ref 149)] []
  unfold X9_isDigit at h
  refine r_aload_n (pc' := 1) C dX9_isDigit_0 rfl 0 rfl ?_
  refine r_getI (pc' := 4) C flX9_144 sh_149 rfl dX9_isDigit_1 rfl ?_
  refine r_aload_n (pc' := 5) C dX9_isDigit_4 rfl 0 rfl ?_
  refine r_getI (pc' := 8) C flX9_156 sh_149 rfl dX9_isDigit_5 rfl ?_
  refine r_icmp_ge (tgt := 37) (pc' := 11) C dX9_isDigit_8 rfl rfl (fun c1 => ?_) (fun c1 => ?_)
  · rw [if_pos c1] at h
    refine r_iconst (pc' := 38) C dX9_isDigit_37 rfl kc_0 ?_
    have h := Option.some.inj h
    subst h
    exact r_ret C rfl dX9_isDigit_38 hE
  · rw [if_neg c1] at h
    refine r_aload_n (pc' := 12) C dX9_isDigit_11 rfl 0 rfl ?_
    refine r_getR (pc' := 15) C flX9_40 sh_149 rfl dX9_isDigit_12 rfl ?_
    refine r_aload_n (pc' := 16) C dX9_isDigit_15 rfl 0 rfl ?_
    refine r_getI (pc' := 19) C flX9_144 sh_149 rfl dX9_isDigit_16 rfl ?_
    obtain ⟨q2, h⟩ := ck h
    refine r_iald (pc' := 20) C sh_155 (vin q2) dX9_isDigit_19 rfl ?_
    refine r_i2l (pc' := 21) C dX9_isDigit_20 rfl rfl ?_
    refine r_ldc2 (pc' := 24) C cnX9_163 dX9_isDigit_21 rfl ?_
    refine r_ldc2 (pc' := 27) C cnX9_165 dX9_isDigit_24 rfl ?_
    obtain ⟨r3, e4, h⟩ := bd h
    refine r_cS1 (pc' := 30) C (X9_in_ok  e4) mlX9_119 ceX9_in csX9_in rfl (Nat.le_of_ble_eq_true rfl) rfl (Nat.le_of_ble_eq_true rfl) dX9_isDigit_27 rfl (kk := ?_)
    refine r_if_eq (tgt := 37) (pc' := 33) C dX9_isDigit_30 rfl rfl (fun c5 => ?_) (fun c5 => ?_)
    · rw [if_pos c5] at h
      refine r_iconst (pc' := 38) C dX9_isDigit_37 rfl kc_0 ?_
      have h := Option.some.inj h
      subst h
      exact r_ret C rfl dX9_isDigit_38 hE
    · rw [if_neg c5] at h
      refine r_iconst (pc' := 34) C dX9_isDigit_33 rfl kc_1 ?_
      refine r_goto (tgt := 38) C dX9_isDigit_34 rfl ?_
      have h := Option.some.inj h
      subst h
      exact r_ret C rfl dX9_isDigit_38 hE

/-! BorrowedWeightModel.number(I)I -/
def X9_number_l13 (N : Nat)    : Nat → Int32 → Int32 → Int32 → Sg → Option (Int32 × Sg)
  | 0, _, _, _, _ => none
  | n + 1, v1, v2, v3, σ =>
    if v1 ≤ v3 then (some (v2, σ)) else ((X9_isDigit N σ).bind fun r5 => (if r5 = 0 then (some (v2, σ)) else (if inb (gi σ 149 12) 80 = true then bnS (wi σ 149 12 ((gi σ 149 12) + 1)) fun σ9 => X9_number_l13 N n v1 (((10 * v2) + (gi σ 155 (gi σ 149 12).toNatClampNeg)) - 48) (v3 + 1) σ9 else none)))
set_option maxRecDepth 100000 in
set_option maxHeartbeats 4000000 in
theorem X9_number_l13_ok {E : Ev}  {N : Nat}    : ∀ (n : Nat) (v1 : Int32) (v2 : Int32) (v3 : Int32) (σ : Sg) (r : Int32 × Sg), X9_number_l13 N n v1 v2 v3 σ = some r → Gp E RX9 cX9_number (some .int) 4 (2) SH0 r.2 (some (.int r.1)) σ 13 [(0, .ref 149), (1, .int v1), (2, .int v2), (3, .int v3)] [] := by
  intro n
  induction n with
  | zero => intro v1 v2 v3 σ r h; cases h
  | succ n ih =>
    intro v1 v2 v3 σ r h Z C hE
    unfold X9_number_l13 at h
    refine r_iload_n (pc' := 14) C dX9_number_13 rfl 3 rfl ?_
    refine r_iload_n (pc' := 15) C dX9_number_14 rfl 1 rfl ?_
    refine r_icmp_ge (tgt := 59) (pc' := 18) C dX9_number_15 rfl rfl (fun c4 => ?_) (fun c4 => ?_)
    · rw [if_pos c4] at h
      refine r_iload_n (pc' := 60) C dX9_number_59 rfl 2 rfl ?_
      have h := Option.some.inj h
      subst h
      exact r_ret C rfl dX9_number_60 hE
    · rw [if_neg c4] at h
      refine r_aload_n (pc' := 19) C dX9_number_18 rfl 0 rfl ?_
      obtain ⟨r5, e6, h⟩ := bd h
      refine r_cV1 (pc' := 22) C (X9_isDigit_ok  e6) mlX9_176 ceX9_isDigit cvX9_isDigit sh_149 rfl rfl rfl (Nat.le_of_ble_eq_true rfl) rfl (Nat.le_of_ble_eq_true rfl) dX9_number_19 rfl (kk := ?_)
      refine r_if_eq (tgt := 59) (pc' := 25) C dX9_number_22 rfl rfl (fun c7 => ?_) (fun c7 => ?_)
      · rw [if_pos c7] at h
        refine r_iload_n (pc' := 60) C dX9_number_59 rfl 2 rfl ?_
        have h := Option.some.inj h
        subst h
        exact r_ret C rfl dX9_number_60 hE
      · rw [if_neg c7] at h
        refine r_bipush (pc' := 27) C dX9_number_25 rfl kb_10 ?_
        refine r_iload_n (pc' := 28) C dX9_number_27 rfl 2 rfl ?_
        refine r_imul (pc' := 29) C dX9_number_28 rfl ?_
        refine r_aload_n (pc' := 30) C dX9_number_29 rfl 0 rfl ?_
        refine r_getR (pc' := 33) C flX9_40 sh_149 rfl dX9_number_30 rfl ?_
        refine r_aload_n (pc' := 34) C dX9_number_33 rfl 0 rfl ?_
        refine r_getI (pc' := 37) C flX9_144 sh_149 rfl dX9_number_34 rfl ?_
        obtain ⟨q8, h⟩ := ck h
        refine r_iald (pc' := 38) C sh_155 (vin q8) dX9_number_37 rfl ?_
        refine r_iadd (pc' := 39) C dX9_number_38 rfl ?_
        refine r_bipush (pc' := 41) C dX9_number_39 rfl kb_48 ?_
        refine r_isub (pc' := 42) C dX9_number_41 rfl ?_
        refine r_istore_n (pc' := 43) (lv2 := [(2, .int (((10 * v2) + (gi σ 155 (gi σ 149 12).toNatClampNeg)) - 48)), (0, .ref 149), (1, .int v1), (3, .int v3)]) C dX9_number_42 rfl rfl (Nat.le_of_ble_eq_true rfl) rfl ?_
        refine r_aload_n (pc' := 44) C dX9_number_43 rfl 1 rfl ?_
        refine r_dup (pc' := 45) C dX9_number_44 rfl rfl ?_
        refine r_getI (pc' := 48) C flX9_144 sh_149 rfl dX9_number_45 rfl ?_
        refine r_iconst (pc' := 49) C dX9_number_48 rfl kc_1 ?_
        refine r_iadd (pc' := 50) C dX9_number_49 rfl ?_
        obtain ⟨σ9, e10, h⟩ := bs h
        refine r_putI (pc' := 53) (σ1 := σ9) C fpX9_144 sh_149 rfl rfl rfl dX9_number_50 rfl e10 ?_
        refine r_iinc (pc' := 56) (v := v3 + 1) (lv2 := [(3, .int (v3 + 1)), (2, .int (((10 * v2) + (gi σ 155 (gi σ 149 12).toNatClampNeg)) - 48)), (0, .ref 149), (1, .int v1)]) C dX9_number_53 rfl 3 rfl rfl (Nat.le_of_ble_eq_true rfl) rfl ?_
        refine r_goto (tgt := 13) C dX9_number_56 rfl ?_
        refine r_sub [2, 3, 1, 0] rfl ?_
        exact ih _ _ _ _ _ h Z C hE
def X9_number (N : Nat)  (v1 : Int32) (σ : Sg) : Option (Int32 × Sg) :=
  (X9_isDigit N σ).bind fun r1 => (if r1 = 0 then (some ((-1), σ)) else (X9_number_l13 N N v1 0 0 σ))
set_option maxRecDepth 100000 in
set_option maxHeartbeats 4000000 in
theorem X9_number_ok {E : Ev}  {N : Nat} {v1 : Int32} {σ : Sg} {r : Int32 × Sg} (h : X9_number N  v1 σ = some r) : Cm E (2) yX9_number cX9_number 4 (some .int) [.ref 149, .int v1] SH0 SH0 σ r.2 (some (.int r.1)) 0 0 := by
  refine Cm.intro (by decide +kernel) (Nat.le_of_ble_eq_true rfl) (fun _ h => by obtain ⟨_, _, _, _, _, _, h⟩ := h; exact h) (fun Z C hE => ?_)
  show Wm E Z 0 0 SH0 σ 0 [(0, .ref 149), (1, .int v1)] []
  unfold X9_number at h
  refine r_aload_n (pc' := 1) C dX9_number_0 rfl 0 rfl ?_
  obtain ⟨r1, e2, h⟩ := bd h
  refine r_cV1 (pc' := 4) C (X9_isDigit_ok  e2) mlX9_176 ceX9_isDigit cvX9_isDigit sh_149 rfl rfl rfl (Nat.le_of_ble_eq_true rfl) rfl (Nat.le_of_ble_eq_true rfl) dX9_number_1 rfl (kk := ?_)
  refine r_if_ne (tgt := 9) (pc' := 7) C dX9_number_4 rfl rfl (fun c3 => ?_) (fun c3 => ?_)
  · rw [if_neg c3] at h
    refine r_iconst (pc' := 10) C dX9_number_9 rfl kc_0 ?_
    refine r_istore_n (pc' := 11) (lv2 := [(2, .int 0), (0, .ref 149), (1, .int v1)]) C dX9_number_10 rfl rfl (Nat.le_of_ble_eq_true rfl) rfl ?_
    refine r_iconst (pc' := 12) C dX9_number_11 rfl kc_0 ?_
    refine r_istore_n (pc' := 13) (lv2 := [(3, .int 0), (2, .int 0), (0, .ref 149), (1, .int v1)]) C dX9_number_12 rfl rfl (Nat.le_of_ble_eq_true rfl) rfl ?_
    refine r_sub [2, 3, 1, 0] rfl ?_
    exact X9_number_l13_ok  N _ _ _ _ _ h Z C hE
  · rw [if_pos c3] at h
    refine r_iconst (pc' := 8) C dX9_number_7 rfl kc_m1 ?_
    have h := Option.some.inj h
    subst h
    exact r_ret C rfl dX9_number_8 hE

/-! BorrowedWeightModel.winds()I -/
def X9_winds_l14 (N : Nat)  (k44 : Int32 → Sg → Option (Int32 × Sg))  : Nat → Int32 → Sg → Option (Int32 × Sg)
  | 0, _, _ => none
  | n + 1, v1, σ =>
    if 20 ≤ v1 then (k44 v1 σ) else ((X9_isDigit N σ).bind fun r6 => (if r6 = 0 then (k44 v1 σ) else ((X9_number N 1 σ).bind fun r9 => (if inb v1 48 = true then bnS (wi r9.2 156 v1.toNatClampNeg r9.1) fun σ12 => X9_winds_l14 N k44 n (v1 + 1) σ12 else none))))
set_option maxRecDepth 100000 in
set_option maxHeartbeats 4000000 in
theorem X9_winds_l14_ok {E : Ev}  {N : Nat} {k44 : Int32 → Sg → Option (Int32 × Sg)}  (hk44 : ∀ (v1 : Int32) (σ : Sg) (r : Int32 × Sg), k44 v1 σ = some r → Gp E RX9 cX9_winds (some .int) 3 (3) SH0 r.2 (some (.int r.1)) σ 44 [(0, .ref 149), (1, .int v1)] []) : ∀ (n : Nat) (v1 : Int32) (σ : Sg) (r : Int32 × Sg), X9_winds_l14 N k44 n v1 σ = some r → Gp E RX9 cX9_winds (some .int) 3 (3) SH0 r.2 (some (.int r.1)) σ 14 [(0, .ref 149), (1, .int v1)] [] := by
  intro n
  induction n with
  | zero => intro v1 σ r h; cases h
  | succ n ih =>
    intro v1 σ r h Z C hE
    unfold X9_winds_l14 at h
    refine r_iload_n (pc' := 15) C dX9_winds_14 rfl 1 rfl ?_
    refine r_bipush (pc' := 17) C dX9_winds_15 rfl kb_20 ?_
    refine r_icmp_ge (tgt := 44) (pc' := 20) C dX9_winds_17 rfl rfl (fun c5 => ?_) (fun c5 => ?_)
    · rw [if_pos c5] at h
      exact hk44 _ _ _ h Z C hE
    · rw [if_neg c5] at h
      refine r_aload_n (pc' := 21) C dX9_winds_20 rfl 0 rfl ?_
      obtain ⟨r6, e7, h⟩ := bd h
      refine r_cV1 (pc' := 24) C (X9_isDigit_ok  e7) mlX9_176 ceX9_isDigit cvX9_isDigit sh_149 rfl rfl rfl (Nat.le_of_ble_eq_true rfl) rfl (Nat.le_of_ble_eq_true rfl) dX9_winds_21 rfl (kk := ?_)
      refine r_if_eq (tgt := 44) (pc' := 27) C dX9_winds_24 rfl rfl (fun c8 => ?_) (fun c8 => ?_)
      · rw [if_pos c8] at h
        exact hk44 _ _ _ h Z C hE
      · rw [if_neg c8] at h
        refine r_aload_n (pc' := 28) C dX9_winds_27 rfl 0 rfl ?_
        refine r_getR (pc' := 31) C flX9_43 sh_149 rfl dX9_winds_28 rfl ?_
        refine r_iload_n (pc' := 32) C dX9_winds_31 rfl 1 rfl ?_
        refine r_aload_n (pc' := 33) C dX9_winds_32 rfl 0 rfl ?_
        refine r_iconst (pc' := 34) C dX9_winds_33 rfl kc_1 ?_
        obtain ⟨r9, e10, h⟩ := bd h
        refine r_cV1 (pc' := 37) C (X9_number_ok  e10) mlX9_219 ceX9_number cvX9_number sh_149 rfl rfl rfl (Nat.le_of_ble_eq_true rfl) rfl (Nat.le_of_ble_eq_true rfl) dX9_winds_34 rfl (kk := ?_)
        obtain ⟨q11, h⟩ := ck h
        obtain ⟨σ12, e13, h⟩ := bs h
        refine r_iast (pc' := 38) (σ1 := σ12) C sh_156 (vin q11) dX9_winds_37 rfl e13 ?_
        refine r_iinc (pc' := 41) (v := v1 + 1) (lv2 := [(1, .int (v1 + 1)), (0, .ref 149)]) C dX9_winds_38 rfl 1 rfl rfl (Nat.le_of_ble_eq_true rfl) rfl ?_
        refine r_goto (tgt := 14) C dX9_winds_41 rfl ?_
        refine r_sub [1, 0] rfl ?_
        exact ih _ _ _ h Z C hE
def X9_winds_l73 (N : Nat)    : Nat → Int32 → Int32 → Sg → Option (Int32 × Sg)
  | 0, _, _, _ => none
  | n + 1, v1, v2, σ =>
    if v1 ≤ v2 then (some (v1, σ)) else (if inb v2 48 = true then if inb v2 20 = true then bnS (wi σ 152 v2.toNatClampNeg (gi σ 156 v2.toNatClampNeg)) fun σ21 => X9_winds_l73 N n v1 (v2 + 1) σ21 else none else none)
set_option maxRecDepth 100000 in
set_option maxHeartbeats 4000000 in
theorem X9_winds_l73_ok {E : Ev}  {N : Nat}    : ∀ (n : Nat) (v1 : Int32) (v2 : Int32) (σ : Sg) (r : Int32 × Sg), X9_winds_l73 N n v1 v2 σ = some r → Gp E RX9 cX9_winds (some .int) 3 (3) SH0 r.2 (some (.int r.1)) σ 73 [(0, .ref 149), (1, .int v1), (2, .int v2)] [] := by
  intro n
  induction n with
  | zero => intro v1 v2 σ r h; cases h
  | succ n ih =>
    intro v1 v2 σ r h Z C hE
    unfold X9_winds_l73 at h
    refine r_iload_n (pc' := 74) C dX9_winds_73 rfl 2 rfl ?_
    refine r_iload_n (pc' := 75) C dX9_winds_74 rfl 1 rfl ?_
    refine r_icmp_ge (tgt := 96) (pc' := 78) C dX9_winds_75 rfl rfl (fun c18 => ?_) (fun c18 => ?_)
    · rw [if_pos c18] at h
      refine r_iload_n (pc' := 97) C dX9_winds_96 rfl 1 rfl ?_
      have h := Option.some.inj h
      subst h
      exact r_ret C rfl dX9_winds_97 hE
    · rw [if_neg c18] at h
      refine r_aload_n (pc' := 79) C dX9_winds_78 rfl 0 rfl ?_
      refine r_getR (pc' := 82) C flX9_31 sh_149 rfl dX9_winds_79 rfl ?_
      refine r_iload_n (pc' := 83) C dX9_winds_82 rfl 2 rfl ?_
      refine r_aload_n (pc' := 84) C dX9_winds_83 rfl 0 rfl ?_
      refine r_getR (pc' := 87) C flX9_43 sh_149 rfl dX9_winds_84 rfl ?_
      refine r_iload_n (pc' := 88) C dX9_winds_87 rfl 2 rfl ?_
      obtain ⟨q19, h⟩ := ck h
      refine r_iald (pc' := 89) C sh_156 (vin q19) dX9_winds_88 rfl ?_
      obtain ⟨q20, h⟩ := ck h
      obtain ⟨σ21, e22, h⟩ := bs h
      refine r_iast (pc' := 90) (σ1 := σ21) C sh_152 (vin q20) dX9_winds_89 rfl e22 ?_
      refine r_iinc (pc' := 93) (v := v2 + 1) (lv2 := [(2, .int (v2 + 1)), (0, .ref 149), (1, .int v1)]) C dX9_winds_90 rfl 2 rfl rfl (Nat.le_of_ble_eq_true rfl) rfl ?_
      refine r_goto (tgt := 73) C dX9_winds_93 rfl ?_
      refine r_sub [1, 2, 0] rfl ?_
      exact ih _ _ _ _ h Z C hE
def X9_winds_j44 (N : Nat)   (v1 : Int32) (σ : Sg) : Option (Int32 × Sg) :=
  if v1 = 0 then (some ((-1) - (gi σ 149 12), σ)) else (if (gi σ 149 13) ≤ (gi σ 149 12) then (bnS (wi σ 149 5 v1) fun σ16 => X9_winds_l73 N N v1 0 σ16) else (some ((-1) - (gi σ 149 12), σ)))
set_option maxRecDepth 100000 in
set_option maxHeartbeats 4000000 in
theorem X9_winds_j44_ok {E : Ev}  {N : Nat}    {v1 : Int32} {σ : Sg} {r : Int32 × Sg} (h : X9_winds_j44 N   v1 σ = some r) : Gp E RX9 cX9_winds (some .int) 3 (3) SH0 r.2 (some (.int r.1)) σ 44 [(0, .ref 149), (1, .int v1)] [] := by
  intro Z C hE
  unfold X9_winds_j44 at h
  refine r_iload_n (pc' := 45) C dX9_winds_44 rfl 1 rfl ?_
  refine r_if_eq (tgt := 59) (pc' := 48) C dX9_winds_45 rfl rfl (fun c14 => ?_) (fun c14 => ?_)
  · rw [if_pos c14] at h
    refine r_iconst (pc' := 60) C dX9_winds_59 rfl kc_m1 ?_
    refine r_aload_n (pc' := 61) C dX9_winds_60 rfl 0 rfl ?_
    refine r_getI (pc' := 64) C flX9_144 sh_149 rfl dX9_winds_61 rfl ?_
    refine r_isub (pc' := 65) C dX9_winds_64 rfl ?_
    have h := Option.some.inj h
    subst h
    exact r_ret C rfl dX9_winds_65 hE
  · rw [if_neg c14] at h
    refine r_aload_n (pc' := 49) C dX9_winds_48 rfl 0 rfl ?_
    refine r_getI (pc' := 52) C flX9_144 sh_149 rfl dX9_winds_49 rfl ?_
    refine r_aload_n (pc' := 53) C dX9_winds_52 rfl 0 rfl ?_
    refine r_getI (pc' := 56) C flX9_156 sh_149 rfl dX9_winds_53 rfl ?_
    refine r_icmp_ge (tgt := 66) (pc' := 59) C dX9_winds_56 rfl rfl (fun c15 => ?_) (fun c15 => ?_)
    · rw [if_pos c15] at h
      refine r_aload_n (pc' := 67) C dX9_winds_66 rfl 0 rfl ?_
      refine r_iload_n (pc' := 68) C dX9_winds_67 rfl 1 rfl ?_
      obtain ⟨σ16, e17, h⟩ := bs h
      refine r_putI (pc' := 71) (σ1 := σ16) C fpX9_24 sh_149 rfl rfl rfl dX9_winds_68 rfl e17 ?_
      refine r_iconst (pc' := 72) C dX9_winds_71 rfl kc_0 ?_
      refine r_istore_n (pc' := 73) (lv2 := [(2, .int 0), (0, .ref 149), (1, .int v1)]) C dX9_winds_72 rfl rfl (Nat.le_of_ble_eq_true rfl) rfl ?_
      refine r_sub [1, 2, 0] rfl ?_
      exact X9_winds_l73_ok  N _ _ _ _ h Z C hE
    · rw [if_neg c15] at h
      refine r_iconst (pc' := 60) C dX9_winds_59 rfl kc_m1 ?_
      refine r_aload_n (pc' := 61) C dX9_winds_60 rfl 0 rfl ?_
      refine r_getI (pc' := 64) C flX9_144 sh_149 rfl dX9_winds_61 rfl ?_
      refine r_isub (pc' := 65) C dX9_winds_64 rfl ?_
      have h := Option.some.inj h
      subst h
      exact r_ret C rfl dX9_winds_65 hE
def X9_winds (N : Nat)   (σ : Sg) : Option (Int32 × Sg) :=
  bnS (wi σ 149 0 0) fun σ1 => (X9_begins N 80 σ1).bind fun r3 => (X9_winds_l14 N (fun v1 σ => X9_winds_j44 N v1 σ) N 0 r3.2)
set_option maxRecDepth 100000 in
set_option maxHeartbeats 4000000 in
theorem X9_winds_ok {E : Ev}  {N : Nat}  {σ : Sg} {r : Int32 × Sg} (h : X9_winds N   σ = some r) : Cm E (3) yX9_winds cX9_winds 3 (some .int) [.ref 149] SH0 SH0 σ r.2 (some (.int r.1)) 0 0 := by
  refine Cm.intro (by decide +kernel) (Nat.le_of_ble_eq_true rfl) (fun _ h => by obtain ⟨_, _, _, _, _, _, h⟩ := h; exact h) (fun Z C hE => ?_)
  show Wm E Z 0 0 SH0 σ 0 [(0, .ref 149)] []
  unfold X9_winds at h
  refine r_aload_n (pc' := 1) C dX9_winds_0 rfl 0 rfl ?_
  refine r_iconst (pc' := 2) C dX9_winds_1 rfl kc_0 ?_
  obtain ⟨σ1, e2, h⟩ := bs h
  refine r_putI (pc' := 5) (σ1 := σ1) C fpX9_3 sh_149 rfl rfl rfl dX9_winds_2 rfl e2 ?_
  refine r_aload_n (pc' := 6) C dX9_winds_5 rfl 0 rfl ?_
  refine r_bipush (pc' := 8) C dX9_winds_6 rfl kb_80 ?_
  obtain ⟨r3, e4, h⟩ := bd h
  refine r_cV1 (pc' := 11) C (X9_begins_ok  e4) mlX9_180 ceX9_begins cvX9_begins sh_149 rfl rfl rfl (Nat.le_of_ble_eq_true rfl) rfl (Nat.le_of_ble_eq_true rfl) dX9_winds_8 rfl (kk := ?_)
  refine r_pop (pc' := 12) C dX9_winds_11 rfl rfl ?_
  refine r_iconst (pc' := 13) C dX9_winds_12 rfl kc_0 ?_
  refine r_istore_n (pc' := 14) (lv2 := [(1, .int 0), (0, .ref 149)]) C dX9_winds_13 rfl rfl (Nat.le_of_ble_eq_true rfl) rfl ?_
  refine r_sub [1, 0] rfl ?_
  exact X9_winds_l14_ok  (fun _ _ _ h Z C hE => by exact X9_winds_j44_ok  h Z C hE) N _ _ _ h Z C hE
