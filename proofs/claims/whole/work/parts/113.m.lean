/-! BorrowedWeightModel.spareOf(I)I -/
def X9_spareOf_l4 (N : Nat)   (σ : Sg) : Nat → Int32 → Int32 → Int32 → Option (Int32)
  | 0, _, _, _ => none
  | n + 1, v1, v2, v3 =>
    if 8 ≤ v3 then (some v2) else ((X9_has N v1 v3 σ).bind fun r2 => (if r2 = 0 then (X9_spareOf_l4 N σ n v1 (v2 + 0) (v3 + 1)) else (if inb v3 8 = true then X9_spareOf_l4 N σ n v1 (v2 + (gi σ 167 v3.toNatClampNeg)) (v3 + 1) else none)))
set_option maxRecDepth 100000 in
set_option maxHeartbeats 4000000 in
theorem X9_spareOf_l4_ok {E : Ev}  {N : Nat}  {σ : Sg}  : ∀ (n : Nat) (v1 : Int32) (v2 : Int32) (v3 : Int32) (r : Int32), X9_spareOf_l4 N σ n v1 v2 v3 = some r → Gp E RX9 cX9_spareOf (some .int) 4 1 SH0 σ (some (.int r)) σ 4 [(0, .ref 149), (1, .int v1), (2, .int v2), (3, .int v3)] [] := by
  intro n
  induction n with
  | zero => intro v1 v2 v3 r h; cases h
  | succ n ih =>
    intro v1 v2 v3 r h Z C hE
    unfold X9_spareOf_l4 at h
    refine r_iload_n (pc' := 5) C dX9_spareOf_4 rfl 3 rfl ?_
    refine r_bipush (pc' := 7) C dX9_spareOf_5 rfl kb_8 ?_
    refine r_icmp_ge (tgt := 37) (pc' := 10) C dX9_spareOf_7 rfl rfl (fun c1 => ?_) (fun c1 => ?_)
    · rw [if_pos c1] at h
      refine r_iload_n (pc' := 38) C dX9_spareOf_37 rfl 2 rfl ?_
      have h := Option.some.inj h
      subst h
      exact r_ret C rfl dX9_spareOf_38 hE
    · rw [if_neg c1] at h
      refine r_iload_n (pc' := 11) C dX9_spareOf_10 rfl 2 rfl ?_
      refine r_iload_n (pc' := 12) C dX9_spareOf_11 rfl 1 rfl ?_
      refine r_iload_n (pc' := 13) C dX9_spareOf_12 rfl 3 rfl ?_
      obtain ⟨r2, e3, h⟩ := bd h
      refine r_cS1 (pc' := 16) C (X9_has_ok  e3) mlX9_127 ceX9_has csX9_has rfl (Nat.le_of_ble_eq_true rfl) rfl (Nat.le_of_ble_eq_true rfl) dX9_spareOf_13 rfl (kk := ?_)
      refine r_if_eq (tgt := 28) (pc' := 19) C dX9_spareOf_16 rfl rfl (fun c4 => ?_) (fun c4 => ?_)
      · rw [if_pos c4] at h
        refine r_iconst (pc' := 29) C dX9_spareOf_28 rfl kc_0 ?_
        refine r_iadd (pc' := 30) C dX9_spareOf_29 rfl ?_
        refine r_istore_n (pc' := 31) (lv2 := [(2, .int (v2 + 0)), (0, .ref 149), (1, .int v1), (3, .int v3)]) C dX9_spareOf_30 rfl rfl (Nat.le_of_ble_eq_true rfl) rfl ?_
        refine r_iinc (pc' := 34) (v := v3 + 1) (lv2 := [(3, .int (v3 + 1)), (2, .int (v2 + 0)), (0, .ref 149), (1, .int v1)]) C dX9_spareOf_31 rfl 3 rfl rfl (Nat.le_of_ble_eq_true rfl) rfl ?_
        refine r_goto (tgt := 4) C dX9_spareOf_34 rfl ?_
        refine r_sub [2, 3, 1, 0] rfl ?_
        exact ih _ _ _ _ h Z C hE
      · rw [if_neg c4] at h
        refine r_aload_n (pc' := 20) C dX9_spareOf_19 rfl 0 rfl ?_
        refine r_getR (pc' := 23) C flX9_76 sh_149 rfl dX9_spareOf_20 rfl ?_
        refine r_iload_n (pc' := 24) C dX9_spareOf_23 rfl 3 rfl ?_
        obtain ⟨q5, h⟩ := ck h
        refine r_iald (pc' := 25) C sh_167 (vin q5) dX9_spareOf_24 rfl ?_
        refine r_goto (tgt := 29) C dX9_spareOf_25 rfl ?_
        refine r_iadd (pc' := 30) C dX9_spareOf_29 rfl ?_
        refine r_istore_n (pc' := 31) (lv2 := [(2, .int (v2 + (gi σ 167 v3.toNatClampNeg))), (0, .ref 149), (1, .int v1), (3, .int v3)]) C dX9_spareOf_30 rfl rfl (Nat.le_of_ble_eq_true rfl) rfl ?_
        refine r_iinc (pc' := 34) (v := v3 + 1) (lv2 := [(3, .int (v3 + 1)), (2, .int (v2 + (gi σ 167 v3.toNatClampNeg))), (0, .ref 149), (1, .int v1)]) C dX9_spareOf_31 rfl 3 rfl rfl (Nat.le_of_ble_eq_true rfl) rfl ?_
        refine r_goto (tgt := 4) C dX9_spareOf_34 rfl ?_
        refine r_sub [2, 3, 1, 0] rfl ?_
        exact ih _ _ _ _ h Z C hE
def X9_spareOf (N : Nat)  (v1 : Int32) (σ : Sg) : Option (Int32) :=
  X9_spareOf_l4 N σ N v1 0 0
set_option maxRecDepth 100000 in
set_option maxHeartbeats 4000000 in
theorem X9_spareOf_ok {E : Ev}  {N : Nat} {v1 : Int32} {σ : Sg} {r : Int32} (h : X9_spareOf N  v1 σ = some r) : Cm E 1 yX9_spareOf cX9_spareOf 4 (some .int) [.ref 149, .int v1] SH0 SH0 σ σ (some (.int r)) 0 0 := by
  refine Cm.intro (by decide +kernel) (Nat.le_of_ble_eq_true rfl) (fun _ h => by obtain ⟨_, _, _, _, _, _, h⟩ := h; exact h) (fun Z C hE => ?_)
  show Wm E Z 0 0 SH0 σ 0 [(0, .ref 149), (1, .int v1)] []
  unfold X9_spareOf at h
  refine r_iconst (pc' := 1) C dX9_spareOf_0 rfl kc_0 ?_
  refine r_istore_n (pc' := 2) (lv2 := [(2, .int 0), (0, .ref 149), (1, .int v1)]) C dX9_spareOf_1 rfl rfl (Nat.le_of_ble_eq_true rfl) rfl ?_
  refine r_iconst (pc' := 3) C dX9_spareOf_2 rfl kc_0 ?_
  refine r_istore_n (pc' := 4) (lv2 := [(3, .int 0), (2, .int 0), (0, .ref 149), (1, .int v1)]) C dX9_spareOf_3 rfl rfl (Nat.le_of_ble_eq_true rfl) rfl ?_
  refine r_sub [2, 3, 1, 0] rfl ?_
  exact X9_spareOf_l4_ok  N _ _ _ _ h Z C hE

/-! BorrowedWeightModel.binds()I -/
def X9_binds_l38 (N : Nat)  (k85 : Int32 → Sg → Option (Int32 × Sg))  : Nat → Int32 → Int32 → Sg → Option (Int32 × Sg)
  | 0, _, _, _ => none
  | n + 1, v1, v2, σ =>
    if 8 ≤ v2 then (k85 v1 σ) else ((X9_has N v1 v2 σ).bind fun r11 => (if r11 = 0 then (if inb v2 8 = true then bnS (wi σ 167 v2.toNatClampNeg 0) fun σ15 => X9_binds_l38 N k85 n v1 (v2 + 1) σ15 else none) else ((X9_bundle N 153 v2 σ).bind fun r17 => ((X9_above N 153 r17 σ).bind fun r19 => (if inb v2 8 = true then bnS (wi r19.2 167 v2.toNatClampNeg r19.1) fun σ22 => X9_binds_l38 N k85 n v1 (v2 + 1) σ22 else none)))))
set_option maxRecDepth 100000 in
set_option maxHeartbeats 4000000 in
theorem X9_binds_l38_ok {E : Ev}  {N : Nat} {k85 : Int32 → Sg → Option (Int32 × Sg)}  (hk85 : ∀ (v1 : Int32) (σ : Sg) (r : Int32 × Sg), k85 v1 σ = some r → Gp E RX9 cX9_binds (some .int) 5 6 SH0 r.2 (some (.int r.1)) σ 85 [(0, .ref 149), (1, .int v1)] []) : ∀ (n : Nat) (v1 : Int32) (v2 : Int32) (σ : Sg) (r : Int32 × Sg), X9_binds_l38 N k85 n v1 v2 σ = some r → Gp E RX9 cX9_binds (some .int) 5 6 SH0 r.2 (some (.int r.1)) σ 38 [(0, .ref 149), (1, .int v1), (2, .int v2)] [] := by
  intro n
  induction n with
  | zero => intro v1 v2 σ r h; cases h
  | succ n ih =>
    intro v1 v2 σ r h Z C hE
    unfold X9_binds_l38 at h
    refine r_iload_n (pc' := 39) C dX9_binds_38 rfl 2 rfl ?_
    refine r_bipush (pc' := 41) C dX9_binds_39 rfl kb_8 ?_
    refine r_icmp_ge (tgt := 85) (pc' := 44) C dX9_binds_41 rfl rfl (fun c10 => ?_) (fun c10 => ?_)
    · rw [if_pos c10] at h
      refine r_sub [0, 1] rfl ?_
      exact hk85 _ _ _ h Z C hE
    · rw [if_neg c10] at h
      refine r_aload_n (pc' := 45) C dX9_binds_44 rfl 0 rfl ?_
      refine r_getR (pc' := 48) C flX9_76 sh_149 rfl dX9_binds_45 rfl ?_
      refine r_iload_n (pc' := 49) C dX9_binds_48 rfl 2 rfl ?_
      refine r_iload_n (pc' := 50) C dX9_binds_49 rfl 1 rfl ?_
      refine r_iload_n (pc' := 51) C dX9_binds_50 rfl 2 rfl ?_
      obtain ⟨r11, e12, h⟩ := bd h
      refine r_cS1 (pc' := 54) C (X9_has_ok  e12) mlX9_127 ceX9_has csX9_has rfl (Nat.le_of_ble_eq_true rfl) rfl (Nat.le_of_ble_eq_true rfl) dX9_binds_51 rfl (kk := ?_)
      refine r_if_eq (tgt := 77) (pc' := 57) C dX9_binds_54 rfl rfl (fun c13 => ?_) (fun c13 => ?_)
      · rw [if_pos c13] at h
        refine r_iconst (pc' := 78) C dX9_binds_77 rfl kc_0 ?_
        obtain ⟨q14, h⟩ := ck h
        obtain ⟨σ15, e16, h⟩ := bs h
        refine r_iast (pc' := 79) (σ1 := σ15) C sh_167 (vin q14) dX9_binds_78 rfl e16 ?_
        refine r_iinc (pc' := 82) (v := v2 + 1) (lv2 := [(2, .int (v2 + 1)), (0, .ref 149), (1, .int v1)]) C dX9_binds_79 rfl 2 rfl rfl (Nat.le_of_ble_eq_true rfl) rfl ?_
        refine r_goto (tgt := 38) C dX9_binds_82 rfl ?_
        refine r_sub [1, 2, 0] rfl ?_
        exact ih _ _ _ _ h Z C hE
      · rw [if_neg c13] at h
        refine r_aload_n (pc' := 58) C dX9_binds_57 rfl 0 rfl ?_
        refine r_aload_n (pc' := 59) C dX9_binds_58 rfl 0 rfl ?_
        refine r_getR (pc' := 62) C flX9_34 sh_149 rfl dX9_binds_59 rfl ?_
        refine r_aload_n (pc' := 63) C dX9_binds_62 rfl 0 rfl ?_
        refine r_aload_n (pc' := 64) C dX9_binds_63 rfl 0 rfl ?_
        refine r_getR (pc' := 67) C flX9_34 sh_149 rfl dX9_binds_64 rfl ?_
        refine r_iload_n (pc' := 68) C dX9_binds_67 rfl 2 rfl ?_
        obtain ⟨r17, e18, h⟩ := bd h
        refine r_cV1 (pc' := 71) C (X9_bundle_ok mac_153 e18) mlX9_281 ceX9_bundle cvX9_bundle sh_149 rfl rfl rfl (Nat.le_of_ble_eq_true rfl) rfl (Nat.le_of_ble_eq_true rfl) dX9_binds_68 rfl (kk := ?_)
        obtain ⟨r19, e20, h⟩ := bd h
        refine r_cV1 (pc' := 74) C (X9_above_ok mac_153 e20) mlX9_287 ceX9_above cvX9_above sh_149 rfl rfl rfl (Nat.le_of_ble_eq_true rfl) rfl (Nat.le_of_ble_eq_true rfl) dX9_binds_71 rfl (kk := ?_)
        refine r_goto (tgt := 78) C dX9_binds_74 rfl ?_
        obtain ⟨q21, h⟩ := ck h
        obtain ⟨σ22, e23, h⟩ := bs h
        refine r_iast (pc' := 79) (σ1 := σ22) C sh_167 (vin q21) dX9_binds_78 rfl e23 ?_
        refine r_iinc (pc' := 82) (v := v2 + 1) (lv2 := [(2, .int (v2 + 1)), (0, .ref 149), (1, .int v1)]) C dX9_binds_79 rfl 2 rfl rfl (Nat.le_of_ble_eq_true rfl) rfl ?_
        refine r_goto (tgt := 38) C dX9_binds_82 rfl ?_
        refine r_sub [1, 2, 0] rfl ?_
        exact ih _ _ _ _ h Z C hE
def X9_binds_l125 (N : Nat)  (k187 : Int32 → Int32 → Sg → Option (Int32 × Sg))  : Nat → Int32 → Int32 → Int32 → Int32 → Sg → Option (Int32 × Sg)
  | 0, _, _, _, _, _ => none
  | n + 1, v1, v2, v3, v4, σ =>
    if v2 < v4 then (k187 v1 v2 σ) else (if v3 = 0 then (k187 v1 v2 σ) else (if (v4 &&& (v2 ^^^ (-1))) = 0 then ((X9_spareOf N v4 σ).bind fun r35 => (if r35 < 0 then (X9_binds_l125 N k187 n v1 v2 v3 (v4 + 1) σ) else (if inb v2 256 = true then if inb (v2 &&& (v4 ^^^ (-1))) 256 = true then (J9_max_7cf53 N (gi σ 166 v2.toNatClampNeg) ((gi σ 166 (v2 &&& (v4 ^^^ (-1))).toNatClampNeg) + 1) σ).bind fun r40 => (if inb v2 256 = true then bnS (wi σ 166 v2.toNatClampNeg r40) fun σ43 => X9_binds_l125 N k187 n v1 v2 v3 (v4 + 1) σ43 else none) else none else none))) else (X9_binds_l125 N k187 n v1 v2 v3 (v4 + 1) σ)))
set_option maxRecDepth 100000 in
set_option maxHeartbeats 4000000 in
theorem X9_binds_l125_ok {E : Ev}  {N : Nat} {k187 : Int32 → Int32 → Sg → Option (Int32 × Sg)}  (hk187 : ∀ (v1 : Int32) (v2 : Int32) (σ : Sg) (r : Int32 × Sg), k187 v1 v2 σ = some r → Gp E RX9 cX9_binds (some .int) 5 6 SH0 r.2 (some (.int r.1)) σ 187 [(0, .ref 149), (1, .int v1), (2, .int v2)] []) : ∀ (n : Nat) (v1 : Int32) (v2 : Int32) (v3 : Int32) (v4 : Int32) (σ : Sg) (r : Int32 × Sg), X9_binds_l125 N k187 n v1 v2 v3 v4 σ = some r → Gp E RX9 cX9_binds (some .int) 5 6 SH0 r.2 (some (.int r.1)) σ 125 [(0, .ref 149), (1, .int v1), (2, .int v2), (3, .int v3), (4, .int v4)] [] := by
  intro n
  induction n with
  | zero => intro v1 v2 v3 v4 σ r h; cases h
  | succ n ih =>
    intro v1 v2 v3 v4 σ r h Z C hE
    unfold X9_binds_l125 at h
    refine r_iload (pc' := 127) C dX9_binds_125 rfl 4 rfl ?_
    refine r_iload_n (pc' := 128) C dX9_binds_127 rfl 2 rfl ?_
    refine r_icmp_gt (tgt := 187) (pc' := 131) C dX9_binds_128 rfl rfl (fun c32 => ?_) (fun c32 => ?_)
    · rw [if_pos c32] at h
      refine r_sub [0, 1, 2] rfl ?_
      exact hk187 _ _ _ _ h Z C hE
    · rw [if_neg c32] at h
      refine r_iload_n (pc' := 132) C dX9_binds_131 rfl 3 rfl ?_
      refine r_if_eq (tgt := 187) (pc' := 135) C dX9_binds_132 rfl rfl (fun c33 => ?_) (fun c33 => ?_)
      · rw [if_pos c33] at h
        refine r_sub [0, 1, 2] rfl ?_
        exact hk187 _ _ _ _ h Z C hE
      · rw [if_neg c33] at h
        refine r_iload (pc' := 137) C dX9_binds_135 rfl 4 rfl ?_
        refine r_iload_n (pc' := 138) C dX9_binds_137 rfl 2 rfl ?_
        refine r_iconst (pc' := 139) C dX9_binds_138 rfl kc_m1 ?_
        refine r_ixor (pc' := 140) C dX9_binds_139 rfl ?_
        refine r_iand (pc' := 141) C dX9_binds_140 rfl ?_
        refine r_if_ne (tgt := 181) (pc' := 144) C dX9_binds_141 rfl rfl (fun c34 => ?_) (fun c34 => ?_)
        · rw [if_neg c34] at h
          refine r_iinc (pc' := 184) (v := v4 + 1) (lv2 := [(4, .int (v4 + 1)), (0, .ref 149), (1, .int v1), (2, .int v2), (3, .int v3)]) C dX9_binds_181 rfl 4 rfl rfl (Nat.le_of_ble_eq_true rfl) rfl ?_
          refine r_goto (tgt := 125) C dX9_binds_184 rfl ?_
          refine r_sub [1, 2, 3, 4, 0] rfl ?_
          exact ih _ _ _ _ _ _ h Z C hE
        · rw [if_pos c34] at h
          refine r_aload_n (pc' := 145) C dX9_binds_144 rfl 0 rfl ?_
          refine r_iload (pc' := 147) C dX9_binds_145 rfl 4 rfl ?_
          obtain ⟨r35, e36, h⟩ := bd h
          refine r_cV1 (pc' := 150) C (X9_spareOf_ok  e36) mlX9_367 ceX9_spareOf cvX9_spareOf sh_149 rfl rfl rfl (Nat.le_of_ble_eq_true rfl) rfl (Nat.le_of_ble_eq_true rfl) dX9_binds_147 rfl (kk := ?_)
          refine r_if_lt (tgt := 181) (pc' := 153) C dX9_binds_150 rfl rfl (fun c37 => ?_) (fun c37 => ?_)
          · rw [if_pos c37] at h
            refine r_iinc (pc' := 184) (v := v4 + 1) (lv2 := [(4, .int (v4 + 1)), (0, .ref 149), (1, .int v1), (2, .int v2), (3, .int v3)]) C dX9_binds_181 rfl 4 rfl rfl (Nat.le_of_ble_eq_true rfl) rfl ?_
            refine r_goto (tgt := 125) C dX9_binds_184 rfl ?_
            refine r_sub [1, 2, 3, 4, 0] rfl ?_
            exact ih _ _ _ _ _ _ h Z C hE
          · rw [if_neg c37] at h
            refine r_aload_n (pc' := 154) C dX9_binds_153 rfl 0 rfl ?_
            refine r_getR (pc' := 157) C flX9_73 sh_149 rfl dX9_binds_154 rfl ?_
            refine r_iload_n (pc' := 158) C dX9_binds_157 rfl 2 rfl ?_
            refine r_aload_n (pc' := 159) C dX9_binds_158 rfl 0 rfl ?_
            refine r_getR (pc' := 162) C flX9_73 sh_149 rfl dX9_binds_159 rfl ?_
            refine r_iload_n (pc' := 163) C dX9_binds_162 rfl 2 rfl ?_
            obtain ⟨q38, h⟩ := ck h
            refine r_iald (pc' := 164) C sh_166 (vin q38) dX9_binds_163 rfl ?_
            refine r_aload_n (pc' := 165) C dX9_binds_164 rfl 0 rfl ?_
            refine r_getR (pc' := 168) C flX9_73 sh_149 rfl dX9_binds_165 rfl ?_
            refine r_iload_n (pc' := 169) C dX9_binds_168 rfl 2 rfl ?_
            refine r_iload (pc' := 171) C dX9_binds_169 rfl 4 rfl ?_
            refine r_iconst (pc' := 172) C dX9_binds_171 rfl kc_m1 ?_
            refine r_ixor (pc' := 173) C dX9_binds_172 rfl ?_
            refine r_iand (pc' := 174) C dX9_binds_173 rfl ?_
            obtain ⟨q39, h⟩ := ck h
            refine r_iald (pc' := 175) C sh_166 (vin q39) dX9_binds_174 rfl ?_
            refine r_iconst (pc' := 176) C dX9_binds_175 rfl kc_1 ?_
            refine r_iadd (pc' := 177) C dX9_binds_176 rfl ?_
            obtain ⟨r40, e41, h⟩ := bd h
            refine r_cS1 (pc' := 180) C (J9_max_7cf53_ok  e41) mlX9_267 ceJ9_max_7cf53 csJ9_max_7cf53 rfl (Nat.le_of_ble_eq_true rfl) rfl (Nat.le_of_ble_eq_true rfl) dX9_binds_177 rfl (kk := ?_)
            obtain ⟨q42, h⟩ := ck h
            obtain ⟨σ43, e44, h⟩ := bs h
            refine r_iast (pc' := 181) (σ1 := σ43) C sh_166 (vin q42) dX9_binds_180 rfl e44 ?_
            refine r_iinc (pc' := 184) (v := v4 + 1) (lv2 := [(4, .int (v4 + 1)), (0, .ref 149), (1, .int v1), (2, .int v2), (3, .int v3)]) C dX9_binds_181 rfl 4 rfl rfl (Nat.le_of_ble_eq_true rfl) rfl ?_
            refine r_goto (tgt := 125) C dX9_binds_184 rfl ?_
            refine r_sub [1, 2, 3, 4, 0] rfl ?_
            exact ih _ _ _ _ _ _ h Z C hE
def X9_binds_j187 (N : Nat)  (kr : Int32 → Int32 → Sg → Option (Int32 × Sg)) (v1 : Int32) (v2 : Int32) (σ : Sg) : Option (Int32 × Sg) :=
  kr v1 (v2 + 1) σ
set_option maxRecDepth 100000 in
set_option maxHeartbeats 4000000 in
theorem X9_binds_j187_ok {E : Ev}  {N : Nat} {kr : Int32 → Int32 → Sg → Option (Int32 × Sg)}  (hkr : ∀ (v1 : Int32) (v2 : Int32) (σ : Sg) (r : Int32 × Sg), kr v1 v2 σ = some r → Gp E RX9 cX9_binds (some .int) 5 6 SH0 r.2 (some (.int r.1)) σ 94 [(0, .ref 149), (1, .int v1), (2, .int v2)] []) {v1 : Int32} {v2 : Int32} {σ : Sg} {r : Int32 × Sg} (h : X9_binds_j187 N  kr v1 v2 σ = some r) : Gp E RX9 cX9_binds (some .int) 5 6 SH0 r.2 (some (.int r.1)) σ 187 [(0, .ref 149), (1, .int v1), (2, .int v2)] [] := by
  intro Z C hE
  unfold X9_binds_j187 at h
  refine r_iinc (pc' := 190) (v := v2 + 1) (lv2 := [(2, .int (v2 + 1)), (0, .ref 149), (1, .int v1)]) C dX9_binds_187 rfl 2 rfl rfl (Nat.le_of_ble_eq_true rfl) rfl ?_
  refine r_goto (tgt := 94) C dX9_binds_190 rfl ?_
  refine r_sub [1, 2, 0] rfl ?_
  exact hkr _ _ _ _ h Z C hE
def X9_binds_l94 (N : Nat)  (k193 : Int32 → Sg → Option (Int32 × Sg))  : Nat → Int32 → Int32 → Sg → Option (Int32 × Sg)
  | 0, _, _, _ => none
  | n + 1, v1, v2, σ =>
    if v1 < v2 then (k193 v1 σ) else (if inb v2 256 = true then bnS (wi σ 166 v2.toNatClampNeg (-1000000)) fun σ29 => if (v2 &&& (v1 ^^^ (-1))) = 0 then (X9_binds_l125 N (fun v1 v2 σ => X9_binds_j187 N (fun v1 v2 σ => X9_binds_l94 N k193 n v1 v2 σ) v1 v2 σ) N v1 v2 1 1 σ29) else (X9_binds_l125 N (fun v1 v2 σ => X9_binds_j187 N (fun v1 v2 σ => X9_binds_l94 N k193 n v1 v2 σ) v1 v2 σ) N v1 v2 0 1 σ29) else none)
set_option maxRecDepth 100000 in
set_option maxHeartbeats 4000000 in
theorem X9_binds_l94_ok {E : Ev}  {N : Nat} {k193 : Int32 → Sg → Option (Int32 × Sg)}  (hk193 : ∀ (v1 : Int32) (σ : Sg) (r : Int32 × Sg), k193 v1 σ = some r → Gp E RX9 cX9_binds (some .int) 5 6 SH0 r.2 (some (.int r.1)) σ 193 [(0, .ref 149), (1, .int v1)] []) : ∀ (n : Nat) (v1 : Int32) (v2 : Int32) (σ : Sg) (r : Int32 × Sg), X9_binds_l94 N k193 n v1 v2 σ = some r → Gp E RX9 cX9_binds (some .int) 5 6 SH0 r.2 (some (.int r.1)) σ 94 [(0, .ref 149), (1, .int v1), (2, .int v2)] [] := by
  intro n
  induction n with
  | zero => intro v1 v2 σ r h; cases h
  | succ n ih =>
    intro v1 v2 σ r h Z C hE
    unfold X9_binds_l94 at h
    refine r_iload_n (pc' := 95) C dX9_binds_94 rfl 2 rfl ?_
    refine r_iload_n (pc' := 96) C dX9_binds_95 rfl 1 rfl ?_
    refine r_icmp_gt (tgt := 193) (pc' := 99) C dX9_binds_96 rfl rfl (fun c27 => ?_) (fun c27 => ?_)
    · rw [if_pos c27] at h
      refine r_sub [0, 1] rfl ?_
      exact hk193 _ _ _ h Z C hE
    · rw [if_neg c27] at h
      refine r_aload_n (pc' := 100) C dX9_binds_99 rfl 0 rfl ?_
      refine r_getR (pc' := 103) C flX9_73 sh_149 rfl dX9_binds_100 rfl ?_
      refine r_iload_n (pc' := 104) C dX9_binds_103 rfl 2 rfl ?_
      refine r_ldcw (pc' := 107) C cnX9_366 dX9_binds_104 rfl ?_
      obtain ⟨q28, h⟩ := ck h
      obtain ⟨σ29, e30, h⟩ := bs h
      refine r_iast (pc' := 108) (σ1 := σ29) C sh_166 (vin q28) dX9_binds_107 rfl e30 ?_
      refine r_iload_n (pc' := 109) C dX9_binds_108 rfl 2 rfl ?_
      refine r_iload_n (pc' := 110) C dX9_binds_109 rfl 1 rfl ?_
      refine r_iconst (pc' := 111) C dX9_binds_110 rfl kc_m1 ?_
      refine r_ixor (pc' := 112) C dX9_binds_111 rfl ?_
      refine r_iand (pc' := 113) C dX9_binds_112 rfl ?_
      refine r_if_ne (tgt := 120) (pc' := 116) C dX9_binds_113 rfl rfl (fun c31 => ?_) (fun c31 => ?_)
      · rw [if_neg c31] at h
        refine r_iconst (pc' := 121) C dX9_binds_120 rfl kc_0 ?_
        refine r_istore_n (pc' := 122) (lv2 := [(3, .int 0), (0, .ref 149), (1, .int v1), (2, .int v2)]) C dX9_binds_121 rfl rfl (Nat.le_of_ble_eq_true rfl) rfl ?_
        refine r_iconst (pc' := 123) C dX9_binds_122 rfl kc_1 ?_
        refine r_istore (pc' := 125) (lv2 := [(4, .int 1), (3, .int 0), (0, .ref 149), (1, .int v1), (2, .int v2)]) C dX9_binds_123 rfl (Nat.le_of_ble_eq_true rfl) rfl ?_
        refine r_sub [2, 3, 4, 1, 0] rfl ?_
        exact X9_binds_l125_ok  (fun _ _ _ _ h Z C hE => by exact X9_binds_j187_ok  ih h Z C hE) N _ _ _ _ _ _ h Z C hE
      · rw [if_pos c31] at h
        refine r_iconst (pc' := 117) C dX9_binds_116 rfl kc_1 ?_
        refine r_goto (tgt := 121) C dX9_binds_117 rfl ?_
        refine r_istore_n (pc' := 122) (lv2 := [(3, .int 1), (0, .ref 149), (1, .int v1), (2, .int v2)]) C dX9_binds_121 rfl rfl (Nat.le_of_ble_eq_true rfl) rfl ?_
        refine r_iconst (pc' := 123) C dX9_binds_122 rfl kc_1 ?_
        refine r_istore (pc' := 125) (lv2 := [(4, .int 1), (3, .int 1), (0, .ref 149), (1, .int v1), (2, .int v2)]) C dX9_binds_123 rfl (Nat.le_of_ble_eq_true rfl) rfl ?_
        refine r_sub [2, 3, 4, 1, 0] rfl ?_
        exact X9_binds_l125_ok  (fun _ _ _ _ h Z C hE => by exact X9_binds_j187_ok  ih h Z C hE) N _ _ _ _ _ _ h Z C hE
def X9_binds_j193 (N : Nat)   (v1 : Int32) (σ : Sg) : Option (Int32 × Sg) :=
  bnS (wi σ 149 1 0) fun σ45 => if inb v1 256 = true then (X9_enters N ((gi σ45 166 v1.toNatClampNeg).toInt64) σ45).bind fun r48 => ((J6_bitCount_0f7a4 N v1 r48).bind fun r50 => (if inb v1 256 = true then some (r50 - (gi r48 166 v1.toNatClampNeg), r48) else none)) else none
set_option maxRecDepth 100000 in
set_option maxHeartbeats 4000000 in
theorem X9_binds_j193_ok {E : Ev}  {N : Nat}    {v1 : Int32} {σ : Sg} {r : Int32 × Sg} (h : X9_binds_j193 N   v1 σ = some r) : Gp E RX9 cX9_binds (some .int) 5 6 SH0 r.2 (some (.int r.1)) σ 193 [(0, .ref 149), (1, .int v1)] [] := by
  intro Z C hE
  unfold X9_binds_j193 at h
  refine r_aload_n (pc' := 194) C dX9_binds_193 rfl 0 rfl ?_
  refine r_iconst (pc' := 195) C dX9_binds_194 rfl kc_0 ?_
  obtain ⟨σ45, e46, h⟩ := bs h
  refine r_putI (pc' := 198) (σ1 := σ45) C fpX9_15 sh_149 rfl rfl rfl dX9_binds_195 rfl e46 ?_
  refine r_aload_n (pc' := 199) C dX9_binds_198 rfl 0 rfl ?_
  refine r_aload_n (pc' := 200) C dX9_binds_199 rfl 0 rfl ?_
  refine r_getR (pc' := 203) C flX9_73 sh_149 rfl dX9_binds_200 rfl ?_
  refine r_iload_n (pc' := 204) C dX9_binds_203 rfl 1 rfl ?_
  obtain ⟨q47, h⟩ := ck h
  refine r_iald (pc' := 205) C sh_166 (vin q47) dX9_binds_204 rfl ?_
  refine r_i2l (pc' := 206) C dX9_binds_205 rfl rfl ?_
  obtain ⟨r48, e49, h⟩ := bd h
  refine r_cV0 (pc' := 209) C (X9_enters_ok  e49) mlX9_327 ceX9_enters cvX9_enters sh_149 rfl rfl rfl (Nat.le_of_ble_eq_true rfl) rfl (Nat.le_of_ble_eq_true rfl) dX9_binds_206 rfl (kk := ?_)
  refine r_iload_n (pc' := 210) C dX9_binds_209 rfl 1 rfl ?_
  obtain ⟨r50, e51, h⟩ := bd h
  refine r_cS1 (pc' := 213) C (J6_bitCount_0f7a4_ok  e51) mlX9_135 ceJ6_bitCount_0f7a4 csJ6_bitCount_0f7a4 rfl (Nat.le_of_ble_eq_true rfl) rfl (Nat.le_of_ble_eq_true rfl) dX9_binds_210 rfl (kk := ?_)
  refine r_aload_n (pc' := 214) C dX9_binds_213 rfl 0 rfl ?_
  refine r_getR (pc' := 217) C flX9_73 sh_149 rfl dX9_binds_214 rfl ?_
  refine r_iload_n (pc' := 218) C dX9_binds_217 rfl 1 rfl ?_
  obtain ⟨q52, h⟩ := ck h
  refine r_iald (pc' := 219) C sh_166 (vin q52) dX9_binds_218 rfl ?_
  refine r_isub (pc' := 220) C dX9_binds_219 rfl ?_
  have h := Option.some.inj h
  subst h
  exact r_ret C rfl dX9_binds_220 hE
def X9_binds_j85 (N : Nat)   (v1 : Int32) (σ : Sg) : Option (Int32 × Sg) :=
  if inb 0 256 = true then bnS (wi σ 166 (0 : Int32).toNatClampNeg 0) fun σ25 => X9_binds_l94 N (fun v1 σ => X9_binds_j193 N v1 σ) N v1 1 σ25 else none
set_option maxRecDepth 100000 in
set_option maxHeartbeats 4000000 in
theorem X9_binds_j85_ok {E : Ev}  {N : Nat}    {v1 : Int32} {σ : Sg} {r : Int32 × Sg} (h : X9_binds_j85 N   v1 σ = some r) : Gp E RX9 cX9_binds (some .int) 5 6 SH0 r.2 (some (.int r.1)) σ 85 [(0, .ref 149), (1, .int v1)] [] := by
  intro Z C hE
  unfold X9_binds_j85 at h
  refine r_aload_n (pc' := 86) C dX9_binds_85 rfl 0 rfl ?_
  refine r_getR (pc' := 89) C flX9_73 sh_149 rfl dX9_binds_86 rfl ?_
  refine r_iconst (pc' := 90) C dX9_binds_89 rfl kc_0 ?_
  refine r_iconst (pc' := 91) C dX9_binds_90 rfl kc_0 ?_
  obtain ⟨q24, h⟩ := ck h
  obtain ⟨σ25, e26, h⟩ := bs h
  refine r_iast (pc' := 92) (σ1 := σ25) C sh_166 (vin q24) dX9_binds_91 rfl e26 ?_
  refine r_iconst (pc' := 93) C dX9_binds_92 rfl kc_1 ?_
  refine r_istore_n (pc' := 94) (lv2 := [(2, .int 1), (0, .ref 149), (1, .int v1)]) C dX9_binds_93 rfl rfl (Nat.le_of_ble_eq_true rfl) rfl ?_
  refine r_sub [1, 2, 0] rfl ?_
  exact X9_binds_l94_ok  (fun _ _ _ h Z C hE => by exact X9_binds_j193_ok  h Z C hE) N _ _ _ _ h Z C hE
def X9_binds (N : Nat)   (σ : Sg) : Option (Int32 × Sg) :=
  bnS (wi σ 149 0 0) fun σ1 => (X9_firstOnes N 153 σ1).bind fun r3 => ((X9_here N 153 σ1).bind fun r5 => ((X9_above N 153 r5 σ1).bind fun r7 => (if 0 ≤ r7.1 then (X9_binds_l38 N (fun v1 σ => X9_binds_j85 N v1 σ) N r3 0 r7.2) else (some ((-2), r7.2)))))
set_option maxRecDepth 100000 in
set_option maxHeartbeats 4000000 in
theorem X9_binds_ok {E : Ev}  {N : Nat}  {σ : Sg} {r : Int32 × Sg} (h : X9_binds N   σ = some r) : Cm E 6 yX9_binds cX9_binds 5 (some .int) [.ref 149] SH0 SH0 σ r.2 (some (.int r.1)) 0 0 := by
  refine Cm.intro (by decide +kernel) (Nat.le_of_ble_eq_true rfl) (fun _ h => by obtain ⟨_, _, _, _, _, _, h⟩ := h; exact h) (fun Z C hE => ?_)
  show Wm E Z 0 0 SH0 σ 0 [(0, .ref 149)] []
  unfold X9_binds at h
  refine r_aload_n (pc' := 1) C dX9_binds_0 rfl 0 rfl ?_
  refine r_iconst (pc' := 2) C dX9_binds_1 rfl kc_0 ?_
  obtain ⟨σ1, e2, h⟩ := bs h
  refine r_putI (pc' := 5) (σ1 := σ1) C fpX9_3 sh_149 rfl rfl rfl dX9_binds_2 rfl e2 ?_
  refine r_aload_n (pc' := 6) C dX9_binds_5 rfl 0 rfl ?_
  refine r_aload_n (pc' := 7) C dX9_binds_6 rfl 0 rfl ?_
  refine r_getR (pc' := 10) C flX9_34 sh_149 rfl dX9_binds_7 rfl ?_
  obtain ⟨r3, e4, h⟩ := bd h
  refine r_cV1 (pc' := 13) C (X9_firstOnes_ok mac_153 e4) mlX9_359 ceX9_firstOnes cvX9_firstOnes sh_149 rfl rfl rfl (Nat.le_of_ble_eq_true rfl) rfl (Nat.le_of_ble_eq_true rfl) dX9_binds_10 rfl (kk := ?_)
  refine r_istore_n (pc' := 14) (lv2 := [(1, .int r3), (0, .ref 149)]) C dX9_binds_13 rfl rfl (Nat.le_of_ble_eq_true rfl) rfl ?_
  refine r_aload_n (pc' := 15) C dX9_binds_14 rfl 1 rfl ?_
  refine r_aload_n (pc' := 16) C dX9_binds_15 rfl 1 rfl ?_
  refine r_getR (pc' := 19) C flX9_34 sh_149 rfl dX9_binds_16 rfl ?_
  refine r_aload_n (pc' := 20) C dX9_binds_19 rfl 1 rfl ?_
  refine r_aload_n (pc' := 21) C dX9_binds_20 rfl 1 rfl ?_
  refine r_getR (pc' := 24) C flX9_34 sh_149 rfl dX9_binds_21 rfl ?_
  obtain ⟨r5, e6, h⟩ := bd h
  refine r_cV1 (pc' := 27) C (X9_here_ok mac_153 e6) mlX9_307 ceX9_here cvX9_here sh_149 rfl rfl rfl (Nat.le_of_ble_eq_true rfl) rfl (Nat.le_of_ble_eq_true rfl) dX9_binds_24 rfl (kk := ?_)
  obtain ⟨r7, e8, h⟩ := bd h
  refine r_cV1 (pc' := 30) C (X9_above_ok mac_153 e8) mlX9_287 ceX9_above cvX9_above sh_149 rfl rfl rfl (Nat.le_of_ble_eq_true rfl) rfl (Nat.le_of_ble_eq_true rfl) dX9_binds_27 rfl (kk := ?_)
  refine r_if_ge (tgt := 36) (pc' := 33) C dX9_binds_30 rfl rfl (fun c9 => ?_) (fun c9 => ?_)
  · rw [if_pos c9] at h
    refine r_iconst (pc' := 37) C dX9_binds_36 rfl kc_0 ?_
    refine r_istore_n (pc' := 38) (lv2 := [(2, .int 0), (1, .int r3), (0, .ref 149)]) C dX9_binds_37 rfl rfl (Nat.le_of_ble_eq_true rfl) rfl ?_
    refine r_sub [2, 1, 0] rfl ?_
    exact X9_binds_l38_ok  (fun _ _ _ h Z C hE => by exact X9_binds_j85_ok  h Z C hE) N _ _ _ _ h Z C hE
  · rw [if_neg c9] at h
    refine r_bipush (pc' := 35) C dX9_binds_33 rfl kb_m2 ?_
    have h := Option.some.inj h
    subst h
    exact r_ret C rfl dX9_binds_35 hE

/-! BorrowedWeightModel.way(II)I -/
def X9_way_l25 (N : Nat)  (k57 : Int32 → Int32 → Sg → Option (Int32 × Sg))  : Nat → Int32 → Int32 → Int32 → Sg → Option (Int32 × Sg)
  | 0, _, _, _, _ => none
  | n + 1, v1, v2, v3, σ =>
    if (gi σ 149 3) ≤ v3 then (k57 v1 v2 σ) else (if v3 = v2 then (if inb v3 8 = true then bnS (wi σ 168 v3.toNatClampNeg 0) fun σ15 => X9_way_l25 N k57 n v1 v2 (v3 + 1) σ15 else none) else (if inb v3 8 = true then bnS (wi σ 168 v3.toNatClampNeg 1000000) fun σ12 => X9_way_l25 N k57 n v1 v2 (v3 + 1) σ12 else none))
set_option maxRecDepth 100000 in
set_option maxHeartbeats 4000000 in
theorem X9_way_l25_ok {E : Ev}  {N : Nat} {k57 : Int32 → Int32 → Sg → Option (Int32 × Sg)}  (hk57 : ∀ (v1 : Int32) (v2 : Int32) (σ : Sg) (r : Int32 × Sg), k57 v1 v2 σ = some r → Gp E RX9 cX9_way (some .int) 6 3 SH0 r.2 (some (.int r.1)) σ 57 [(0, .ref 149), (1, .int v1), (2, .int v2)] []) : ∀ (n : Nat) (v1 : Int32) (v2 : Int32) (v3 : Int32) (σ : Sg) (r : Int32 × Sg), X9_way_l25 N k57 n v1 v2 v3 σ = some r → Gp E RX9 cX9_way (some .int) 6 3 SH0 r.2 (some (.int r.1)) σ 25 [(0, .ref 149), (1, .int v1), (2, .int v2), (3, .int v3)] [] := by
  intro n
  induction n with
  | zero => intro v1 v2 v3 σ r h; cases h
  | succ n ih =>
    intro v1 v2 v3 σ r h Z C hE
    unfold X9_way_l25 at h
    refine r_iload_n (pc' := 26) C dX9_way_25 rfl 3 rfl ?_
    refine r_aload_n (pc' := 27) C dX9_way_26 rfl 0 rfl ?_
    refine r_getI (pc' := 30) C flX9_116 sh_149 rfl dX9_way_27 rfl ?_
    refine r_icmp_ge (tgt := 57) (pc' := 33) C dX9_way_30 rfl rfl (fun c9 => ?_) (fun c9 => ?_)
    · rw [if_pos c9] at h
      refine r_sub [0, 1, 2] rfl ?_
      exact hk57 _ _ _ _ h Z C hE
    · rw [if_neg c9] at h
      refine r_aload_n (pc' := 34) C dX9_way_33 rfl 0 rfl ?_
      refine r_getR (pc' := 37) C flX9_79 sh_149 rfl dX9_way_34 rfl ?_
      refine r_iload_n (pc' := 38) C dX9_way_37 rfl 3 rfl ?_
      refine r_iload_n (pc' := 39) C dX9_way_38 rfl 3 rfl ?_
      refine r_iload_n (pc' := 40) C dX9_way_39 rfl 2 rfl ?_
      refine r_icmp_ne (tgt := 47) (pc' := 43) C dX9_way_40 rfl rfl (fun c10 => ?_) (fun c10 => ?_)
      · rw [if_neg c10] at h
        refine r_ldcw (pc' := 50) C cnX9_365 dX9_way_47 rfl ?_
        obtain ⟨q11, h⟩ := ck h
        obtain ⟨σ12, e13, h⟩ := bs h
        refine r_iast (pc' := 51) (σ1 := σ12) C sh_168 (vin q11) dX9_way_50 rfl e13 ?_
        refine r_iinc (pc' := 54) (v := v3 + 1) (lv2 := [(3, .int (v3 + 1)), (0, .ref 149), (1, .int v1), (2, .int v2)]) C dX9_way_51 rfl 3 rfl rfl (Nat.le_of_ble_eq_true rfl) rfl ?_
        refine r_goto (tgt := 25) C dX9_way_54 rfl ?_
        refine r_sub [1, 2, 3, 0] rfl ?_
        exact ih _ _ _ _ _ h Z C hE
      · rw [if_pos c10] at h
        refine r_iconst (pc' := 44) C dX9_way_43 rfl kc_0 ?_
        refine r_goto (tgt := 50) C dX9_way_44 rfl ?_
        obtain ⟨q14, h⟩ := ck h
        obtain ⟨σ15, e16, h⟩ := bs h
        refine r_iast (pc' := 51) (σ1 := σ15) C sh_168 (vin q14) dX9_way_50 rfl e16 ?_
        refine r_iinc (pc' := 54) (v := v3 + 1) (lv2 := [(3, .int (v3 + 1)), (0, .ref 149), (1, .int v1), (2, .int v2)]) C dX9_way_51 rfl 3 rfl rfl (Nat.le_of_ble_eq_true rfl) rfl ?_
        refine r_goto (tgt := 25) C dX9_way_54 rfl ?_
        refine r_sub [1, 2, 3, 0] rfl ?_
        exact ih _ _ _ _ _ h Z C hE
def X9_way_l82 (N : Nat)  (k151 : Int32 → Int32 → Int32 → Int32 → Sg → Option (Int32 × Sg))  : Nat → Int32 → Int32 → Int32 → Int32 → Int32 → Sg → Option (Int32 × Sg)
  | 0, _, _, _, _, _, _ => none
  | n + 1, v1, v2, v3, v4, v5, σ =>
    if (gi σ 149 3) ≤ v5 then (k151 v1 v2 v3 v4 σ) else (if inb (24 + v4) 37 = true then (X9_has N (gi σ 153 (24 + v4).toNatClampNeg) v5 σ).bind fun r21 => (if r21 = 0 then (if inb v4 8 = true then if inb v4 8 = true then bnS (wi σ 168 v4.toNatClampNeg (gi σ 168 v4.toNatClampNeg)) fun σ26 => X9_way_l82 N k151 n v1 v2 v3 v4 (v5 + 1) σ26 else none else none) else (if inb v4 8 = true then if inb v5 8 = true then (J9_min_7cf53 N (gi σ 168 v4.toNatClampNeg) ((gi σ 168 v5.toNatClampNeg) + 1) σ).bind fun r30 => (if inb v4 8 = true then bnS (wi σ 168 v4.toNatClampNeg r30) fun σ33 => X9_way_l82 N k151 n v1 v2 v3 v4 (v5 + 1) σ33 else none) else none else none)) else none)
set_option maxRecDepth 100000 in
set_option maxHeartbeats 4000000 in
theorem X9_way_l82_ok {E : Ev}  {N : Nat} {k151 : Int32 → Int32 → Int32 → Int32 → Sg → Option (Int32 × Sg)}  (hk151 : ∀ (v1 : Int32) (v2 : Int32) (v3 : Int32) (v4 : Int32) (σ : Sg) (r : Int32 × Sg), k151 v1 v2 v3 v4 σ = some r → Gp E RX9 cX9_way (some .int) 6 3 SH0 r.2 (some (.int r.1)) σ 151 [(0, .ref 149), (1, .int v1), (2, .int v2), (3, .int v3), (4, .int v4)] []) : ∀ (n : Nat) (v1 : Int32) (v2 : Int32) (v3 : Int32) (v4 : Int32) (v5 : Int32) (σ : Sg) (r : Int32 × Sg), X9_way_l82 N k151 n v1 v2 v3 v4 v5 σ = some r → Gp E RX9 cX9_way (some .int) 6 3 SH0 r.2 (some (.int r.1)) σ 82 [(0, .ref 149), (1, .int v1), (2, .int v2), (3, .int v3), (4, .int v4), (5, .int v5)] [] := by
  intro n
  induction n with
  | zero => intro v1 v2 v3 v4 v5 σ r h; cases h
  | succ n ih =>
    intro v1 v2 v3 v4 v5 σ r h Z C hE
    unfold X9_way_l82 at h
    refine r_iload (pc' := 84) C dX9_way_82 rfl 5 rfl ?_
    refine r_aload_n (pc' := 85) C dX9_way_84 rfl 0 rfl ?_
    refine r_getI (pc' := 88) C flX9_116 sh_149 rfl dX9_way_85 rfl ?_
    refine r_icmp_ge (tgt := 151) (pc' := 91) C dX9_way_88 rfl rfl (fun c19 => ?_) (fun c19 => ?_)
    · rw [if_pos c19] at h
      refine r_sub [0, 1, 2, 3, 4] rfl ?_
      exact hk151 _ _ _ _ _ _ h Z C hE
    · rw [if_neg c19] at h
      refine r_aload_n (pc' := 92) C dX9_way_91 rfl 0 rfl ?_
      refine r_getR (pc' := 95) C flX9_79 sh_149 rfl dX9_way_92 rfl ?_
      refine r_iload (pc' := 97) C dX9_way_95 rfl 4 rfl ?_
      refine r_aload_n (pc' := 98) C dX9_way_97 rfl 0 rfl ?_
      refine r_getR (pc' := 101) C flX9_34 sh_149 rfl dX9_way_98 rfl ?_
      refine r_bipush (pc' := 103) C dX9_way_101 rfl kb_24 ?_
      refine r_iload (pc' := 105) C dX9_way_103 rfl 4 rfl ?_
      refine r_iadd (pc' := 106) C dX9_way_105 rfl ?_
      obtain ⟨q20, h⟩ := ck h
      refine r_iald (pc' := 107) C sh_153 (vin q20) dX9_way_106 rfl ?_
      refine r_iload (pc' := 109) C dX9_way_107 rfl 5 rfl ?_
      obtain ⟨r21, e22, h⟩ := bd h
      refine r_cS1 (pc' := 112) C (X9_has_ok  e22) mlX9_127 ceX9_has csX9_has rfl (Nat.le_of_ble_eq_true rfl) rfl (Nat.le_of_ble_eq_true rfl) dX9_way_109 rfl (kk := ?_)
      refine r_if_eq (tgt := 137) (pc' := 115) C dX9_way_112 rfl rfl (fun c23 => ?_) (fun c23 => ?_)
      · rw [if_pos c23] at h
        refine r_aload_n (pc' := 138) C dX9_way_137 rfl 0 rfl ?_
        refine r_getR (pc' := 141) C flX9_79 sh_149 rfl dX9_way_138 rfl ?_
        refine r_iload (pc' := 143) C dX9_way_141 rfl 4 rfl ?_
        obtain ⟨q24, h⟩ := ck h
        refine r_iald (pc' := 144) C sh_168 (vin q24) dX9_way_143 rfl ?_
        obtain ⟨q25, h⟩ := ck h
        obtain ⟨σ26, e27, h⟩ := bs h
        refine r_iast (pc' := 145) (σ1 := σ26) C sh_168 (vin q25) dX9_way_144 rfl e27 ?_
        refine r_iinc (pc' := 148) (v := v5 + 1) (lv2 := [(5, .int (v5 + 1)), (0, .ref 149), (1, .int v1), (2, .int v2), (3, .int v3), (4, .int v4)]) C dX9_way_145 rfl 5 rfl rfl (Nat.le_of_ble_eq_true rfl) rfl ?_
        refine r_goto (tgt := 82) C dX9_way_148 rfl ?_
        refine r_sub [1, 2, 3, 4, 5, 0] rfl ?_
        exact ih _ _ _ _ _ _ _ h Z C hE
      · rw [if_neg c23] at h
        refine r_aload_n (pc' := 116) C dX9_way_115 rfl 0 rfl ?_
        refine r_getR (pc' := 119) C flX9_79 sh_149 rfl dX9_way_116 rfl ?_
        refine r_iload (pc' := 121) C dX9_way_119 rfl 4 rfl ?_
        obtain ⟨q28, h⟩ := ck h
        refine r_iald (pc' := 122) C sh_168 (vin q28) dX9_way_121 rfl ?_
        refine r_aload_n (pc' := 123) C dX9_way_122 rfl 0 rfl ?_
        refine r_getR (pc' := 126) C flX9_79 sh_149 rfl dX9_way_123 rfl ?_
        refine r_iload (pc' := 128) C dX9_way_126 rfl 5 rfl ?_
        obtain ⟨q29, h⟩ := ck h
        refine r_iald (pc' := 129) C sh_168 (vin q29) dX9_way_128 rfl ?_
        refine r_iconst (pc' := 130) C dX9_way_129 rfl kc_1 ?_
        refine r_iadd (pc' := 131) C dX9_way_130 rfl ?_
        obtain ⟨r30, e31, h⟩ := bd h
        refine r_cS1 (pc' := 134) C (J9_min_7cf53_ok  e31) mlX9_150 ceJ9_min_7cf53 csJ9_min_7cf53 rfl (Nat.le_of_ble_eq_true rfl) rfl (Nat.le_of_ble_eq_true rfl) dX9_way_131 rfl (kk := ?_)
        refine r_goto (tgt := 144) C dX9_way_134 rfl ?_
        obtain ⟨q32, h⟩ := ck h
        obtain ⟨σ33, e34, h⟩ := bs h
        refine r_iast (pc' := 145) (σ1 := σ33) C sh_168 (vin q32) dX9_way_144 rfl e34 ?_
        refine r_iinc (pc' := 148) (v := v5 + 1) (lv2 := [(5, .int (v5 + 1)), (0, .ref 149), (1, .int v1), (2, .int v2), (3, .int v3), (4, .int v4)]) C dX9_way_145 rfl 5 rfl rfl (Nat.le_of_ble_eq_true rfl) rfl ?_
        refine r_goto (tgt := 82) C dX9_way_148 rfl ?_
        refine r_sub [1, 2, 3, 4, 5, 0] rfl ?_
        exact ih _ _ _ _ _ _ _ h Z C hE
def X9_way_j151 (N : Nat)  (kr : Int32 → Int32 → Int32 → Int32 → Sg → Option (Int32 × Sg)) (v1 : Int32) (v2 : Int32) (v3 : Int32) (v4 : Int32) (σ : Sg) : Option (Int32 × Sg) :=
  kr v1 v2 v3 (v4 + 1) σ
set_option maxRecDepth 100000 in
set_option maxHeartbeats 4000000 in
theorem X9_way_j151_ok {E : Ev}  {N : Nat} {kr : Int32 → Int32 → Int32 → Int32 → Sg → Option (Int32 × Sg)}  (hkr : ∀ (v1 : Int32) (v2 : Int32) (v3 : Int32) (v4 : Int32) (σ : Sg) (r : Int32 × Sg), kr v1 v2 v3 v4 σ = some r → Gp E RX9 cX9_way (some .int) 6 3 SH0 r.2 (some (.int r.1)) σ 70 [(0, .ref 149), (1, .int v1), (2, .int v2), (3, .int v3), (4, .int v4)] []) {v1 : Int32} {v2 : Int32} {v3 : Int32} {v4 : Int32} {σ : Sg} {r : Int32 × Sg} (h : X9_way_j151 N  kr v1 v2 v3 v4 σ = some r) : Gp E RX9 cX9_way (some .int) 6 3 SH0 r.2 (some (.int r.1)) σ 151 [(0, .ref 149), (1, .int v1), (2, .int v2), (3, .int v3), (4, .int v4)] [] := by
  intro Z C hE
  unfold X9_way_j151 at h
  refine r_iinc (pc' := 154) (v := v4 + 1) (lv2 := [(4, .int (v4 + 1)), (0, .ref 149), (1, .int v1), (2, .int v2), (3, .int v3)]) C dX9_way_151 rfl 4 rfl rfl (Nat.le_of_ble_eq_true rfl) rfl ?_
  refine r_goto (tgt := 70) C dX9_way_154 rfl ?_
  refine r_sub [1, 2, 3, 4, 0] rfl ?_
  exact hkr _ _ _ _ _ _ h Z C hE
def X9_way_l70 (N : Nat)  (k157 : Int32 → Int32 → Int32 → Sg → Option (Int32 × Sg))  : Nat → Int32 → Int32 → Int32 → Int32 → Sg → Option (Int32 × Sg)
  | 0, _, _, _, _, _ => none
  | n + 1, v1, v2, v3, v4, σ =>
    if (gi σ 149 3) ≤ v4 then (k157 v1 v2 v3 σ) else (X9_way_l82 N (fun v1 v2 v3 v4 σ => X9_way_j151 N (fun v1 v2 v3 v4 σ => X9_way_l70 N k157 n v1 v2 v3 v4 σ) v1 v2 v3 v4 σ) N v1 v2 v3 v4 0 σ)
set_option maxRecDepth 100000 in
set_option maxHeartbeats 4000000 in
theorem X9_way_l70_ok {E : Ev}  {N : Nat} {k157 : Int32 → Int32 → Int32 → Sg → Option (Int32 × Sg)}  (hk157 : ∀ (v1 : Int32) (v2 : Int32) (v3 : Int32) (σ : Sg) (r : Int32 × Sg), k157 v1 v2 v3 σ = some r → Gp E RX9 cX9_way (some .int) 6 3 SH0 r.2 (some (.int r.1)) σ 157 [(0, .ref 149), (1, .int v1), (2, .int v2), (3, .int v3)] []) : ∀ (n : Nat) (v1 : Int32) (v2 : Int32) (v3 : Int32) (v4 : Int32) (σ : Sg) (r : Int32 × Sg), X9_way_l70 N k157 n v1 v2 v3 v4 σ = some r → Gp E RX9 cX9_way (some .int) 6 3 SH0 r.2 (some (.int r.1)) σ 70 [(0, .ref 149), (1, .int v1), (2, .int v2), (3, .int v3), (4, .int v4)] [] := by
  intro n
  induction n with
  | zero => intro v1 v2 v3 v4 σ r h; cases h
  | succ n ih =>
    intro v1 v2 v3 v4 σ r h Z C hE
    unfold X9_way_l70 at h
    refine r_iload (pc' := 72) C dX9_way_70 rfl 4 rfl ?_
    refine r_aload_n (pc' := 73) C dX9_way_72 rfl 0 rfl ?_
    refine r_getI (pc' := 76) C flX9_116 sh_149 rfl dX9_way_73 rfl ?_
    refine r_icmp_ge (tgt := 157) (pc' := 79) C dX9_way_76 rfl rfl (fun c18 => ?_) (fun c18 => ?_)
    · rw [if_pos c18] at h
      refine r_sub [0, 1, 2, 3] rfl ?_
      exact hk157 _ _ _ _ _ h Z C hE
    · rw [if_neg c18] at h
      refine r_iconst (pc' := 80) C dX9_way_79 rfl kc_0 ?_
      refine r_istore (pc' := 82) (lv2 := [(5, .int 0), (0, .ref 149), (1, .int v1), (2, .int v2), (3, .int v3), (4, .int v4)]) C dX9_way_80 rfl (Nat.le_of_ble_eq_true rfl) rfl ?_
      refine r_sub [1, 2, 3, 4, 5, 0] rfl ?_
      exact X9_way_l82_ok  (fun _ _ _ _ _ _ h Z C hE => by exact X9_way_j151_ok  ih h Z C hE) N _ _ _ _ _ _ _ h Z C hE
def X9_way_j157 (N : Nat)  (kr : Int32 → Int32 → Int32 → Sg → Option (Int32 × Sg)) (v1 : Int32) (v2 : Int32) (v3 : Int32) (σ : Sg) : Option (Int32 × Sg) :=
  kr v1 v2 (v3 + 1) σ
set_option maxRecDepth 100000 in
set_option maxHeartbeats 4000000 in
theorem X9_way_j157_ok {E : Ev}  {N : Nat} {kr : Int32 → Int32 → Int32 → Sg → Option (Int32 × Sg)}  (hkr : ∀ (v1 : Int32) (v2 : Int32) (v3 : Int32) (σ : Sg) (r : Int32 × Sg), kr v1 v2 v3 σ = some r → Gp E RX9 cX9_way (some .int) 6 3 SH0 r.2 (some (.int r.1)) σ 59 [(0, .ref 149), (1, .int v1), (2, .int v2), (3, .int v3)] []) {v1 : Int32} {v2 : Int32} {v3 : Int32} {σ : Sg} {r : Int32 × Sg} (h : X9_way_j157 N  kr v1 v2 v3 σ = some r) : Gp E RX9 cX9_way (some .int) 6 3 SH0 r.2 (some (.int r.1)) σ 157 [(0, .ref 149), (1, .int v1), (2, .int v2), (3, .int v3)] [] := by
  intro Z C hE
  unfold X9_way_j157 at h
  refine r_iinc (pc' := 160) (v := v3 + 1) (lv2 := [(3, .int (v3 + 1)), (0, .ref 149), (1, .int v1), (2, .int v2)]) C dX9_way_157 rfl 3 rfl rfl (Nat.le_of_ble_eq_true rfl) rfl ?_
  refine r_goto (tgt := 59) C dX9_way_160 rfl ?_
  refine r_sub [1, 2, 3, 0] rfl ?_
  exact hkr _ _ _ _ _ h Z C hE
def X9_way_l59 (N : Nat)  (k163 : Int32 → Int32 → Sg → Option (Int32 × Sg))  : Nat → Int32 → Int32 → Int32 → Sg → Option (Int32 × Sg)
  | 0, _, _, _, _ => none
  | n + 1, v1, v2, v3, σ =>
    if (gi σ 149 3) ≤ v3 then (k163 v1 v2 σ) else (X9_way_l70 N (fun v1 v2 v3 σ => X9_way_j157 N (fun v1 v2 v3 σ => X9_way_l59 N k163 n v1 v2 v3 σ) v1 v2 v3 σ) N v1 v2 v3 0 σ)
set_option maxRecDepth 100000 in
set_option maxHeartbeats 4000000 in
theorem X9_way_l59_ok {E : Ev}  {N : Nat} {k163 : Int32 → Int32 → Sg → Option (Int32 × Sg)}  (hk163 : ∀ (v1 : Int32) (v2 : Int32) (σ : Sg) (r : Int32 × Sg), k163 v1 v2 σ = some r → Gp E RX9 cX9_way (some .int) 6 3 SH0 r.2 (some (.int r.1)) σ 163 [(0, .ref 149), (1, .int v1), (2, .int v2)] []) : ∀ (n : Nat) (v1 : Int32) (v2 : Int32) (v3 : Int32) (σ : Sg) (r : Int32 × Sg), X9_way_l59 N k163 n v1 v2 v3 σ = some r → Gp E RX9 cX9_way (some .int) 6 3 SH0 r.2 (some (.int r.1)) σ 59 [(0, .ref 149), (1, .int v1), (2, .int v2), (3, .int v3)] [] := by
  intro n
  induction n with
  | zero => intro v1 v2 v3 σ r h; cases h
  | succ n ih =>
    intro v1 v2 v3 σ r h Z C hE
    unfold X9_way_l59 at h
    refine r_iload_n (pc' := 60) C dX9_way_59 rfl 3 rfl ?_
    refine r_aload_n (pc' := 61) C dX9_way_60 rfl 0 rfl ?_
    refine r_getI (pc' := 64) C flX9_116 sh_149 rfl dX9_way_61 rfl ?_
    refine r_icmp_ge (tgt := 163) (pc' := 67) C dX9_way_64 rfl rfl (fun c17 => ?_) (fun c17 => ?_)
    · rw [if_pos c17] at h
      refine r_sub [0, 1, 2] rfl ?_
      exact hk163 _ _ _ _ h Z C hE
    · rw [if_neg c17] at h
      refine r_iconst (pc' := 68) C dX9_way_67 rfl kc_0 ?_
      refine r_istore (pc' := 70) (lv2 := [(4, .int 0), (0, .ref 149), (1, .int v1), (2, .int v2), (3, .int v3)]) C dX9_way_68 rfl (Nat.le_of_ble_eq_true rfl) rfl ?_
      refine r_sub [1, 2, 3, 4, 0] rfl ?_
      exact X9_way_l70_ok  (fun _ _ _ _ _ h Z C hE => by exact X9_way_j157_ok  ih h Z C hE) N _ _ _ _ _ _ h Z C hE
def X9_way_l223 (N : Nat)  (k264 : Int32 → Int32 → Int32 → Sg → Option (Int32 × Sg))  : Nat → Int32 → Int32 → Int32 → Int32 → Sg → Option (Int32 × Sg)
  | 0, _, _, _, _, _ => none
  | n + 1, v1, v2, v3, v4, σ =>
    if inb (24 + v3) 37 = true then (X9_has N (gi σ 153 (24 + v3).toNatClampNeg) v4 σ).bind fun r50 => (if r50 = 0 then (X9_way_l223 N k264 n v1 v2 v3 (v4 + 1) σ) else (if inb v4 8 = true then if inb v3 8 = true then if (gi σ 168 v4.toNatClampNeg) = ((gi σ 168 v3.toNatClampNeg) - 1) then (k264 v1 v2 v4 σ) else (X9_way_l223 N k264 n v1 v2 v3 (v4 + 1) σ) else none else none)) else none
set_option maxRecDepth 100000 in
set_option maxHeartbeats 4000000 in
theorem X9_way_l223_ok {E : Ev}  {N : Nat} {k264 : Int32 → Int32 → Int32 → Sg → Option (Int32 × Sg)}  (hk264 : ∀ (v1 : Int32) (v2 : Int32) (v4 : Int32) (σ : Sg) (r : Int32 × Sg), k264 v1 v2 v4 σ = some r → Gp E RX9 cX9_way (some .int) 6 3 SH0 r.2 (some (.int r.1)) σ 264 [(0, .ref 149), (1, .int v1), (2, .int v2), (4, .int v4)] []) : ∀ (n : Nat) (v1 : Int32) (v2 : Int32) (v3 : Int32) (v4 : Int32) (σ : Sg) (r : Int32 × Sg), X9_way_l223 N k264 n v1 v2 v3 v4 σ = some r → Gp E RX9 cX9_way (some .int) 6 3 SH0 r.2 (some (.int r.1)) σ 223 [(0, .ref 149), (1, .int v1), (2, .int v2), (3, .int v3), (4, .int v4)] [] := by
  intro n
  induction n with
  | zero => intro v1 v2 v3 v4 σ r h; cases h
  | succ n ih =>
    intro v1 v2 v3 v4 σ r h Z C hE
    unfold X9_way_l223 at h
    refine r_aload_n (pc' := 224) C dX9_way_223 rfl 0 rfl ?_
    refine r_getR (pc' := 227) C flX9_34 sh_149 rfl dX9_way_224 rfl ?_
    refine r_bipush (pc' := 229) C dX9_way_227 rfl kb_24 ?_
    refine r_iload_n (pc' := 230) C dX9_way_229 rfl 3 rfl ?_
    refine r_iadd (pc' := 231) C dX9_way_230 rfl ?_
    obtain ⟨q49, h⟩ := ck h
    refine r_iald (pc' := 232) C sh_153 (vin q49) dX9_way_231 rfl ?_
    refine r_iload (pc' := 234) C dX9_way_232 rfl 4 rfl ?_
    obtain ⟨r50, e51, h⟩ := bd h
    refine r_cS1 (pc' := 237) C (X9_has_ok  e51) mlX9_127 ceX9_has csX9_has rfl (Nat.le_of_ble_eq_true rfl) rfl (Nat.le_of_ble_eq_true rfl) dX9_way_234 rfl (kk := ?_)
    refine r_if_eq (tgt := 258) (pc' := 240) C dX9_way_237 rfl rfl (fun c52 => ?_) (fun c52 => ?_)
    · rw [if_pos c52] at h
      refine r_iinc (pc' := 261) (v := v4 + 1) (lv2 := [(4, .int (v4 + 1)), (0, .ref 149), (1, .int v1), (2, .int v2), (3, .int v3)]) C dX9_way_258 rfl 4 rfl rfl (Nat.le_of_ble_eq_true rfl) rfl ?_
      refine r_goto (tgt := 223) C dX9_way_261 rfl ?_
      refine r_sub [1, 2, 3, 4, 0] rfl ?_
      exact ih _ _ _ _ _ _ h Z C hE
    · rw [if_neg c52] at h
      refine r_aload_n (pc' := 241) C dX9_way_240 rfl 0 rfl ?_
      refine r_getR (pc' := 244) C flX9_79 sh_149 rfl dX9_way_241 rfl ?_
      refine r_iload (pc' := 246) C dX9_way_244 rfl 4 rfl ?_
      obtain ⟨q53, h⟩ := ck h
      refine r_iald (pc' := 247) C sh_168 (vin q53) dX9_way_246 rfl ?_
      refine r_aload_n (pc' := 248) C dX9_way_247 rfl 0 rfl ?_
      refine r_getR (pc' := 251) C flX9_79 sh_149 rfl dX9_way_248 rfl ?_
      refine r_iload_n (pc' := 252) C dX9_way_251 rfl 3 rfl ?_
      obtain ⟨q54, h⟩ := ck h
      refine r_iald (pc' := 253) C sh_168 (vin q54) dX9_way_252 rfl ?_
      refine r_iconst (pc' := 254) C dX9_way_253 rfl kc_1 ?_
      refine r_isub (pc' := 255) C dX9_way_254 rfl ?_
      refine r_icmp_eq (tgt := 264) (pc' := 258) C dX9_way_255 rfl rfl (fun c55 => ?_) (fun c55 => ?_)
      · rw [if_pos c55] at h
        refine r_sub [0, 1, 2, 4] rfl ?_
        exact hk264 _ _ _ _ _ h Z C hE
      · rw [if_neg c55] at h
        refine r_iinc (pc' := 261) (v := v4 + 1) (lv2 := [(4, .int (v4 + 1)), (0, .ref 149), (1, .int v1), (2, .int v2), (3, .int v3)]) C dX9_way_258 rfl 4 rfl rfl (Nat.le_of_ble_eq_true rfl) rfl ?_
        refine r_goto (tgt := 223) C dX9_way_261 rfl ?_
        refine r_sub [1, 2, 3, 4, 0] rfl ?_
        exact ih _ _ _ _ _ _ h Z C hE
def X9_way_j264 (N : Nat)  (kr : Int32 → Int32 → Int32 → Sg → Option (Int32 × Sg)) (v1 : Int32) (v2 : Int32) (v4 : Int32) (σ : Sg) : Option (Int32 × Sg) :=
  (X9_enters N v4.toInt64 σ).bind fun r56 => (kr v1 v2 v4 r56)
set_option maxRecDepth 100000 in
set_option maxHeartbeats 4000000 in
theorem X9_way_j264_ok {E : Ev}  {N : Nat} {kr : Int32 → Int32 → Int32 → Sg → Option (Int32 × Sg)}  (hkr : ∀ (v1 : Int32) (v2 : Int32) (v3 : Int32) (σ : Sg) (r : Int32 × Sg), kr v1 v2 v3 σ = some r → Gp E RX9 cX9_way (some .int) 6 3 SH0 r.2 (some (.int r.1)) σ 215 [(0, .ref 149), (1, .int v1), (2, .int v2), (3, .int v3)] []) {v1 : Int32} {v2 : Int32} {v4 : Int32} {σ : Sg} {r : Int32 × Sg} (h : X9_way_j264 N  kr v1 v2 v4 σ = some r) : Gp E RX9 cX9_way (some .int) 6 3 SH0 r.2 (some (.int r.1)) σ 264 [(0, .ref 149), (1, .int v1), (2, .int v2), (4, .int v4)] [] := by
  intro Z C hE
  unfold X9_way_j264 at h
  refine r_iload (pc' := 266) C dX9_way_264 rfl 3 rfl ?_
  refine r_istore_n (pc' := 267) (lv2 := [(3, .int v4), (0, .ref 149), (1, .int v1), (2, .int v2), (4, .int v4)]) C dX9_way_266 rfl rfl (Nat.le_of_ble_eq_true rfl) rfl ?_
  refine r_aload_n (pc' := 268) C dX9_way_267 rfl 1 rfl ?_
  refine r_iload_n (pc' := 269) C dX9_way_268 rfl 0 rfl ?_
  refine r_i2l (pc' := 270) C dX9_way_269 rfl rfl ?_
  obtain ⟨r56, e57, h⟩ := bd h
  refine r_cV0 (pc' := 273) C (X9_enters_ok  e57) mlX9_327 ceX9_enters cvX9_enters sh_149 rfl rfl rfl (Nat.le_of_ble_eq_true rfl) rfl (Nat.le_of_ble_eq_true rfl) dX9_way_270 rfl (kk := ?_)
  refine r_goto (tgt := 215) C dX9_way_273 rfl ?_
  refine r_sub [1, 2, 3, 0] rfl ?_
  exact hkr _ _ _ _ _ h Z C hE
def X9_way_l215 (N : Nat)    : Nat → Int32 → Int32 → Int32 → Sg → Option (Int32 × Sg)
  | 0, _, _, _, _ => none
  | n + 1, v1, v2, v3, σ =>
    if v3 = v2 then (if inb v1 8 = true then some (gi σ 168 v1.toNatClampNeg, σ) else none) else (X9_way_l223 N (fun v1 v2 v4 σ => X9_way_j264 N (fun v1 v2 v3 σ => X9_way_l215 N n v1 v2 v3 σ) v1 v2 v4 σ) N v1 v2 v3 0 σ)
set_option maxRecDepth 100000 in
set_option maxHeartbeats 4000000 in
theorem X9_way_l215_ok {E : Ev}  {N : Nat}    : ∀ (n : Nat) (v1 : Int32) (v2 : Int32) (v3 : Int32) (σ : Sg) (r : Int32 × Sg), X9_way_l215 N n v1 v2 v3 σ = some r → Gp E RX9 cX9_way (some .int) 6 3 SH0 r.2 (some (.int r.1)) σ 215 [(0, .ref 149), (1, .int v1), (2, .int v2), (3, .int v3)] [] := by
  intro n
  induction n with
  | zero => intro v1 v2 v3 σ r h; cases h
  | succ n ih =>
    intro v1 v2 v3 σ r h Z C hE
    unfold X9_way_l215 at h
    refine r_iload_n (pc' := 216) C dX9_way_215 rfl 3 rfl ?_
    refine r_iload_n (pc' := 217) C dX9_way_216 rfl 2 rfl ?_
    refine r_icmp_eq (tgt := 276) (pc' := 220) C dX9_way_217 rfl rfl (fun c47 => ?_) (fun c47 => ?_)
    · rw [if_pos c47] at h
      refine r_aload_n (pc' := 277) C dX9_way_276 rfl 0 rfl ?_
      refine r_getR (pc' := 280) C flX9_79 sh_149 rfl dX9_way_277 rfl ?_
      refine r_iload_n (pc' := 281) C dX9_way_280 rfl 1 rfl ?_
      obtain ⟨q48, h⟩ := ck h
      refine r_iald (pc' := 282) C sh_168 (vin q48) dX9_way_281 rfl ?_
      have h := Option.some.inj h
      subst h
      exact r_ret C rfl dX9_way_282 hE
    · rw [if_neg c47] at h
      refine r_iconst (pc' := 221) C dX9_way_220 rfl kc_0 ?_
      refine r_istore (pc' := 223) (lv2 := [(4, .int 0), (0, .ref 149), (1, .int v1), (2, .int v2), (3, .int v3)]) C dX9_way_221 rfl (Nat.le_of_ble_eq_true rfl) rfl ?_
      refine r_sub [1, 2, 3, 4, 0] rfl ?_
      exact X9_way_l223_ok  (fun _ _ _ _ _ h Z C hE => by exact X9_way_j264_ok  ih h Z C hE) N _ _ _ _ _ _ h Z C hE
def X9_way_j163 (N : Nat)   (v1 : Int32) (v2 : Int32) (σ : Sg) : Option (Int32 × Sg) :=
  if inb v1 8 = true then if 1000000 ≤ (gi σ 168 v1.toNatClampNeg) then (some ((-2), σ)) else ((X9_isHere N 153 v1 σ).bind fun r37 => (if r37 = 0 then (some ((-2), σ)) else ((X9_isHere N 153 v2 σ).bind fun r40 => (if r40 = 0 then (some ((-2), σ)) else (bnS (wi σ 149 1 0) fun σ43 => (X9_enters N v1.toInt64 σ43).bind fun r45 => (X9_way_l215 N N v1 v2 v1 r45)))))) else none
set_option maxRecDepth 100000 in
set_option maxHeartbeats 4000000 in
theorem X9_way_j163_ok {E : Ev}  {N : Nat}    {v1 : Int32} {v2 : Int32} {σ : Sg} {r : Int32 × Sg} (h : X9_way_j163 N   v1 v2 σ = some r) : Gp E RX9 cX9_way (some .int) 6 3 SH0 r.2 (some (.int r.1)) σ 163 [(0, .ref 149), (1, .int v1), (2, .int v2)] [] := by
  intro Z C hE
  unfold X9_way_j163 at h
  refine r_aload_n (pc' := 164) C dX9_way_163 rfl 0 rfl ?_
  refine r_getR (pc' := 167) C flX9_79 sh_149 rfl dX9_way_164 rfl ?_
  refine r_iload_n (pc' := 168) C dX9_way_167 rfl 1 rfl ?_
  obtain ⟨q35, h⟩ := ck h
  refine r_iald (pc' := 169) C sh_168 (vin q35) dX9_way_168 rfl ?_
  refine r_ldcw (pc' := 172) C cnX9_365 dX9_way_169 rfl ?_
  refine r_icmp_ge (tgt := 199) (pc' := 175) C dX9_way_172 rfl rfl (fun c36 => ?_) (fun c36 => ?_)
  · rw [if_pos c36] at h
    refine r_bipush (pc' := 201) C dX9_way_199 rfl kb_m2 ?_
    have h := Option.some.inj h
    subst h
    exact r_ret C rfl dX9_way_201 hE
  · rw [if_neg c36] at h
    refine r_aload_n (pc' := 176) C dX9_way_175 rfl 0 rfl ?_
    refine r_aload_n (pc' := 177) C dX9_way_176 rfl 0 rfl ?_
    refine r_getR (pc' := 180) C flX9_34 sh_149 rfl dX9_way_177 rfl ?_
    refine r_iload_n (pc' := 181) C dX9_way_180 rfl 1 rfl ?_
    obtain ⟨r37, e38, h⟩ := bd h
    refine r_cV1 (pc' := 184) C (X9_isHere_ok mac_153 e38) mlX9_202 ceX9_isHere cvX9_isHere sh_149 rfl rfl rfl (Nat.le_of_ble_eq_true rfl) rfl (Nat.le_of_ble_eq_true rfl) dX9_way_181 rfl (kk := ?_)
    refine r_if_eq (tgt := 199) (pc' := 187) C dX9_way_184 rfl rfl (fun c39 => ?_) (fun c39 => ?_)
    · rw [if_pos c39] at h
      refine r_bipush (pc' := 201) C dX9_way_199 rfl kb_m2 ?_
      have h := Option.some.inj h
      subst h
      exact r_ret C rfl dX9_way_201 hE
    · rw [if_neg c39] at h
      refine r_aload_n (pc' := 188) C dX9_way_187 rfl 0 rfl ?_
      refine r_aload_n (pc' := 189) C dX9_way_188 rfl 0 rfl ?_
      refine r_getR (pc' := 192) C flX9_34 sh_149 rfl dX9_way_189 rfl ?_
      refine r_iload_n (pc' := 193) C dX9_way_192 rfl 2 rfl ?_
      obtain ⟨r40, e41, h⟩ := bd h
      refine r_cV1 (pc' := 196) C (X9_isHere_ok mac_153 e41) mlX9_202 ceX9_isHere cvX9_isHere sh_149 rfl rfl rfl (Nat.le_of_ble_eq_true rfl) rfl (Nat.le_of_ble_eq_true rfl) dX9_way_193 rfl (kk := ?_)
      refine r_if_ne (tgt := 202) (pc' := 199) C dX9_way_196 rfl rfl (fun c42 => ?_) (fun c42 => ?_)
      · rw [if_neg c42] at h
        refine r_aload_n (pc' := 203) C dX9_way_202 rfl 0 rfl ?_
        refine r_iconst (pc' := 204) C dX9_way_203 rfl kc_0 ?_
        obtain ⟨σ43, e44, h⟩ := bs h
        refine r_putI (pc' := 207) (σ1 := σ43) C fpX9_15 sh_149 rfl rfl rfl dX9_way_204 rfl e44 ?_
        refine r_iload_n (pc' := 208) C dX9_way_207 rfl 1 rfl ?_
        refine r_istore_n (pc' := 209) (lv2 := [(3, .int v1), (0, .ref 149), (1, .int v1), (2, .int v2)]) C dX9_way_208 rfl rfl (Nat.le_of_ble_eq_true rfl) rfl ?_
        refine r_aload_n (pc' := 210) C dX9_way_209 rfl 1 rfl ?_
        refine r_iload_n (pc' := 211) C dX9_way_210 rfl 0 rfl ?_
        refine r_i2l (pc' := 212) C dX9_way_211 rfl rfl ?_
        obtain ⟨r45, e46, h⟩ := bd h
        refine r_cV0 (pc' := 215) C (X9_enters_ok  e46) mlX9_327 ceX9_enters cvX9_enters sh_149 rfl rfl rfl (Nat.le_of_ble_eq_true rfl) rfl (Nat.le_of_ble_eq_true rfl) dX9_way_212 rfl (kk := ?_)
        refine r_sub [1, 2, 3, 0] rfl ?_
        exact X9_way_l215_ok  N _ _ _ _ _ h Z C hE
      · rw [if_pos c42] at h
        refine r_bipush (pc' := 201) C dX9_way_199 rfl kb_m2 ?_
        have h := Option.some.inj h
        subst h
        exact r_ret C rfl dX9_way_201 hE
def X9_way_j57 (N : Nat)   (v1 : Int32) (v2 : Int32) (σ : Sg) : Option (Int32 × Sg) :=
  X9_way_l59 N (fun v1 v2 σ => X9_way_j163 N v1 v2 σ) N v1 v2 0 σ
set_option maxRecDepth 100000 in
set_option maxHeartbeats 4000000 in
theorem X9_way_j57_ok {E : Ev}  {N : Nat}    {v1 : Int32} {v2 : Int32} {σ : Sg} {r : Int32 × Sg} (h : X9_way_j57 N   v1 v2 σ = some r) : Gp E RX9 cX9_way (some .int) 6 3 SH0 r.2 (some (.int r.1)) σ 57 [(0, .ref 149), (1, .int v1), (2, .int v2)] [] := by
  intro Z C hE
  unfold X9_way_j57 at h
  refine r_iconst (pc' := 58) C dX9_way_57 rfl kc_0 ?_
  refine r_istore_n (pc' := 59) (lv2 := [(3, .int 0), (0, .ref 149), (1, .int v1), (2, .int v2)]) C dX9_way_58 rfl rfl (Nat.le_of_ble_eq_true rfl) rfl ?_
  refine r_sub [1, 2, 3, 0] rfl ?_
  exact X9_way_l59_ok  (fun _ _ _ _ h Z C hE => by exact X9_way_j163_ok  h Z C hE) N _ _ _ _ _ h Z C hE
def X9_way (N : Nat)  (v1 : Int32) (v2 : Int32) (σ : Sg) : Option (Int32 × Sg) :=
  bnS (wi σ 149 0 0) fun σ1 => (X9_isThing N v1 σ1).bind fun r3 => (if r3 = 0 then (some ((-1), σ1)) else ((X9_isThing N v2 σ1).bind fun r6 => (if r6 = 0 then (some ((-1), σ1)) else (X9_way_l25 N (fun v1 v2 σ => X9_way_j57 N v1 v2 σ) N v1 v2 0 σ1))))
set_option maxRecDepth 100000 in
set_option maxHeartbeats 4000000 in
theorem X9_way_ok {E : Ev}  {N : Nat} {v1 : Int32} {v2 : Int32} {σ : Sg} {r : Int32 × Sg} (h : X9_way N  v1 v2 σ = some r) : Cm E 3 yX9_way cX9_way 6 (some .int) [.ref 149, .int v1, .int v2] SH0 SH0 σ r.2 (some (.int r.1)) 0 0 := by
  refine Cm.intro (by decide +kernel) (Nat.le_of_ble_eq_true rfl) (fun _ h => by obtain ⟨_, _, _, _, _, _, h⟩ := h; exact h) (fun Z C hE => ?_)
  show Wm E Z 0 0 SH0 σ 0 [(0, .ref 149), (1, .int v1), (2, .int v2)] []
  unfold X9_way at h
  refine r_aload_n (pc' := 1) C dX9_way_0 rfl 0 rfl ?_
  refine r_iconst (pc' := 2) C dX9_way_1 rfl kc_0 ?_
  obtain ⟨σ1, e2, h⟩ := bs h
  refine r_putI (pc' := 5) (σ1 := σ1) C fpX9_3 sh_149 rfl rfl rfl dX9_way_2 rfl e2 ?_
  refine r_aload_n (pc' := 6) C dX9_way_5 rfl 0 rfl ?_
  refine r_iload_n (pc' := 7) C dX9_way_6 rfl 1 rfl ?_
  obtain ⟨r3, e4, h⟩ := bd h
  refine r_cV1 (pc' := 10) C (X9_isThing_ok  e4) mlX9_123 ceX9_isThing cvX9_isThing sh_149 rfl rfl rfl (Nat.le_of_ble_eq_true rfl) rfl (Nat.le_of_ble_eq_true rfl) dX9_way_7 rfl (kk := ?_)
  refine r_if_eq (tgt := 21) (pc' := 13) C dX9_way_10 rfl rfl (fun c5 => ?_) (fun c5 => ?_)
  · rw [if_pos c5] at h
    refine r_iconst (pc' := 22) C dX9_way_21 rfl kc_m1 ?_
    have h := Option.some.inj h
    subst h
    exact r_ret C rfl dX9_way_22 hE
  · rw [if_neg c5] at h
    refine r_aload_n (pc' := 14) C dX9_way_13 rfl 0 rfl ?_
    refine r_iload_n (pc' := 15) C dX9_way_14 rfl 2 rfl ?_
    obtain ⟨r6, e7, h⟩ := bd h
    refine r_cV1 (pc' := 18) C (X9_isThing_ok  e7) mlX9_123 ceX9_isThing cvX9_isThing sh_149 rfl rfl rfl (Nat.le_of_ble_eq_true rfl) rfl (Nat.le_of_ble_eq_true rfl) dX9_way_15 rfl (kk := ?_)
    refine r_if_ne (tgt := 23) (pc' := 21) C dX9_way_18 rfl rfl (fun c8 => ?_) (fun c8 => ?_)
    · rw [if_neg c8] at h
      refine r_iconst (pc' := 24) C dX9_way_23 rfl kc_0 ?_
      refine r_istore_n (pc' := 25) (lv2 := [(3, .int 0), (0, .ref 149), (1, .int v1), (2, .int v2)]) C dX9_way_24 rfl rfl (Nat.le_of_ble_eq_true rfl) rfl ?_
      refine r_sub [1, 2, 3, 0] rfl ?_
      exact X9_way_l25_ok  (fun _ _ _ _ h Z C hE => by exact X9_way_j57_ok  h Z C hE) N _ _ _ _ _ h Z C hE
    · rw [if_pos c8] at h
      refine r_iconst (pc' := 22) C dX9_way_21 rfl kc_m1 ?_
      have h := Option.some.inj h
      subst h
      exact r_ret C rfl dX9_way_22 hE

/-! BorrowedWeightModel.readsRequest()Z -/
def X9_readsRequest_j119 (N : Nat)   (v1 : Int32) (s0 : Int32) (s1 : Int32) (σ : Sg) : Option (Int32 × Sg) :=
  if inb s1 48 = true then bnS (wi σ 156 s1.toNatClampNeg s0) fun σ27 => bnS (wi σ27 149 16 ((gi σ27 149 16) + 1)) fun σ29 => if inb (v1 + 3) 48 = true then if (gi σ29 156 (v1 + 3).toNatClampNeg) < 0 then (some (0, σ29)) else (some (1, σ29)) else none else none
set_option maxRecDepth 100000 in
set_option maxHeartbeats 4000000 in
theorem X9_readsRequest_j119_ok {E : Ev}  {N : Nat}    {v1 : Int32} {s0 : Int32} {s1 : Int32} {σ : Sg} {r : Int32 × Sg} (h : X9_readsRequest_j119 N   v1 s0 s1 σ = some r) : Gp E RX9 cX9_readsRequest (some .boolean) 2 3 SH0 r.2 (some (.int r.1)) σ 119 [(0, .ref 149), (1, .int v1)] [.int s0, .int s1, .ref 156] := by
  intro Z C hE
  unfold X9_readsRequest_j119 at h
  obtain ⟨q26, h⟩ := ck h
  obtain ⟨σ27, e28, h⟩ := bs h
  refine r_iast (pc' := 120) (σ1 := σ27) C sh_156 (vin q26) dX9_readsRequest_119 rfl e28 ?_
  refine r_aload_n (pc' := 121) C dX9_readsRequest_120 rfl 0 rfl ?_
  refine r_dup (pc' := 122) C dX9_readsRequest_121 rfl rfl ?_
  refine r_getI (pc' := 125) C flX9_183 sh_149 rfl dX9_readsRequest_122 rfl ?_
  refine r_iconst (pc' := 126) C dX9_readsRequest_125 rfl kc_1 ?_
  refine r_iadd (pc' := 127) C dX9_readsRequest_126 rfl ?_
  obtain ⟨σ29, e30, h⟩ := bs h
  refine r_putI (pc' := 130) (σ1 := σ29) C fpX9_183 sh_149 rfl rfl rfl dX9_readsRequest_127 rfl e30 ?_
  refine r_aload_n (pc' := 131) C dX9_readsRequest_130 rfl 0 rfl ?_
  refine r_getR (pc' := 134) C flX9_43 sh_149 rfl dX9_readsRequest_131 rfl ?_
  refine r_iload_n (pc' := 135) C dX9_readsRequest_134 rfl 1 rfl ?_
  refine r_iconst (pc' := 136) C dX9_readsRequest_135 rfl kc_3 ?_
  refine r_iadd (pc' := 137) C dX9_readsRequest_136 rfl ?_
  obtain ⟨q31, h⟩ := ck h
  refine r_iald (pc' := 138) C sh_156 (vin q31) dX9_readsRequest_137 rfl ?_
  refine r_if_lt (tgt := 145) (pc' := 141) C dX9_readsRequest_138 rfl rfl (fun c32 => ?_) (fun c32 => ?_)
  · rw [if_pos c32] at h
    refine r_iconst (pc' := 146) C dX9_readsRequest_145 rfl kc_0 ?_
    have h := Option.some.inj h
    subst h
    exact r_ret C rfl dX9_readsRequest_146 hE
  · rw [if_neg c32] at h
    refine r_iconst (pc' := 142) C dX9_readsRequest_141 rfl kc_1 ?_
    refine r_goto (tgt := 146) C dX9_readsRequest_142 rfl ?_
    have h := Option.some.inj h
    subst h
    exact r_ret C rfl dX9_readsRequest_146 hE
def X9_readsRequest_j91 (N : Nat)   (v1 : Int32) (s0 : Int32) (s1 : Int32) (σ : Sg) : Option (Int32 × Sg) :=
  if inb s1 48 = true then bnS (wi σ 156 s1.toNatClampNeg s0) fun σ20 => if inb (v1 + 2) 48 = true then if 0 ≤ (gi σ20 156 (v1 + 2).toNatClampNeg) then ((X9_number N 1 σ20).bind fun r24 => (X9_readsRequest_j119 N v1 r24.1 (v1 + 3) r24.2)) else (X9_readsRequest_j119 N v1 (-1) (v1 + 3) σ20) else none else none
set_option maxRecDepth 100000 in
set_option maxHeartbeats 4000000 in
theorem X9_readsRequest_j91_ok {E : Ev}  {N : Nat}    {v1 : Int32} {s0 : Int32} {s1 : Int32} {σ : Sg} {r : Int32 × Sg} (h : X9_readsRequest_j91 N   v1 s0 s1 σ = some r) : Gp E RX9 cX9_readsRequest (some .boolean) 2 3 SH0 r.2 (some (.int r.1)) σ 91 [(0, .ref 149), (1, .int v1)] [.int s0, .int s1, .ref 156] := by
  intro Z C hE
  unfold X9_readsRequest_j91 at h
  obtain ⟨q19, h⟩ := ck h
  obtain ⟨σ20, e21, h⟩ := bs h
  refine r_iast (pc' := 92) (σ1 := σ20) C sh_156 (vin q19) dX9_readsRequest_91 rfl e21 ?_
  refine r_aload_n (pc' := 93) C dX9_readsRequest_92 rfl 0 rfl ?_
  refine r_getR (pc' := 96) C flX9_43 sh_149 rfl dX9_readsRequest_93 rfl ?_
  refine r_iload_n (pc' := 97) C dX9_readsRequest_96 rfl 1 rfl ?_
  refine r_iconst (pc' := 98) C dX9_readsRequest_97 rfl kc_3 ?_
  refine r_iadd (pc' := 99) C dX9_readsRequest_98 rfl ?_
  refine r_aload_n (pc' := 100) C dX9_readsRequest_99 rfl 0 rfl ?_
  refine r_getR (pc' := 103) C flX9_43 sh_149 rfl dX9_readsRequest_100 rfl ?_
  refine r_iload_n (pc' := 104) C dX9_readsRequest_103 rfl 1 rfl ?_
  refine r_iconst (pc' := 105) C dX9_readsRequest_104 rfl kc_2 ?_
  refine r_iadd (pc' := 106) C dX9_readsRequest_105 rfl ?_
  obtain ⟨q22, h⟩ := ck h
  refine r_iald (pc' := 107) C sh_156 (vin q22) dX9_readsRequest_106 rfl ?_
  refine r_if_ge (tgt := 114) (pc' := 110) C dX9_readsRequest_107 rfl rfl (fun c23 => ?_) (fun c23 => ?_)
  · rw [if_pos c23] at h
    refine r_aload_n (pc' := 115) C dX9_readsRequest_114 rfl 0 rfl ?_
    refine r_iconst (pc' := 116) C dX9_readsRequest_115 rfl kc_1 ?_
    obtain ⟨r24, e25, h⟩ := bd h
    refine r_cV1 (pc' := 119) C (X9_number_ok  e25) mlX9_219 ceX9_number cvX9_number sh_149 rfl rfl rfl (Nat.le_of_ble_eq_true rfl) rfl (Nat.le_of_ble_eq_true rfl) dX9_readsRequest_116 rfl (kk := ?_)
    exact X9_readsRequest_j119_ok  h Z C hE
  · rw [if_neg c23] at h
    refine r_iconst (pc' := 111) C dX9_readsRequest_110 rfl kc_m1 ?_
    refine r_goto (tgt := 119) C dX9_readsRequest_111 rfl ?_
    exact X9_readsRequest_j119_ok  h Z C hE
def X9_readsRequest_j61 (N : Nat)   (v1 : Int32) (s0 : Int32) (s1 : Int32) (σ : Sg) : Option (Int32 × Sg) :=
  if inb s1 48 = true then bnS (wi σ 156 s1.toNatClampNeg s0) fun σ13 => if inb (v1 + 1) 48 = true then if 0 ≤ (gi σ13 156 (v1 + 1).toNatClampNeg) then ((X9_digitIn N 1 9 σ13).bind fun r17 => (X9_readsRequest_j91 N v1 r17.1 (v1 + 2) r17.2)) else (X9_readsRequest_j91 N v1 (-1) (v1 + 2) σ13) else none else none
set_option maxRecDepth 100000 in
set_option maxHeartbeats 4000000 in
theorem X9_readsRequest_j61_ok {E : Ev}  {N : Nat}    {v1 : Int32} {s0 : Int32} {s1 : Int32} {σ : Sg} {r : Int32 × Sg} (h : X9_readsRequest_j61 N   v1 s0 s1 σ = some r) : Gp E RX9 cX9_readsRequest (some .boolean) 2 3 SH0 r.2 (some (.int r.1)) σ 61 [(0, .ref 149), (1, .int v1)] [.int s0, .int s1, .ref 156] := by
  intro Z C hE
  unfold X9_readsRequest_j61 at h
  obtain ⟨q12, h⟩ := ck h
  obtain ⟨σ13, e14, h⟩ := bs h
  refine r_iast (pc' := 62) (σ1 := σ13) C sh_156 (vin q12) dX9_readsRequest_61 rfl e14 ?_
  refine r_aload_n (pc' := 63) C dX9_readsRequest_62 rfl 0 rfl ?_
  refine r_getR (pc' := 66) C flX9_43 sh_149 rfl dX9_readsRequest_63 rfl ?_
  refine r_iload_n (pc' := 67) C dX9_readsRequest_66 rfl 1 rfl ?_
  refine r_iconst (pc' := 68) C dX9_readsRequest_67 rfl kc_2 ?_
  refine r_iadd (pc' := 69) C dX9_readsRequest_68 rfl ?_
  refine r_aload_n (pc' := 70) C dX9_readsRequest_69 rfl 0 rfl ?_
  refine r_getR (pc' := 73) C flX9_43 sh_149 rfl dX9_readsRequest_70 rfl ?_
  refine r_iload_n (pc' := 74) C dX9_readsRequest_73 rfl 1 rfl ?_
  refine r_iconst (pc' := 75) C dX9_readsRequest_74 rfl kc_1 ?_
  refine r_iadd (pc' := 76) C dX9_readsRequest_75 rfl ?_
  obtain ⟨q15, h⟩ := ck h
  refine r_iald (pc' := 77) C sh_156 (vin q15) dX9_readsRequest_76 rfl ?_
  refine r_if_ge (tgt := 84) (pc' := 80) C dX9_readsRequest_77 rfl rfl (fun c16 => ?_) (fun c16 => ?_)
  · rw [if_pos c16] at h
    refine r_aload_n (pc' := 85) C dX9_readsRequest_84 rfl 0 rfl ?_
    refine r_iconst (pc' := 86) C dX9_readsRequest_85 rfl kc_1 ?_
    refine r_bipush (pc' := 88) C dX9_readsRequest_86 rfl kb_9 ?_
    obtain ⟨r17, e18, h⟩ := bd h
    refine r_cV1 (pc' := 91) C (X9_digitIn_ok  e18) mlX9_186 ceX9_digitIn cvX9_digitIn sh_149 rfl rfl rfl (Nat.le_of_ble_eq_true rfl) rfl (Nat.le_of_ble_eq_true rfl) dX9_readsRequest_88 rfl (kk := ?_)
    exact X9_readsRequest_j91_ok  h Z C hE
  · rw [if_neg c16] at h
    refine r_iconst (pc' := 81) C dX9_readsRequest_80 rfl kc_m1 ?_
    refine r_goto (tgt := 91) C dX9_readsRequest_81 rfl ?_
    exact X9_readsRequest_j91_ok  h Z C hE
def X9_readsRequest (N : Nat)   (σ : Sg) : Option (Int32 × Sg) :=
  if (gi σ 149 16) = 8 then (some (0, σ)) else ((X9_number N 1 σ).bind fun r2 => (if inb (4 * (gi σ 149 16)) 48 = true then bnS (wi r2.2 156 (4 * (gi σ 149 16)).toNatClampNeg r2.1) fun σ5 => if inb (4 * (gi σ 149 16)) 48 = true then if 0 ≤ (gi σ5 156 (4 * (gi σ 149 16)).toNatClampNeg) then (if inb (4 * (gi σ 149 16)) 48 = true then (X9_digitIn N (gi σ5 156 (4 * (gi σ 149 16)).toNatClampNeg) 9 σ5).bind fun r10 => (X9_readsRequest_j61 N (4 * (gi σ 149 16)) r10.1 ((4 * (gi σ 149 16)) + 1) r10.2) else none) else (X9_readsRequest_j61 N (4 * (gi σ 149 16)) (-1) ((4 * (gi σ 149 16)) + 1) σ5) else none else none))
set_option maxRecDepth 100000 in
set_option maxHeartbeats 4000000 in
theorem X9_readsRequest_ok {E : Ev}  {N : Nat}  {σ : Sg} {r : Int32 × Sg} (h : X9_readsRequest N   σ = some r) : Cm E 3 yX9_readsRequest cX9_readsRequest 2 (some .boolean) [.ref 149] SH0 SH0 σ r.2 (some (.int r.1)) 0 0 := by
  refine Cm.intro (by decide +kernel) (Nat.le_of_ble_eq_true rfl) (fun _ h => by obtain ⟨_, _, _, _, _, _, h⟩ := h; exact h) (fun Z C hE => ?_)
  show Wm E Z 0 0 SH0 σ 0 [(0, .ref 149)] []
  unfold X9_readsRequest at h
  refine r_aload_n (pc' := 1) C dX9_readsRequest_0 rfl 0 rfl ?_
  refine r_getI (pc' := 4) C flX9_183 sh_149 rfl dX9_readsRequest_1 rfl ?_
  refine r_bipush (pc' := 6) C dX9_readsRequest_4 rfl kb_8 ?_
  refine r_icmp_ne (tgt := 11) (pc' := 9) C dX9_readsRequest_6 rfl rfl (fun c1 => ?_) (fun c1 => ?_)
  · rw [if_neg c1] at h
    refine r_iconst (pc' := 12) C dX9_readsRequest_11 rfl kc_4 ?_
    refine r_aload_n (pc' := 13) C dX9_readsRequest_12 rfl 0 rfl ?_
    refine r_getI (pc' := 16) C flX9_183 sh_149 rfl dX9_readsRequest_13 rfl ?_
    refine r_imul (pc' := 17) C dX9_readsRequest_16 rfl ?_
    refine r_istore_n (pc' := 18) (lv2 := [(1, .int (4 * (gi σ 149 16))), (0, .ref 149)]) C dX9_readsRequest_17 rfl rfl (Nat.le_of_ble_eq_true rfl) rfl ?_
    refine r_aload_n (pc' := 19) C dX9_readsRequest_18 rfl 1 rfl ?_
    refine r_getR (pc' := 22) C flX9_43 sh_149 rfl dX9_readsRequest_19 rfl ?_
    refine r_iload_n (pc' := 23) C dX9_readsRequest_22 rfl 0 rfl ?_
    refine r_aload_n (pc' := 24) C dX9_readsRequest_23 rfl 1 rfl ?_
    refine r_iconst (pc' := 25) C dX9_readsRequest_24 rfl kc_1 ?_
    obtain ⟨r2, e3, h⟩ := bd h
    refine r_cV1 (pc' := 28) C (X9_number_ok  e3) mlX9_219 ceX9_number cvX9_number sh_149 rfl rfl rfl (Nat.le_of_ble_eq_true rfl) rfl (Nat.le_of_ble_eq_true rfl) dX9_readsRequest_25 rfl (kk := ?_)
    obtain ⟨q4, h⟩ := ck h
    obtain ⟨σ5, e6, h⟩ := bs h
    refine r_iast (pc' := 29) (σ1 := σ5) C sh_156 (vin q4) dX9_readsRequest_28 rfl e6 ?_
    refine r_aload_n (pc' := 30) C dX9_readsRequest_29 rfl 1 rfl ?_
    refine r_getR (pc' := 33) C flX9_43 sh_149 rfl dX9_readsRequest_30 rfl ?_
    refine r_iload_n (pc' := 34) C dX9_readsRequest_33 rfl 0 rfl ?_
    refine r_iconst (pc' := 35) C dX9_readsRequest_34 rfl kc_1 ?_
    refine r_iadd (pc' := 36) C dX9_readsRequest_35 rfl ?_
    refine r_aload_n (pc' := 37) C dX9_readsRequest_36 rfl 1 rfl ?_
    refine r_getR (pc' := 40) C flX9_43 sh_149 rfl dX9_readsRequest_37 rfl ?_
    refine r_iload_n (pc' := 41) C dX9_readsRequest_40 rfl 0 rfl ?_
    obtain ⟨q7, h⟩ := ck h
    refine r_iald (pc' := 42) C sh_156 (vin q7) dX9_readsRequest_41 rfl ?_
    refine r_if_ge (tgt := 49) (pc' := 45) C dX9_readsRequest_42 rfl rfl (fun c8 => ?_) (fun c8 => ?_)
    · rw [if_pos c8] at h
      refine r_aload_n (pc' := 50) C dX9_readsRequest_49 rfl 1 rfl ?_
      refine r_aload_n (pc' := 51) C dX9_readsRequest_50 rfl 1 rfl ?_
      refine r_getR (pc' := 54) C flX9_43 sh_149 rfl dX9_readsRequest_51 rfl ?_
      refine r_iload_n (pc' := 55) C dX9_readsRequest_54 rfl 0 rfl ?_
      obtain ⟨q9, h⟩ := ck h
      refine r_iald (pc' := 56) C sh_156 (vin q9) dX9_readsRequest_55 rfl ?_
      refine r_bipush (pc' := 58) C dX9_readsRequest_56 rfl kb_9 ?_
      obtain ⟨r10, e11, h⟩ := bd h
      refine r_cV1 (pc' := 61) C (X9_digitIn_ok  e11) mlX9_186 ceX9_digitIn cvX9_digitIn sh_149 rfl rfl rfl (Nat.le_of_ble_eq_true rfl) rfl (Nat.le_of_ble_eq_true rfl) dX9_readsRequest_58 rfl (kk := ?_)
      refine r_sub [1, 0] rfl ?_
      exact X9_readsRequest_j61_ok  h Z C hE
    · rw [if_neg c8] at h
      refine r_iconst (pc' := 46) C dX9_readsRequest_45 rfl kc_m1 ?_
      refine r_goto (tgt := 61) C dX9_readsRequest_46 rfl ?_
      refine r_sub [1, 0] rfl ?_
      exact X9_readsRequest_j61_ok  h Z C hE
  · rw [if_pos c1] at h
    refine r_iconst (pc' := 10) C dX9_readsRequest_9 rfl kc_0 ?_
    have h := Option.some.inj h
    subst h
    exact r_ret C rfl dX9_readsRequest_10 hE

/-! BorrowedWeightModel.priceOf(I)I -/
def X9_priceOf_l4 (N : Nat)   (σ : Sg) : Nat → Int32 → Int32 → Int32 → Option (Int32)
  | 0, _, _, _ => none
  | n + 1, v1, v2, v3 =>
    if (gi σ 149 16) ≤ v3 then (some v2) else ((X9_has N v1 v3 σ).bind fun r2 => (if r2 = 0 then (X9_priceOf_l4 N σ n v1 (v2 + 0) (v3 + 1)) else (if inb ((4 * v3) + 3) 48 = true then X9_priceOf_l4 N σ n v1 (v2 + (gi σ 156 ((4 * v3) + 3).toNatClampNeg)) (v3 + 1) else none)))
set_option maxRecDepth 100000 in
set_option maxHeartbeats 4000000 in
theorem X9_priceOf_l4_ok {E : Ev}  {N : Nat}  {σ : Sg}  : ∀ (n : Nat) (v1 : Int32) (v2 : Int32) (v3 : Int32) (r : Int32), X9_priceOf_l4 N σ n v1 v2 v3 = some r → Gp E RX9 cX9_priceOf (some .int) 4 1 SH0 σ (some (.int r)) σ 4 [(0, .ref 149), (1, .int v1), (2, .int v2), (3, .int v3)] [] := by
  intro n
  induction n with
  | zero => intro v1 v2 v3 r h; cases h
  | succ n ih =>
    intro v1 v2 v3 r h Z C hE
    unfold X9_priceOf_l4 at h
    refine r_iload_n (pc' := 5) C dX9_priceOf_4 rfl 3 rfl ?_
    refine r_aload_n (pc' := 6) C dX9_priceOf_5 rfl 0 rfl ?_
    refine r_getI (pc' := 9) C flX9_183 sh_149 rfl dX9_priceOf_6 rfl ?_
    refine r_icmp_ge (tgt := 43) (pc' := 12) C dX9_priceOf_9 rfl rfl (fun c1 => ?_) (fun c1 => ?_)
    · rw [if_pos c1] at h
      refine r_iload_n (pc' := 44) C dX9_priceOf_43 rfl 2 rfl ?_
      have h := Option.some.inj h
      subst h
      exact r_ret C rfl dX9_priceOf_44 hE
    · rw [if_neg c1] at h
      refine r_iload_n (pc' := 13) C dX9_priceOf_12 rfl 2 rfl ?_
      refine r_iload_n (pc' := 14) C dX9_priceOf_13 rfl 1 rfl ?_
      refine r_iload_n (pc' := 15) C dX9_priceOf_14 rfl 3 rfl ?_
      obtain ⟨r2, e3, h⟩ := bd h
      refine r_cS1 (pc' := 18) C (X9_has_ok  e3) mlX9_127 ceX9_has csX9_has rfl (Nat.le_of_ble_eq_true rfl) rfl (Nat.le_of_ble_eq_true rfl) dX9_priceOf_15 rfl (kk := ?_)
      refine r_if_eq (tgt := 34) (pc' := 21) C dX9_priceOf_18 rfl rfl (fun c4 => ?_) (fun c4 => ?_)
      · rw [if_pos c4] at h
        refine r_iconst (pc' := 35) C dX9_priceOf_34 rfl kc_0 ?_
        refine r_iadd (pc' := 36) C dX9_priceOf_35 rfl ?_
        refine r_istore_n (pc' := 37) (lv2 := [(2, .int (v2 + 0)), (0, .ref 149), (1, .int v1), (3, .int v3)]) C dX9_priceOf_36 rfl rfl (Nat.le_of_ble_eq_true rfl) rfl ?_
        refine r_iinc (pc' := 40) (v := v3 + 1) (lv2 := [(3, .int (v3 + 1)), (2, .int (v2 + 0)), (0, .ref 149), (1, .int v1)]) C dX9_priceOf_37 rfl 3 rfl rfl (Nat.le_of_ble_eq_true rfl) rfl ?_
        refine r_goto (tgt := 4) C dX9_priceOf_40 rfl ?_
        refine r_sub [2, 3, 1, 0] rfl ?_
        exact ih _ _ _ _ h Z C hE
      · rw [if_neg c4] at h
        refine r_aload_n (pc' := 22) C dX9_priceOf_21 rfl 0 rfl ?_
        refine r_getR (pc' := 25) C flX9_43 sh_149 rfl dX9_priceOf_22 rfl ?_
        refine r_iconst (pc' := 26) C dX9_priceOf_25 rfl kc_4 ?_
        refine r_iload_n (pc' := 27) C dX9_priceOf_26 rfl 3 rfl ?_
        refine r_imul (pc' := 28) C dX9_priceOf_27 rfl ?_
        refine r_iconst (pc' := 29) C dX9_priceOf_28 rfl kc_3 ?_
        refine r_iadd (pc' := 30) C dX9_priceOf_29 rfl ?_
        obtain ⟨q5, h⟩ := ck h
        refine r_iald (pc' := 31) C sh_156 (vin q5) dX9_priceOf_30 rfl ?_
        refine r_goto (tgt := 35) C dX9_priceOf_31 rfl ?_
        refine r_iadd (pc' := 36) C dX9_priceOf_35 rfl ?_
        refine r_istore_n (pc' := 37) (lv2 := [(2, .int (v2 + (gi σ 156 ((4 * v3) + 3).toNatClampNeg))), (0, .ref 149), (1, .int v1), (3, .int v3)]) C dX9_priceOf_36 rfl rfl (Nat.le_of_ble_eq_true rfl) rfl ?_
        refine r_iinc (pc' := 40) (v := v3 + 1) (lv2 := [(3, .int (v3 + 1)), (2, .int (v2 + (gi σ 156 ((4 * v3) + 3).toNatClampNeg))), (0, .ref 149), (1, .int v1)]) C dX9_priceOf_37 rfl 3 rfl rfl (Nat.le_of_ble_eq_true rfl) rfl ?_
        refine r_goto (tgt := 4) C dX9_priceOf_40 rfl ?_
        refine r_sub [2, 3, 1, 0] rfl ?_
        exact ih _ _ _ _ h Z C hE
def X9_priceOf (N : Nat)  (v1 : Int32) (σ : Sg) : Option (Int32) :=
  X9_priceOf_l4 N σ N v1 0 0
set_option maxRecDepth 100000 in
set_option maxHeartbeats 4000000 in
theorem X9_priceOf_ok {E : Ev}  {N : Nat} {v1 : Int32} {σ : Sg} {r : Int32} (h : X9_priceOf N  v1 σ = some r) : Cm E 1 yX9_priceOf cX9_priceOf 4 (some .int) [.ref 149, .int v1] SH0 SH0 σ σ (some (.int r)) 0 0 := by
  refine Cm.intro (by decide +kernel) (Nat.le_of_ble_eq_true rfl) (fun _ h => by obtain ⟨_, _, _, _, _, _, h⟩ := h; exact h) (fun Z C hE => ?_)
  show Wm E Z 0 0 SH0 σ 0 [(0, .ref 149), (1, .int v1)] []
  unfold X9_priceOf at h
  refine r_iconst (pc' := 1) C dX9_priceOf_0 rfl kc_0 ?_
  refine r_istore_n (pc' := 2) (lv2 := [(2, .int 0), (0, .ref 149), (1, .int v1)]) C dX9_priceOf_1 rfl rfl (Nat.le_of_ble_eq_true rfl) rfl ?_
  refine r_iconst (pc' := 3) C dX9_priceOf_2 rfl kc_0 ?_
  refine r_istore_n (pc' := 4) (lv2 := [(3, .int 0), (2, .int 0), (0, .ref 149), (1, .int v1)]) C dX9_priceOf_3 rfl rfl (Nat.le_of_ble_eq_true rfl) rfl ?_
  refine r_sub [2, 3, 1, 0] rfl ?_
  exact X9_priceOf_l4_ok  N _ _ _ _ h Z C hE

/-! BorrowedWeightModel.canServe(I)Z -/
def X9_canServe_l16 (N : Nat)  (k90 : Int32 → Int32 → Int32 → Int32 → Option (Int32)) (σ : Sg) : Nat → Int32 → Int32 → Int32 → Int32 → Int32 → Option (Int32)
  | 0, _, _, _, _, _ => none
  | n + 1, v1, v2, v3, v4, v5 =>
    if (gi σ 149 16) ≤ v5 then (k90 v1 v2 v3 v4) else ((X9_has N v1 v5 σ).bind fun r4 => (if r4 = 0 then (X9_canServe_l16 N k90 σ n v1 v2 v3 (v4 + 0) (v5 + 1)) else (if inb (4 * v5) 48 = true then if inb ((4 * v5) + 1) 48 = true then (X9_in N v3.toInt64 ((gi σ 156 (4 * v5).toNatClampNeg).toInt64) ((gi σ 156 ((4 * v5) + 1).toNatClampNeg).toInt64) σ).bind fun r9 => (if r9 = 0 then (X9_canServe_l16 N k90 σ n v1 v2 v3 (v4 + 0) (v5 + 1)) else (if inb ((4 * v5) + 2) 48 = true then X9_canServe_l16 N k90 σ n v1 v2 v3 (v4 + (gi σ 156 ((4 * v5) + 2).toNatClampNeg)) (v5 + 1) else none)) else none else none)))
set_option maxRecDepth 100000 in
set_option maxHeartbeats 4000000 in
theorem X9_canServe_l16_ok {E : Ev}  {N : Nat} {k90 : Int32 → Int32 → Int32 → Int32 → Option (Int32)} {σ : Sg} (hk90 : ∀ (v1 : Int32) (v2 : Int32) (v3 : Int32) (v4 : Int32) (r : Int32), k90 v1 v2 v3 v4 = some r → Gp E RX9 cX9_canServe (some .boolean) 6 1 SH0 σ (some (.int r)) σ 90 [(0, .ref 149), (1, .int v1), (2, .int v2), (3, .int v3), (4, .int v4)] []) : ∀ (n : Nat) (v1 : Int32) (v2 : Int32) (v3 : Int32) (v4 : Int32) (v5 : Int32) (r : Int32), X9_canServe_l16 N k90 σ n v1 v2 v3 v4 v5 = some r → Gp E RX9 cX9_canServe (some .boolean) 6 1 SH0 σ (some (.int r)) σ 16 [(0, .ref 149), (1, .int v1), (2, .int v2), (3, .int v3), (4, .int v4), (5, .int v5)] [] := by
  intro n
  induction n with
  | zero => intro v1 v2 v3 v4 v5 r h; cases h
  | succ n ih =>
    intro v1 v2 v3 v4 v5 r h Z C hE
    unfold X9_canServe_l16 at h
    refine r_iload (pc' := 18) C dX9_canServe_16 rfl 5 rfl ?_
    refine r_aload_n (pc' := 19) C dX9_canServe_18 rfl 0 rfl ?_
    refine r_getI (pc' := 22) C flX9_183 sh_149 rfl dX9_canServe_19 rfl ?_
    refine r_icmp_ge (tgt := 90) (pc' := 25) C dX9_canServe_22 rfl rfl (fun c3 => ?_) (fun c3 => ?_)
    · rw [if_pos c3] at h
      refine r_sub [0, 1, 2, 3, 4] rfl ?_
      exact hk90 _ _ _ _ _ h Z C hE
    · rw [if_neg c3] at h
      refine r_iload (pc' := 27) C dX9_canServe_25 rfl 4 rfl ?_
      refine r_iload_n (pc' := 28) C dX9_canServe_27 rfl 1 rfl ?_
      refine r_iload (pc' := 30) C dX9_canServe_28 rfl 5 rfl ?_
      obtain ⟨r4, e5, h⟩ := bd h
      refine r_cS1 (pc' := 33) C (X9_has_ok  e5) mlX9_127 ceX9_has csX9_has rfl (Nat.le_of_ble_eq_true rfl) rfl (Nat.le_of_ble_eq_true rfl) dX9_canServe_30 rfl (kk := ?_)
      refine r_if_eq (tgt := 80) (pc' := 36) C dX9_canServe_33 rfl rfl (fun c6 => ?_) (fun c6 => ?_)
      · rw [if_pos c6] at h
        refine r_iconst (pc' := 81) C dX9_canServe_80 rfl kc_0 ?_
        refine r_iadd (pc' := 82) C dX9_canServe_81 rfl ?_
        refine r_istore (pc' := 84) (lv2 := [(4, .int (v4 + 0)), (0, .ref 149), (1, .int v1), (2, .int v2), (3, .int v3), (5, .int v5)]) C dX9_canServe_82 rfl (Nat.le_of_ble_eq_true rfl) rfl ?_
        refine r_iinc (pc' := 87) (v := v5 + 1) (lv2 := [(5, .int (v5 + 1)), (4, .int (v4 + 0)), (0, .ref 149), (1, .int v1), (2, .int v2), (3, .int v3)]) C dX9_canServe_84 rfl 5 rfl rfl (Nat.le_of_ble_eq_true rfl) rfl ?_
        refine r_goto (tgt := 16) C dX9_canServe_87 rfl ?_
        refine r_sub [2, 3, 4, 5, 1, 0] rfl ?_
        exact ih _ _ _ _ _ _ h Z C hE
      · rw [if_neg c6] at h
        refine r_iload_n (pc' := 37) C dX9_canServe_36 rfl 3 rfl ?_
        refine r_i2l (pc' := 38) C dX9_canServe_37 rfl rfl ?_
        refine r_aload_n (pc' := 39) C dX9_canServe_38 rfl 0 rfl ?_
        refine r_getR (pc' := 42) C flX9_43 sh_149 rfl dX9_canServe_39 rfl ?_
        refine r_iconst (pc' := 43) C dX9_canServe_42 rfl kc_4 ?_
        refine r_iload (pc' := 45) C dX9_canServe_43 rfl 5 rfl ?_
        refine r_imul (pc' := 46) C dX9_canServe_45 rfl ?_
        obtain ⟨q7, h⟩ := ck h
        refine r_iald (pc' := 47) C sh_156 (vin q7) dX9_canServe_46 rfl ?_
        refine r_i2l (pc' := 48) C dX9_canServe_47 rfl rfl ?_
        refine r_aload_n (pc' := 49) C dX9_canServe_48 rfl 0 rfl ?_
        refine r_getR (pc' := 52) C flX9_43 sh_149 rfl dX9_canServe_49 rfl ?_
        refine r_iconst (pc' := 53) C dX9_canServe_52 rfl kc_4 ?_
        refine r_iload (pc' := 55) C dX9_canServe_53 rfl 5 rfl ?_
        refine r_imul (pc' := 56) C dX9_canServe_55 rfl ?_
        refine r_iconst (pc' := 57) C dX9_canServe_56 rfl kc_1 ?_
        refine r_iadd (pc' := 58) C dX9_canServe_57 rfl ?_
        obtain ⟨q8, h⟩ := ck h
        refine r_iald (pc' := 59) C sh_156 (vin q8) dX9_canServe_58 rfl ?_
        refine r_i2l (pc' := 60) C dX9_canServe_59 rfl rfl ?_
        obtain ⟨r9, e10, h⟩ := bd h
        refine r_cS1 (pc' := 63) C (X9_in_ok  e10) mlX9_119 ceX9_in csX9_in rfl (Nat.le_of_ble_eq_true rfl) rfl (Nat.le_of_ble_eq_true rfl) dX9_canServe_60 rfl (kk := ?_)
        refine r_if_eq (tgt := 80) (pc' := 66) C dX9_canServe_63 rfl rfl (fun c11 => ?_) (fun c11 => ?_)
        · rw [if_pos c11] at h
          refine r_iconst (pc' := 81) C dX9_canServe_80 rfl kc_0 ?_
          refine r_iadd (pc' := 82) C dX9_canServe_81 rfl ?_
          refine r_istore (pc' := 84) (lv2 := [(4, .int (v4 + 0)), (0, .ref 149), (1, .int v1), (2, .int v2), (3, .int v3), (5, .int v5)]) C dX9_canServe_82 rfl (Nat.le_of_ble_eq_true rfl) rfl ?_
          refine r_iinc (pc' := 87) (v := v5 + 1) (lv2 := [(5, .int (v5 + 1)), (4, .int (v4 + 0)), (0, .ref 149), (1, .int v1), (2, .int v2), (3, .int v3)]) C dX9_canServe_84 rfl 5 rfl rfl (Nat.le_of_ble_eq_true rfl) rfl ?_
          refine r_goto (tgt := 16) C dX9_canServe_87 rfl ?_
          refine r_sub [2, 3, 4, 5, 1, 0] rfl ?_
          exact ih _ _ _ _ _ _ h Z C hE
        · rw [if_neg c11] at h
          refine r_aload_n (pc' := 67) C dX9_canServe_66 rfl 0 rfl ?_
          refine r_getR (pc' := 70) C flX9_43 sh_149 rfl dX9_canServe_67 rfl ?_
          refine r_iconst (pc' := 71) C dX9_canServe_70 rfl kc_4 ?_
          refine r_iload (pc' := 73) C dX9_canServe_71 rfl 5 rfl ?_
          refine r_imul (pc' := 74) C dX9_canServe_73 rfl ?_
          refine r_iconst (pc' := 75) C dX9_canServe_74 rfl kc_2 ?_
          refine r_iadd (pc' := 76) C dX9_canServe_75 rfl ?_
          obtain ⟨q12, h⟩ := ck h
          refine r_iald (pc' := 77) C sh_156 (vin q12) dX9_canServe_76 rfl ?_
          refine r_goto (tgt := 81) C dX9_canServe_77 rfl ?_
          refine r_iadd (pc' := 82) C dX9_canServe_81 rfl ?_
          refine r_istore (pc' := 84) (lv2 := [(4, .int (v4 + (gi σ 156 ((4 * v5) + 2).toNatClampNeg))), (0, .ref 149), (1, .int v1), (2, .int v2), (3, .int v3), (5, .int v5)]) C dX9_canServe_82 rfl (Nat.le_of_ble_eq_true rfl) rfl ?_
          refine r_iinc (pc' := 87) (v := v5 + 1) (lv2 := [(5, .int (v5 + 1)), (4, .int (v4 + (gi σ 156 ((4 * v5) + 2).toNatClampNeg))), (0, .ref 149), (1, .int v1), (2, .int v2), (3, .int v3)]) C dX9_canServe_84 rfl 5 rfl rfl (Nat.le_of_ble_eq_true rfl) rfl ?_
          refine r_goto (tgt := 16) C dX9_canServe_87 rfl ?_
          refine r_sub [2, 3, 4, 5, 1, 0] rfl ?_
          exact ih _ _ _ _ _ _ h Z C hE
def X9_canServe_j90 (N : Nat)  (kr : Int32 → Int32 → Int32 → Option (Int32)) (v1 : Int32) (v2 : Int32) (v3 : Int32) (v4 : Int32) (σ : Sg) : Option (Int32) :=
  if v2 = 0 then (kr v1 0 (v3 + 1)) else (if inb 33 37 = true then if (gi σ 153 (33 : Int32).toNatClampNeg) < v4 then (kr v1 0 (v3 + 1)) else (kr v1 1 (v3 + 1)) else none)
set_option maxRecDepth 100000 in
set_option maxHeartbeats 4000000 in
theorem X9_canServe_j90_ok {E : Ev}  {N : Nat} {kr : Int32 → Int32 → Int32 → Option (Int32)} {σ : Sg}  (hkr : ∀ (v1 : Int32) (v2 : Int32) (v3 : Int32) (r : Int32), kr v1 v2 v3 = some r → Gp E RX9 cX9_canServe (some .boolean) 6 1 SH0 σ (some (.int r)) σ 4 [(0, .ref 149), (1, .int v1), (2, .int v2), (3, .int v3)] []) {v1 : Int32} {v2 : Int32} {v3 : Int32} {v4 : Int32} {r : Int32} (h : X9_canServe_j90 N  kr v1 v2 v3 v4 σ = some r) : Gp E RX9 cX9_canServe (some .boolean) 6 1 SH0 σ (some (.int r)) σ 90 [(0, .ref 149), (1, .int v1), (2, .int v2), (3, .int v3), (4, .int v4)] [] := by
  intro Z C hE
  unfold X9_canServe_j90 at h
  refine r_iload_n (pc' := 91) C dX9_canServe_90 rfl 2 rfl ?_
  refine r_if_eq (tgt := 110) (pc' := 94) C dX9_canServe_91 rfl rfl (fun c13 => ?_) (fun c13 => ?_)
  · rw [if_pos c13] at h
    refine r_iconst (pc' := 111) C dX9_canServe_110 rfl kc_0 ?_
    refine r_istore_n (pc' := 112) (lv2 := [(2, .int 0), (0, .ref 149), (1, .int v1), (3, .int v3), (4, .int v4)]) C dX9_canServe_111 rfl rfl (Nat.le_of_ble_eq_true rfl) rfl ?_
    refine r_iinc (pc' := 115) (v := v3 + 1) (lv2 := [(3, .int (v3 + 1)), (2, .int 0), (0, .ref 149), (1, .int v1), (4, .int v4)]) C dX9_canServe_112 rfl 3 rfl rfl (Nat.le_of_ble_eq_true rfl) rfl ?_
    refine r_goto (tgt := 4) C dX9_canServe_115 rfl ?_
    refine r_sub [2, 3, 1, 0] rfl ?_
    exact hkr _ _ _ _ h Z C hE
  · rw [if_neg c13] at h
    refine r_iload (pc' := 96) C dX9_canServe_94 rfl 4 rfl ?_
    refine r_aload_n (pc' := 97) C dX9_canServe_96 rfl 0 rfl ?_
    refine r_getR (pc' := 100) C flX9_34 sh_149 rfl dX9_canServe_97 rfl ?_
    refine r_bipush (pc' := 102) C dX9_canServe_100 rfl kb_33 ?_
    obtain ⟨q14, h⟩ := ck h
    refine r_iald (pc' := 103) C sh_153 (vin q14) dX9_canServe_102 rfl ?_
    refine r_icmp_gt (tgt := 110) (pc' := 106) C dX9_canServe_103 rfl rfl (fun c15 => ?_) (fun c15 => ?_)
    · rw [if_pos c15] at h
      refine r_iconst (pc' := 111) C dX9_canServe_110 rfl kc_0 ?_
      refine r_istore_n (pc' := 112) (lv2 := [(2, .int 0), (0, .ref 149), (1, .int v1), (3, .int v3), (4, .int v4)]) C dX9_canServe_111 rfl rfl (Nat.le_of_ble_eq_true rfl) rfl ?_
      refine r_iinc (pc' := 115) (v := v3 + 1) (lv2 := [(3, .int (v3 + 1)), (2, .int 0), (0, .ref 149), (1, .int v1), (4, .int v4)]) C dX9_canServe_112 rfl 3 rfl rfl (Nat.le_of_ble_eq_true rfl) rfl ?_
      refine r_goto (tgt := 4) C dX9_canServe_115 rfl ?_
      refine r_sub [2, 3, 1, 0] rfl ?_
      exact hkr _ _ _ _ h Z C hE
    · rw [if_neg c15] at h
      refine r_iconst (pc' := 107) C dX9_canServe_106 rfl kc_1 ?_
      refine r_goto (tgt := 111) C dX9_canServe_107 rfl ?_
      refine r_istore_n (pc' := 112) (lv2 := [(2, .int 1), (0, .ref 149), (1, .int v1), (3, .int v3), (4, .int v4)]) C dX9_canServe_111 rfl rfl (Nat.le_of_ble_eq_true rfl) rfl ?_
      refine r_iinc (pc' := 115) (v := v3 + 1) (lv2 := [(3, .int (v3 + 1)), (2, .int 1), (0, .ref 149), (1, .int v1), (4, .int v4)]) C dX9_canServe_112 rfl 3 rfl rfl (Nat.le_of_ble_eq_true rfl) rfl ?_
      refine r_goto (tgt := 4) C dX9_canServe_115 rfl ?_
      refine r_sub [2, 3, 1, 0] rfl ?_
      exact hkr _ _ _ _ h Z C hE
def X9_canServe_l4 (N : Nat)   (σ : Sg) : Nat → Int32 → Int32 → Int32 → Option (Int32)
  | 0, _, _, _ => none
  | n + 1, v1, v2, v3 =>
    if 9 < v3 then (if isB v2 = true then some v2 else none) else (X9_canServe_l16 N (fun v1 v2 v3 v4 => X9_canServe_j90 N (fun v1 v2 v3 => X9_canServe_l4 N σ n v1 v2 v3) v1 v2 v3 v4 σ) σ N v1 v2 v3 0 0)
set_option maxRecDepth 100000 in
set_option maxHeartbeats 4000000 in
theorem X9_canServe_l4_ok {E : Ev}  {N : Nat}  {σ : Sg}  : ∀ (n : Nat) (v1 : Int32) (v2 : Int32) (v3 : Int32) (r : Int32), X9_canServe_l4 N σ n v1 v2 v3 = some r → Gp E RX9 cX9_canServe (some .boolean) 6 1 SH0 σ (some (.int r)) σ 4 [(0, .ref 149), (1, .int v1), (2, .int v2), (3, .int v3)] [] := by
  intro n
  induction n with
  | zero => intro v1 v2 v3 r h; cases h
  | succ n ih =>
    intro v1 v2 v3 r h Z C hE
    unfold X9_canServe_l4 at h
    refine r_iload_n (pc' := 5) C dX9_canServe_4 rfl 3 rfl ?_
    refine r_bipush (pc' := 7) C dX9_canServe_5 rfl kb_9 ?_
    refine r_icmp_gt (tgt := 118) (pc' := 10) C dX9_canServe_7 rfl rfl (fun c1 => ?_) (fun c1 => ?_)
    · rw [if_pos c1] at h
      refine r_iload_n (pc' := 119) C dX9_canServe_118 rfl 2 rfl ?_
      obtain ⟨q2, h⟩ := ck h
      have h := Option.some.inj h
      subst h
      exact r_ret C (nisB q2) dX9_canServe_119 hE
    · rw [if_neg c1] at h
      refine r_iconst (pc' := 11) C dX9_canServe_10 rfl kc_0 ?_
      refine r_istore (pc' := 13) (lv2 := [(4, .int 0), (0, .ref 149), (1, .int v1), (2, .int v2), (3, .int v3)]) C dX9_canServe_11 rfl (Nat.le_of_ble_eq_true rfl) rfl ?_
      refine r_iconst (pc' := 14) C dX9_canServe_13 rfl kc_0 ?_
      refine r_istore (pc' := 16) (lv2 := [(5, .int 0), (4, .int 0), (0, .ref 149), (1, .int v1), (2, .int v2), (3, .int v3)]) C dX9_canServe_14 rfl (Nat.le_of_ble_eq_true rfl) rfl ?_
      refine r_sub [2, 3, 4, 5, 1, 0] rfl ?_
      exact X9_canServe_l16_ok  (fun _ _ _ _ _ h Z C hE => by exact X9_canServe_j90_ok  ih h Z C hE) N _ _ _ _ _ _ h Z C hE
def X9_canServe (N : Nat)  (v1 : Int32) (σ : Sg) : Option (Int32) :=
  X9_canServe_l4 N σ N v1 1 0
set_option maxRecDepth 100000 in
set_option maxHeartbeats 4000000 in
theorem X9_canServe_ok {E : Ev}  {N : Nat} {v1 : Int32} {σ : Sg} {r : Int32} (h : X9_canServe N  v1 σ = some r) : Cm E 1 yX9_canServe cX9_canServe 6 (some .boolean) [.ref 149, .int v1] SH0 SH0 σ σ (some (.int r)) 0 0 := by
  refine Cm.intro (by decide +kernel) (Nat.le_of_ble_eq_true rfl) (fun _ h => by obtain ⟨_, _, _, _, _, _, h⟩ := h; exact h) (fun Z C hE => ?_)
  show Wm E Z 0 0 SH0 σ 0 [(0, .ref 149), (1, .int v1)] []
  unfold X9_canServe at h
  refine r_iconst (pc' := 1) C dX9_canServe_0 rfl kc_1 ?_
  refine r_istore_n (pc' := 2) (lv2 := [(2, .int 1), (0, .ref 149), (1, .int v1)]) C dX9_canServe_1 rfl rfl (Nat.le_of_ble_eq_true rfl) rfl ?_
  refine r_iconst (pc' := 3) C dX9_canServe_2 rfl kc_0 ?_
  refine r_istore_n (pc' := 4) (lv2 := [(3, .int 0), (2, .int 1), (0, .ref 149), (1, .int v1)]) C dX9_canServe_3 rfl rfl (Nat.le_of_ble_eq_true rfl) rfl ?_
  refine r_sub [2, 3, 1, 0] rfl ?_
  exact X9_canServe_l4_ok  N _ _ _ _ h Z C hE

/-! BorrowedWeightModel.serves()I -/
def X9_serves_l21 (N : Nat)  (k52 : Int32 → Sg → Option (Int32 × Sg))  : Nat → Int32 → Int32 → Sg → Option (Int32 × Sg)
  | 0, _, _, _ => none
  | n + 1, v1, v2, σ =>
    if v2 = 0 then (k52 v1 σ) else ((X9_readsRequest N σ).bind fun r8 => (if r8.1 = 0 then (X9_serves_l21 N k52 n r8.1 0 r8.2) else ((X9_takes N 59 r8.2).bind fun r11 => (if r11.1 = 0 then (X9_serves_l21 N k52 n r8.1 0 r11.2) else (X9_serves_l21 N k52 n r8.1 1 r11.2)))))
set_option maxRecDepth 100000 in
set_option maxHeartbeats 4000000 in
theorem X9_serves_l21_ok {E : Ev}  {N : Nat} {k52 : Int32 → Sg → Option (Int32 × Sg)}  (hk52 : ∀ (v1 : Int32) (σ : Sg) (r : Int32 × Sg), k52 v1 σ = some r → Gp E RX9 cX9_serves (some .int) 7 4 SH0 r.2 (some (.int r.1)) σ 52 [(0, .ref 149), (1, .int v1)] []) : ∀ (n : Nat) (v1 : Int32) (v2 : Int32) (σ : Sg) (r : Int32 × Sg), X9_serves_l21 N k52 n v1 v2 σ = some r → Gp E RX9 cX9_serves (some .int) 7 4 SH0 r.2 (some (.int r.1)) σ 21 [(0, .ref 149), (1, .int v1), (2, .int v2)] [] := by
  intro n
  induction n with
  | zero => intro v1 v2 σ r h; cases h
  | succ n ih =>
    intro v1 v2 σ r h Z C hE
    unfold X9_serves_l21 at h
    refine r_iload_n (pc' := 22) C dX9_serves_21 rfl 2 rfl ?_
    refine r_if_eq (tgt := 52) (pc' := 25) C dX9_serves_22 rfl rfl (fun c7 => ?_) (fun c7 => ?_)
    · rw [if_pos c7] at h
      refine r_sub [0, 1] rfl ?_
      exact hk52 _ _ _ h Z C hE
    · rw [if_neg c7] at h
      refine r_aload_n (pc' := 26) C dX9_serves_25 rfl 0 rfl ?_
      obtain ⟨r8, e9, h⟩ := bd h
      refine r_cV1 (pc' := 29) C (X9_readsRequest_ok  e9) mlX9_370 ceX9_readsRequest cvX9_readsRequest sh_149 rfl rfl rfl (Nat.le_of_ble_eq_true rfl) rfl (Nat.le_of_ble_eq_true rfl) dX9_serves_26 rfl (kk := ?_)
      refine r_istore_n (pc' := 30) (lv2 := [(1, .int r8.1), (0, .ref 149), (2, .int v2)]) C dX9_serves_29 rfl rfl (Nat.le_of_ble_eq_true rfl) rfl ?_
      refine r_iload_n (pc' := 31) C dX9_serves_30 rfl 0 rfl ?_
      refine r_if_eq (tgt := 47) (pc' := 34) C dX9_serves_31 rfl rfl (fun c10 => ?_) (fun c10 => ?_)
      · rw [if_pos c10] at h
        refine r_iconst (pc' := 48) C dX9_serves_47 rfl kc_0 ?_
        refine r_istore_n (pc' := 49) (lv2 := [(2, .int 0), (1, .int r8.1), (0, .ref 149)]) C dX9_serves_48 rfl rfl (Nat.le_of_ble_eq_true rfl) rfl ?_
        refine r_goto (tgt := 21) C dX9_serves_49 rfl ?_
        refine r_sub [2, 1, 0] rfl ?_
        exact ih _ _ _ _ h Z C hE
      · rw [if_neg c10] at h
        refine r_aload_n (pc' := 35) C dX9_serves_34 rfl 1 rfl ?_
        refine r_bipush (pc' := 37) C dX9_serves_35 rfl kb_59 ?_
        obtain ⟨r11, e12, h⟩ := bd h
        refine r_cV1 (pc' := 40) C (X9_takes_ok  e12) mlX9_189 ceX9_takes cvX9_takes sh_149 rfl rfl rfl (Nat.le_of_ble_eq_true rfl) rfl (Nat.le_of_ble_eq_true rfl) dX9_serves_37 rfl (kk := ?_)
        refine r_if_eq (tgt := 47) (pc' := 43) C dX9_serves_40 rfl rfl (fun c13 => ?_) (fun c13 => ?_)
        · rw [if_pos c13] at h
          refine r_iconst (pc' := 48) C dX9_serves_47 rfl kc_0 ?_
          refine r_istore_n (pc' := 49) (lv2 := [(2, .int 0), (1, .int r8.1), (0, .ref 149)]) C dX9_serves_48 rfl rfl (Nat.le_of_ble_eq_true rfl) rfl ?_
          refine r_goto (tgt := 21) C dX9_serves_49 rfl ?_
          refine r_sub [2, 1, 0] rfl ?_
          exact ih _ _ _ _ h Z C hE
        · rw [if_neg c13] at h
          refine r_iconst (pc' := 44) C dX9_serves_43 rfl kc_1 ?_
          refine r_goto (tgt := 48) C dX9_serves_44 rfl ?_
          refine r_istore_n (pc' := 49) (lv2 := [(2, .int 1), (1, .int r8.1), (0, .ref 149)]) C dX9_serves_48 rfl rfl (Nat.le_of_ble_eq_true rfl) rfl ?_
          refine r_goto (tgt := 21) C dX9_serves_49 rfl ?_
          refine r_sub [2, 1, 0] rfl ?_
          exact ih _ _ _ _ h Z C hE
def X9_serves_j131 (N : Nat)  (kr : Int32 → Int32 → Sg → Option (Int32 × Sg)) (v3 : Int32) (v4 : Int32) (s0 : Int32) (σ : Sg) : Option (Int32 × Sg) :=
  if s0 = 0 then (kr v3 (v4 + 1) σ) else ((X9_canServe N v4 σ).bind fun r23 => (if r23 = 0 then (kr v3 (v4 + 1) σ) else (kr v4 (v4 + 1) σ)))
set_option maxRecDepth 100000 in
set_option maxHeartbeats 4000000 in
theorem X9_serves_j131_ok {E : Ev}  {N : Nat} {kr : Int32 → Int32 → Sg → Option (Int32 × Sg)}  (hkr : ∀ (v3 : Int32) (v4 : Int32) (σ : Sg) (r : Int32 × Sg), kr v3 v4 σ = some r → Gp E RX9 cX9_serves (some .int) 7 4 SH0 r.2 (some (.int r.1)) σ 79 [(0, .ref 149), (3, .int v3), (4, .int v4)] []) {v3 : Int32} {v4 : Int32} {s0 : Int32} {σ : Sg} {r : Int32 × Sg} (h : X9_serves_j131 N  kr v3 v4 s0 σ = some r) : Gp E RX9 cX9_serves (some .int) 7 4 SH0 r.2 (some (.int r.1)) σ 131 [(0, .ref 149), (3, .int v3), (4, .int v4)] [.int s0] := by
  intro Z C hE
  unfold X9_serves_j131 at h
  refine r_istore (pc' := 133) (lv2 := [(6, .int s0), (0, .ref 149), (3, .int v3), (4, .int v4)]) C dX9_serves_131 rfl (Nat.le_of_ble_eq_true rfl) rfl ?_
  refine r_iload (pc' := 135) C dX9_serves_133 rfl 0 rfl ?_
  refine r_if_eq (tgt := 152) (pc' := 138) C dX9_serves_135 rfl rfl (fun c22 => ?_) (fun c22 => ?_)
  · rw [if_pos c22] at h
    refine r_iload_n (pc' := 153) C dX9_serves_152 rfl 2 rfl ?_
    refine r_istore_n (pc' := 154) (lv2 := [(3, .int v3), (6, .int s0), (0, .ref 149), (4, .int v4)]) C dX9_serves_153 rfl rfl (Nat.le_of_ble_eq_true rfl) rfl ?_
    refine r_iinc (pc' := 157) (v := v4 + 1) (lv2 := [(4, .int (v4 + 1)), (3, .int v3), (6, .int s0), (0, .ref 149)]) C dX9_serves_154 rfl 3 rfl rfl (Nat.le_of_ble_eq_true rfl) rfl ?_
    refine r_goto (tgt := 79) C dX9_serves_157 rfl ?_
    refine r_sub [3, 1, 0] rfl ?_
    exact hkr _ _ _ _ h Z C hE
  · rw [if_neg c22] at h
    refine r_aload_n (pc' := 139) C dX9_serves_138 rfl 1 rfl ?_
    refine r_iload (pc' := 141) C dX9_serves_139 rfl 3 rfl ?_
    obtain ⟨r23, e24, h⟩ := bd h
    refine r_cV1 (pc' := 144) C (X9_canServe_ok  e24) mlX9_376 ceX9_canServe cvX9_canServe sh_149 rfl rfl rfl (Nat.le_of_ble_eq_true rfl) rfl (Nat.le_of_ble_eq_true rfl) dX9_serves_141 rfl (kk := ?_)
    refine r_if_eq (tgt := 152) (pc' := 147) C dX9_serves_144 rfl rfl (fun c25 => ?_) (fun c25 => ?_)
    · rw [if_pos c25] at h
      refine r_iload_n (pc' := 153) C dX9_serves_152 rfl 2 rfl ?_
      refine r_istore_n (pc' := 154) (lv2 := [(3, .int v3), (6, .int s0), (0, .ref 149), (4, .int v4)]) C dX9_serves_153 rfl rfl (Nat.le_of_ble_eq_true rfl) rfl ?_
      refine r_iinc (pc' := 157) (v := v4 + 1) (lv2 := [(4, .int (v4 + 1)), (3, .int v3), (6, .int s0), (0, .ref 149)]) C dX9_serves_154 rfl 3 rfl rfl (Nat.le_of_ble_eq_true rfl) rfl ?_
      refine r_goto (tgt := 79) C dX9_serves_157 rfl ?_
      refine r_sub [3, 1, 0] rfl ?_
      exact hkr _ _ _ _ h Z C hE
    · rw [if_neg c25] at h
      refine r_iload (pc' := 149) C dX9_serves_147 rfl 3 rfl ?_
      refine r_goto (tgt := 153) C dX9_serves_149 rfl ?_
      refine r_istore_n (pc' := 154) (lv2 := [(3, .int v4), (6, .int s0), (0, .ref 149), (4, .int v4)]) C dX9_serves_153 rfl rfl (Nat.le_of_ble_eq_true rfl) rfl ?_
      refine r_iinc (pc' := 157) (v := v4 + 1) (lv2 := [(4, .int (v4 + 1)), (3, .int v4), (6, .int s0), (0, .ref 149)]) C dX9_serves_154 rfl 3 rfl rfl (Nat.le_of_ble_eq_true rfl) rfl ?_
      refine r_goto (tgt := 79) C dX9_serves_157 rfl ?_
      refine r_sub [3, 1, 0] rfl ?_
      exact hkr _ _ _ _ h Z C hE
def X9_serves_l79 (N : Nat)  (k160 : Int32 → Sg → Option (Int32 × Sg))  : Nat → Int32 → Int32 → Sg → Option (Int32 × Sg)
  | 0, _, _, _ => none
  | n + 1, v3, v4, σ =>
    if (1 <<< ((gi σ 149 16) &&& 31)) ≤ v4 then (k160 v3 σ) else ((X9_priceOf N v4 σ).bind fun r17 => ((X9_priceOf N v3 σ).bind fun r19 => (if 0 < (r17 - r19) then (X9_serves_j131 N (fun v3 v4 σ => X9_serves_l79 N k160 n v3 v4 σ) v3 v4 1 σ) else (if (r17 - r19) = 0 then ((J6_bitCount_0f7a4 N v4 σ).bind fun r27 => ((J6_bitCount_0f7a4 N v3 σ).bind fun r29 => (if r29 ≤ r27 then (X9_serves_j131 N (fun v3 v4 σ => X9_serves_l79 N k160 n v3 v4 σ) v3 v4 0 σ) else (X9_serves_j131 N (fun v3 v4 σ => X9_serves_l79 N k160 n v3 v4 σ) v3 v4 1 σ)))) else (X9_serves_j131 N (fun v3 v4 σ => X9_serves_l79 N k160 n v3 v4 σ) v3 v4 0 σ)))))
set_option maxRecDepth 100000 in
set_option maxHeartbeats 4000000 in
theorem X9_serves_l79_ok {E : Ev}  {N : Nat} {k160 : Int32 → Sg → Option (Int32 × Sg)}  (hk160 : ∀ (v3 : Int32) (σ : Sg) (r : Int32 × Sg), k160 v3 σ = some r → Gp E RX9 cX9_serves (some .int) 7 4 SH0 r.2 (some (.int r.1)) σ 160 [(0, .ref 149), (3, .int v3)] []) : ∀ (n : Nat) (v3 : Int32) (v4 : Int32) (σ : Sg) (r : Int32 × Sg), X9_serves_l79 N k160 n v3 v4 σ = some r → Gp E RX9 cX9_serves (some .int) 7 4 SH0 r.2 (some (.int r.1)) σ 79 [(0, .ref 149), (3, .int v3), (4, .int v4)] [] := by
  intro n
  induction n with
  | zero => intro v3 v4 σ r h; cases h
  | succ n ih =>
    intro v3 v4 σ r h Z C hE
    unfold X9_serves_l79 at h
    refine r_iload (pc' := 81) C dX9_serves_79 rfl 2 rfl ?_
    refine r_iconst (pc' := 82) C dX9_serves_81 rfl kc_1 ?_
    refine r_aload_n (pc' := 83) C dX9_serves_82 rfl 0 rfl ?_
    refine r_getI (pc' := 86) C flX9_183 sh_149 rfl dX9_serves_83 rfl ?_
    refine r_ishl (pc' := 87) C dX9_serves_86 rfl ?_
    refine r_icmp_ge (tgt := 160) (pc' := 90) C dX9_serves_87 rfl rfl (fun c16 => ?_) (fun c16 => ?_)
    · rw [if_pos c16] at h
      refine r_sub [0, 1] rfl ?_
      exact hk160 _ _ _ h Z C hE
    · rw [if_neg c16] at h
      refine r_aload_n (pc' := 91) C dX9_serves_90 rfl 0 rfl ?_
      refine r_iload (pc' := 93) C dX9_serves_91 rfl 2 rfl ?_
      obtain ⟨r17, e18, h⟩ := bd h
      refine r_cV1 (pc' := 96) C (X9_priceOf_ok  e18) mlX9_373 ceX9_priceOf cvX9_priceOf sh_149 rfl rfl rfl (Nat.le_of_ble_eq_true rfl) rfl (Nat.le_of_ble_eq_true rfl) dX9_serves_93 rfl (kk := ?_)
      refine r_aload_n (pc' := 97) C dX9_serves_96 rfl 0 rfl ?_
      refine r_iload_n (pc' := 98) C dX9_serves_97 rfl 1 rfl ?_
      obtain ⟨r19, e20, h⟩ := bd h
      refine r_cV1 (pc' := 101) C (X9_priceOf_ok  e20) mlX9_373 ceX9_priceOf cvX9_priceOf sh_149 rfl rfl rfl (Nat.le_of_ble_eq_true rfl) rfl (Nat.le_of_ble_eq_true rfl) dX9_serves_98 rfl (kk := ?_)
      refine r_isub (pc' := 102) C dX9_serves_101 rfl ?_
      refine r_istore (pc' := 104) (lv2 := [(5, .int (r17 - r19)), (0, .ref 149), (3, .int v3), (4, .int v4)]) C dX9_serves_102 rfl (Nat.le_of_ble_eq_true rfl) rfl ?_
      refine r_iload (pc' := 106) C dX9_serves_104 rfl 0 rfl ?_
      refine r_if_gt (tgt := 126) (pc' := 109) C dX9_serves_106 rfl rfl (fun c21 => ?_) (fun c21 => ?_)
      · rw [if_pos c21] at h
        refine r_iconst (pc' := 127) C dX9_serves_126 rfl kc_1 ?_
        refine r_goto (tgt := 131) C dX9_serves_127 rfl ?_
        refine r_sub [1, 2, 3] rfl ?_
        exact X9_serves_j131_ok  ih h Z C hE
      · rw [if_neg c21] at h
        refine r_iload (pc' := 111) C dX9_serves_109 rfl 0 rfl ?_
        refine r_if_ne (tgt := 130) (pc' := 114) C dX9_serves_111 rfl rfl (fun c26 => ?_) (fun c26 => ?_)
        · rw [if_neg c26] at h
          refine r_iconst (pc' := 131) C dX9_serves_130 rfl kc_0 ?_
          refine r_sub [1, 2, 3] rfl ?_
          exact X9_serves_j131_ok  ih h Z C hE
        · rw [if_pos c26] at h
          refine r_iload (pc' := 116) C dX9_serves_114 rfl 3 rfl ?_
          obtain ⟨r27, e28, h⟩ := bd h
          refine r_cS1 (pc' := 119) C (J6_bitCount_0f7a4_ok  e28) mlX9_135 ceJ6_bitCount_0f7a4 csJ6_bitCount_0f7a4 rfl (Nat.le_of_ble_eq_true rfl) rfl (Nat.le_of_ble_eq_true rfl) dX9_serves_116 rfl (kk := ?_)
          refine r_iload_n (pc' := 120) C dX9_serves_119 rfl 2 rfl ?_
          obtain ⟨r29, e30, h⟩ := bd h
          refine r_cS1 (pc' := 123) C (J6_bitCount_0f7a4_ok  e30) mlX9_135 ceJ6_bitCount_0f7a4 csJ6_bitCount_0f7a4 rfl (Nat.le_of_ble_eq_true rfl) rfl (Nat.le_of_ble_eq_true rfl) dX9_serves_120 rfl (kk := ?_)
          refine r_icmp_ge (tgt := 130) (pc' := 126) C dX9_serves_123 rfl rfl (fun c31 => ?_) (fun c31 => ?_)
          · rw [if_pos c31] at h
            refine r_iconst (pc' := 131) C dX9_serves_130 rfl kc_0 ?_
            refine r_sub [1, 2, 3] rfl ?_
            exact X9_serves_j131_ok  ih h Z C hE
          · rw [if_neg c31] at h
            refine r_iconst (pc' := 127) C dX9_serves_126 rfl kc_1 ?_
            refine r_goto (tgt := 131) C dX9_serves_127 rfl ?_
            refine r_sub [1, 2, 3] rfl ?_
            exact X9_serves_j131_ok  ih h Z C hE
def X9_serves_j160 (N : Nat)   (v3 : Int32) (σ : Sg) : Option (Int32 × Sg) :=
  bnS (wi σ 149 1 0) fun σ32 => (X9_enters N v3.toInt64 σ32).bind fun r34 => ((X9_priceOf N v3 r34).bind fun r36 => (some (r36, r34)))
set_option maxRecDepth 100000 in
set_option maxHeartbeats 4000000 in
theorem X9_serves_j160_ok {E : Ev}  {N : Nat}    {v3 : Int32} {σ : Sg} {r : Int32 × Sg} (h : X9_serves_j160 N   v3 σ = some r) : Gp E RX9 cX9_serves (some .int) 7 4 SH0 r.2 (some (.int r.1)) σ 160 [(0, .ref 149), (3, .int v3)] [] := by
  intro Z C hE
  unfold X9_serves_j160 at h
  refine r_aload_n (pc' := 161) C dX9_serves_160 rfl 0 rfl ?_
  refine r_iconst (pc' := 162) C dX9_serves_161 rfl kc_0 ?_
  obtain ⟨σ32, e33, h⟩ := bs h
  refine r_putI (pc' := 165) (σ1 := σ32) C fpX9_15 sh_149 rfl rfl rfl dX9_serves_162 rfl e33 ?_
  refine r_aload_n (pc' := 166) C dX9_serves_165 rfl 0 rfl ?_
  refine r_iload_n (pc' := 167) C dX9_serves_166 rfl 1 rfl ?_
  refine r_i2l (pc' := 168) C dX9_serves_167 rfl rfl ?_
  obtain ⟨r34, e35, h⟩ := bd h
  refine r_cV0 (pc' := 171) C (X9_enters_ok  e35) mlX9_327 ceX9_enters cvX9_enters sh_149 rfl rfl rfl (Nat.le_of_ble_eq_true rfl) rfl (Nat.le_of_ble_eq_true rfl) dX9_serves_168 rfl (kk := ?_)
  refine r_aload_n (pc' := 172) C dX9_serves_171 rfl 0 rfl ?_
  refine r_iload_n (pc' := 173) C dX9_serves_172 rfl 1 rfl ?_
  obtain ⟨r36, e37, h⟩ := bd h
  refine r_cV1 (pc' := 176) C (X9_priceOf_ok  e37) mlX9_373 ceX9_priceOf cvX9_priceOf sh_149 rfl rfl rfl (Nat.le_of_ble_eq_true rfl) rfl (Nat.le_of_ble_eq_true rfl) dX9_serves_173 rfl (kk := ?_)
  have h := Option.some.inj h
  subst h
  exact r_ret C rfl dX9_serves_176 hE
def X9_serves_j52 (N : Nat)   (v1 : Int32) (σ : Sg) : Option (Int32 × Sg) :=
  if v1 = 0 then (some ((-1) - (gi σ 149 12), σ)) else (if (gi σ 149 13) ≤ (gi σ 149 12) then (X9_serves_l79 N (fun v3 σ => X9_serves_j160 N v3 σ) N 0 1 σ) else (some ((-1) - (gi σ 149 12), σ)))
set_option maxRecDepth 100000 in
set_option maxHeartbeats 4000000 in
theorem X9_serves_j52_ok {E : Ev}  {N : Nat}    {v1 : Int32} {σ : Sg} {r : Int32 × Sg} (h : X9_serves_j52 N   v1 σ = some r) : Gp E RX9 cX9_serves (some .int) 7 4 SH0 r.2 (some (.int r.1)) σ 52 [(0, .ref 149), (1, .int v1)] [] := by
  intro Z C hE
  unfold X9_serves_j52 at h
  refine r_iload_n (pc' := 53) C dX9_serves_52 rfl 1 rfl ?_
  refine r_if_eq (tgt := 67) (pc' := 56) C dX9_serves_53 rfl rfl (fun c14 => ?_) (fun c14 => ?_)
  · rw [if_pos c14] at h
    refine r_iconst (pc' := 68) C dX9_serves_67 rfl kc_m1 ?_
    refine r_aload_n (pc' := 69) C dX9_serves_68 rfl 0 rfl ?_
    refine r_getI (pc' := 72) C flX9_144 sh_149 rfl dX9_serves_69 rfl ?_
    refine r_isub (pc' := 73) C dX9_serves_72 rfl ?_
    have h := Option.some.inj h
    subst h
    exact r_ret C rfl dX9_serves_73 hE
  · rw [if_neg c14] at h
    refine r_aload_n (pc' := 57) C dX9_serves_56 rfl 0 rfl ?_
    refine r_getI (pc' := 60) C flX9_144 sh_149 rfl dX9_serves_57 rfl ?_
    refine r_aload_n (pc' := 61) C dX9_serves_60 rfl 0 rfl ?_
    refine r_getI (pc' := 64) C flX9_156 sh_149 rfl dX9_serves_61 rfl ?_
    refine r_icmp_ge (tgt := 74) (pc' := 67) C dX9_serves_64 rfl rfl (fun c15 => ?_) (fun c15 => ?_)
    · rw [if_pos c15] at h
      refine r_iconst (pc' := 75) C dX9_serves_74 rfl kc_0 ?_
      refine r_istore_n (pc' := 76) (lv2 := [(3, .int 0), (0, .ref 149), (1, .int v1)]) C dX9_serves_75 rfl rfl (Nat.le_of_ble_eq_true rfl) rfl ?_
      refine r_iconst (pc' := 77) C dX9_serves_76 rfl kc_1 ?_
      refine r_istore (pc' := 79) (lv2 := [(4, .int 1), (3, .int 0), (0, .ref 149), (1, .int v1)]) C dX9_serves_77 rfl (Nat.le_of_ble_eq_true rfl) rfl ?_
      refine r_sub [2, 1, 0] rfl ?_
      exact X9_serves_l79_ok  (fun _ _ _ h Z C hE => by exact X9_serves_j160_ok  h Z C hE) N _ _ _ _ h Z C hE
    · rw [if_neg c15] at h
      refine r_iconst (pc' := 68) C dX9_serves_67 rfl kc_m1 ?_
      refine r_aload_n (pc' := 69) C dX9_serves_68 rfl 0 rfl ?_
      refine r_getI (pc' := 72) C flX9_144 sh_149 rfl dX9_serves_69 rfl ?_
      refine r_isub (pc' := 73) C dX9_serves_72 rfl ?_
      have h := Option.some.inj h
      subst h
      exact r_ret C rfl dX9_serves_73 hE
def X9_serves (N : Nat)   (σ : Sg) : Option (Int32 × Sg) :=
  bnS (wi σ 149 0 0) fun σ1 => (X9_begins N 80 σ1).bind fun r3 => (bnS (wi r3.2 149 16 0) fun σ5 => X9_serves_l21 N (fun v1 σ => X9_serves_j52 N v1 σ) N 1 1 σ5)
set_option maxRecDepth 100000 in
set_option maxHeartbeats 4000000 in
theorem X9_serves_ok {E : Ev}  {N : Nat}  {σ : Sg} {r : Int32 × Sg} (h : X9_serves N   σ = some r) : Cm E 4 yX9_serves cX9_serves 7 (some .int) [.ref 149] SH0 SH0 σ r.2 (some (.int r.1)) 0 0 := by
  refine Cm.intro (by decide +kernel) (Nat.le_of_ble_eq_true rfl) (fun _ h => by obtain ⟨_, _, _, _, _, _, h⟩ := h; exact h) (fun Z C hE => ?_)
  show Wm E Z 0 0 SH0 σ 0 [(0, .ref 149)] []
  unfold X9_serves at h
  refine r_aload_n (pc' := 1) C dX9_serves_0 rfl 0 rfl ?_
  refine r_iconst (pc' := 2) C dX9_serves_1 rfl kc_0 ?_
  obtain ⟨σ1, e2, h⟩ := bs h
  refine r_putI (pc' := 5) (σ1 := σ1) C fpX9_3 sh_149 rfl rfl rfl dX9_serves_2 rfl e2 ?_
  refine r_aload_n (pc' := 6) C dX9_serves_5 rfl 0 rfl ?_
  refine r_bipush (pc' := 8) C dX9_serves_6 rfl kb_80 ?_
  obtain ⟨r3, e4, h⟩ := bd h
  refine r_cV1 (pc' := 11) C (X9_begins_ok  e4) mlX9_180 ceX9_begins cvX9_begins sh_149 rfl rfl rfl (Nat.le_of_ble_eq_true rfl) rfl (Nat.le_of_ble_eq_true rfl) dX9_serves_8 rfl (kk := ?_)
  refine r_pop (pc' := 12) C dX9_serves_11 rfl rfl ?_
  refine r_aload_n (pc' := 13) C dX9_serves_12 rfl 0 rfl ?_
  refine r_iconst (pc' := 14) C dX9_serves_13 rfl kc_0 ?_
  obtain ⟨σ5, e6, h⟩ := bs h
  refine r_putI (pc' := 17) (σ1 := σ5) C fpX9_183 sh_149 rfl rfl rfl dX9_serves_14 rfl e6 ?_
  refine r_iconst (pc' := 18) C dX9_serves_17 rfl kc_1 ?_
  refine r_istore_n (pc' := 19) (lv2 := [(1, .int 1), (0, .ref 149)]) C dX9_serves_18 rfl rfl (Nat.le_of_ble_eq_true rfl) rfl ?_
  refine r_iconst (pc' := 20) C dX9_serves_19 rfl kc_1 ?_
  refine r_istore_n (pc' := 21) (lv2 := [(2, .int 1), (1, .int 1), (0, .ref 149)]) C dX9_serves_20 rfl rfl (Nat.le_of_ble_eq_true rfl) rfl ?_
  refine r_sub [2, 1, 0] rfl ?_
  exact X9_serves_l21_ok  (fun _ _ _ h Z C hE => by exact X9_serves_j52_ok  h Z C hE) N _ _ _ _ h Z C hE
