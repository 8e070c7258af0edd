/-! BorrowedWeightModel.codes(I)V -/
def X9_codes (N : Nat)  (v1 : Int32) (σ : Sg) : Option (Sg) :=
  if inb (gi σ 149 20) 80 = true then bnS (wi σ 158 (gi σ 149 20).toNatClampNeg v1) fun σ2 => bnS (wi σ2 149 20 ((gi σ2 149 20) + 1)) fun σ4 => some σ4 else none
set_option maxRecDepth 100000 in
set_option maxHeartbeats 4000000 in
theorem X9_codes_ok {E : Ev}  {N : Nat} {v1 : Int32} {σ : Sg} {r : Sg} (h : X9_codes N  v1 σ = some r) : Cm E (0) yX9_codes cX9_codes 2 none [.ref 149, .int v1] SH0 SH0 σ r (none) 0 0 := by
  refine Cm.intro (by decide +kernel) (Nat.le_of_ble_eq_true rfl) (fun _ h => by obtain ⟨_, _, _, _, _, _, h⟩ := h; exact h) (fun Z C hE => ?_)
  show Wm E Z 0 0 SH0 σ 0 [(0, .ref 149), (1, .int v1)] []
  unfold X9_codes at h
  refine r_aload_n (pc' := 1) C dX9_codes_0 rfl 0 rfl ?_
  refine r_getR (pc' := 4) C flX9_49 sh_149 rfl dX9_codes_1 rfl ?_
  refine r_aload_n (pc' := 5) C dX9_codes_4 rfl 0 rfl ?_
  refine r_getI (pc' := 8) C flX9_222 sh_149 rfl dX9_codes_5 rfl ?_
  refine r_iload_n (pc' := 9) C dX9_codes_8 rfl 1 rfl ?_
  obtain ⟨q1, h⟩ := ck h
  obtain ⟨σ2, e3, h⟩ := bs h
  refine r_iast (pc' := 10) (σ1 := σ2) C sh_158 (vin q1) dX9_codes_9 rfl e3 ?_
  refine r_aload_n (pc' := 11) C dX9_codes_10 rfl 0 rfl ?_
  refine r_dup (pc' := 12) C dX9_codes_11 rfl rfl ?_
  refine r_getI (pc' := 15) C flX9_222 sh_149 rfl dX9_codes_12 rfl ?_
  refine r_iconst (pc' := 16) C dX9_codes_15 rfl kc_1 ?_
  refine r_iadd (pc' := 17) C dX9_codes_16 rfl ?_
  obtain ⟨σ4, e5, h⟩ := bs h
  refine r_putI (pc' := 20) (σ1 := σ4) C fpX9_222 sh_149 rfl rfl rfl dX9_codes_17 rfl e5 ?_
  have h := Option.some.inj h
  subst h
  exact r_vret C dX9_codes_20 hE

/-! java/lang/String.coder()B -/
def J0_coder_7d493_s0 (N : Nat)   (σ : Sg) : Option (Int32) :=
  if (1 : Int32) = 0 then (some 1) else (some 0)
set_option maxRecDepth 100000 in
set_option maxHeartbeats 4000000 in
theorem J0_coder_7d493_s0_ok {E : Ev} {S : List Sh}  {N : Nat}  {σ : Sg} {r : Int32} (h : J0_coder_7d493_s0 N   σ = some r) : Cm E (0) yJ0_coder_7d493 cJ0_coder_7d493 1 (some .byte) [.ref 1010] S S σ σ (some (.int r)) 0 0 := by
  refine Cm.intro (by decide +kernel) (Nat.le_of_ble_eq_true rfl) (fun _ h => by obtain ⟨_, _, _, _, _, _, h⟩ := h; exact h) (fun Z C hE => ?_)
  show Wm E Z 0 0 S σ 0 [(0, .ref 1010)] []
  unfold J0_coder_7d493_s0 at h
  refine r_getCS (pc' := 3) C gzJ0_38 dJ0_coder_7d493_0 rfl ?_
  refine r_if_eq (tgt := 13) (pc' := 6) C dJ0_coder_7d493_3 rfl rfl (fun c1 => ?_) (fun c1 => ?_)
  · rw [if_pos c1] at h
    refine r_iconst (pc' := 14) C dJ0_coder_7d493_13 rfl kc_1 ?_
    have h := Option.some.inj h
    subst h
    exact r_ret C rfl dJ0_coder_7d493_14 hE
  · rw [if_neg c1] at h
    refine r_aload_n (pc' := 7) C dJ0_coder_7d493_6 rfl 0 rfl ?_
    refine r_strC (pc' := 10) (i := 0) C rfl gzJ0_15 dJ0_coder_7d493_7 rfl ?_
    refine r_goto (tgt := 14) C dJ0_coder_7d493_10 rfl ?_
    have h := Option.some.inj h
    subst h
    exact r_ret C rfl dJ0_coder_7d493_14 hE

/-! java/lang/String.coder()B -/
def J0_coder_7d493_s1 (N : Nat)   (σ : Sg) : Option (Int32) :=
  if (1 : Int32) = 0 then (some 1) else (some 0)
set_option maxRecDepth 100000 in
set_option maxHeartbeats 4000000 in
theorem J0_coder_7d493_s1_ok {E : Ev} {S : List Sh}  {N : Nat}  {σ : Sg} {r : Int32} (h : J0_coder_7d493_s1 N   σ = some r) : Cm E (0) yJ0_coder_7d493 cJ0_coder_7d493 1 (some .byte) [.ref 1011] S S σ σ (some (.int r)) 0 0 := by
  refine Cm.intro (by decide +kernel) (Nat.le_of_ble_eq_true rfl) (fun _ h => by obtain ⟨_, _, _, _, _, _, h⟩ := h; exact h) (fun Z C hE => ?_)
  show Wm E Z 0 0 S σ 0 [(0, .ref 1011)] []
  unfold J0_coder_7d493_s1 at h
  refine r_getCS (pc' := 3) C gzJ0_38 dJ0_coder_7d493_0 rfl ?_
  refine r_if_eq (tgt := 13) (pc' := 6) C dJ0_coder_7d493_3 rfl rfl (fun c1 => ?_) (fun c1 => ?_)
  · rw [if_pos c1] at h
    refine r_iconst (pc' := 14) C dJ0_coder_7d493_13 rfl kc_1 ?_
    have h := Option.some.inj h
    subst h
    exact r_ret C rfl dJ0_coder_7d493_14 hE
  · rw [if_neg c1] at h
    refine r_aload_n (pc' := 7) C dJ0_coder_7d493_6 rfl 0 rfl ?_
    refine r_strC (pc' := 10) (i := 1) C rfl gzJ0_15 dJ0_coder_7d493_7 rfl ?_
    refine r_goto (tgt := 14) C dJ0_coder_7d493_10 rfl ?_
    have h := Option.some.inj h
    subst h
    exact r_ret C rfl dJ0_coder_7d493_14 hE

/-! java/lang/String.coder()B -/
def J0_coder_7d493_s2 (N : Nat)   (σ : Sg) : Option (Int32) :=
  if (1 : Int32) = 0 then (some 1) else (some 0)
set_option maxRecDepth 100000 in
set_option maxHeartbeats 4000000 in
theorem J0_coder_7d493_s2_ok {E : Ev} {S : List Sh}  {N : Nat}  {σ : Sg} {r : Int32} (h : J0_coder_7d493_s2 N   σ = some r) : Cm E (0) yJ0_coder_7d493 cJ0_coder_7d493 1 (some .byte) [.ref 1012] S S σ σ (some (.int r)) 0 0 := by
  refine Cm.intro (by decide +kernel) (Nat.le_of_ble_eq_true rfl) (fun _ h => by obtain ⟨_, _, _, _, _, _, h⟩ := h; exact h) (fun Z C hE => ?_)
  show Wm E Z 0 0 S σ 0 [(0, .ref 1012)] []
  unfold J0_coder_7d493_s2 at h
  refine r_getCS (pc' := 3) C gzJ0_38 dJ0_coder_7d493_0 rfl ?_
  refine r_if_eq (tgt := 13) (pc' := 6) C dJ0_coder_7d493_3 rfl rfl (fun c1 => ?_) (fun c1 => ?_)
  · rw [if_pos c1] at h
    refine r_iconst (pc' := 14) C dJ0_coder_7d493_13 rfl kc_1 ?_
    have h := Option.some.inj h
    subst h
    exact r_ret C rfl dJ0_coder_7d493_14 hE
  · rw [if_neg c1] at h
    refine r_aload_n (pc' := 7) C dJ0_coder_7d493_6 rfl 0 rfl ?_
    refine r_strC (pc' := 10) (i := 2) C rfl gzJ0_15 dJ0_coder_7d493_7 rfl ?_
    refine r_goto (tgt := 14) C dJ0_coder_7d493_10 rfl ?_
    have h := Option.some.inj h
    subst h
    exact r_ret C rfl dJ0_coder_7d493_14 hE

/-! java/lang/String.coder()B -/
def J0_coder_7d493_s3 (N : Nat)   (σ : Sg) : Option (Int32) :=
  if (1 : Int32) = 0 then (some 1) else (some 0)
set_option maxRecDepth 100000 in
set_option maxHeartbeats 4000000 in
theorem J0_coder_7d493_s3_ok {E : Ev} {S : List Sh}  {N : Nat}  {σ : Sg} {r : Int32} (h : J0_coder_7d493_s3 N   σ = some r) : Cm E (0) yJ0_coder_7d493 cJ0_coder_7d493 1 (some .byte) [.ref 1013] S S σ σ (some (.int r)) 0 0 := by
  refine Cm.intro (by decide +kernel) (Nat.le_of_ble_eq_true rfl) (fun _ h => by obtain ⟨_, _, _, _, _, _, h⟩ := h; exact h) (fun Z C hE => ?_)
  show Wm E Z 0 0 S σ 0 [(0, .ref 1013)] []
  unfold J0_coder_7d493_s3 at h
  refine r_getCS (pc' := 3) C gzJ0_38 dJ0_coder_7d493_0 rfl ?_
  refine r_if_eq (tgt := 13) (pc' := 6) C dJ0_coder_7d493_3 rfl rfl (fun c1 => ?_) (fun c1 => ?_)
  · rw [if_pos c1] at h
    refine r_iconst (pc' := 14) C dJ0_coder_7d493_13 rfl kc_1 ?_
    have h := Option.some.inj h
    subst h
    exact r_ret C rfl dJ0_coder_7d493_14 hE
  · rw [if_neg c1] at h
    refine r_aload_n (pc' := 7) C dJ0_coder_7d493_6 rfl 0 rfl ?_
    refine r_strC (pc' := 10) (i := 3) C rfl gzJ0_15 dJ0_coder_7d493_7 rfl ?_
    refine r_goto (tgt := 14) C dJ0_coder_7d493_10 rfl ?_
    have h := Option.some.inj h
    subst h
    exact r_ret C rfl dJ0_coder_7d493_14 hE

/-! java/lang/String.coder()B -/
def J0_coder_7d493_s4 (N : Nat)   (σ : Sg) : Option (Int32) :=
  if (1 : Int32) = 0 then (some 1) else (some 0)
set_option maxRecDepth 100000 in
set_option maxHeartbeats 4000000 in
theorem J0_coder_7d493_s4_ok {E : Ev} {S : List Sh}  {N : Nat}  {σ : Sg} {r : Int32} (h : J0_coder_7d493_s4 N   σ = some r) : Cm E (0) yJ0_coder_7d493 cJ0_coder_7d493 1 (some .byte) [.ref 1014] S S σ σ (some (.int r)) 0 0 := by
  refine Cm.intro (by decide +kernel) (Nat.le_of_ble_eq_true rfl) (fun _ h => by obtain ⟨_, _, _, _, _, _, h⟩ := h; exact h) (fun Z C hE => ?_)
  show Wm E Z 0 0 S σ 0 [(0, .ref 1014)] []
  unfold J0_coder_7d493_s4 at h
  refine r_getCS (pc' := 3) C gzJ0_38 dJ0_coder_7d493_0 rfl ?_
  refine r_if_eq (tgt := 13) (pc' := 6) C dJ0_coder_7d493_3 rfl rfl (fun c1 => ?_) (fun c1 => ?_)
  · rw [if_pos c1] at h
    refine r_iconst (pc' := 14) C dJ0_coder_7d493_13 rfl kc_1 ?_
    have h := Option.some.inj h
    subst h
    exact r_ret C rfl dJ0_coder_7d493_14 hE
  · rw [if_neg c1] at h
    refine r_aload_n (pc' := 7) C dJ0_coder_7d493_6 rfl 0 rfl ?_
    refine r_strC (pc' := 10) (i := 4) C rfl gzJ0_15 dJ0_coder_7d493_7 rfl ?_
    refine r_goto (tgt := 14) C dJ0_coder_7d493_10 rfl ?_
    have h := Option.some.inj h
    subst h
    exact r_ret C rfl dJ0_coder_7d493_14 hE

/-! java/lang/String.length()I -/
def J0_length_8abf5_s0 (N : Nat)   (σ : Sg) : Option (Int32) :=
  (J0_coder_7d493_s0 N σ).bind fun r1 => (some (8 >>> (r1 &&& 31)))
set_option maxRecDepth 100000 in
set_option maxHeartbeats 4000000 in
theorem J0_length_8abf5_s0_ok {E : Ev} {S : List Sh}  {N : Nat}  {σ : Sg} {r : Int32} (h : J0_length_8abf5_s0 N   σ = some r) : Cm E (1) yJ0_length_8abf5 cJ0_length_8abf5 1 (some .int) [.ref 1010] S S σ σ (some (.int r)) 0 0 := by
  refine Cm.intro (by decide +kernel) (Nat.le_of_ble_eq_true rfl) (fun _ h => by obtain ⟨_, _, _, _, _, _, h⟩ := h; exact h) (fun Z C hE => ?_)
  show Wm E Z 0 0 S σ 0 [(0, .ref 1010)] []
  unfold J0_length_8abf5_s0 at h
  refine r_aload_n (pc' := 1) C dJ0_length_8abf5_0 rfl 0 rfl ?_
  refine r_strV (pc' := 4) (i := 0) C rfl gzJ0_9 dJ0_length_8abf5_1 rfl ?_
  refine r_oldBL (pc' := 5) (j := 0) (v := 8) C rfl rfl dJ0_length_8abf5_4 rfl ?_
  refine r_aload_n (pc' := 6) C dJ0_length_8abf5_5 rfl 0 rfl ?_
  obtain ⟨r1, e2, h⟩ := bd h
  refine r_sV1 (pc' := 9) (i := 0) C (J0_coder_7d493_s0_ok  e2) mlJ0_335 ceJ0_coder_7d493 cvJ0_coder_7d493 rfl rfl rfl (Nat.le_of_ble_eq_true rfl) rfl (Nat.le_of_ble_eq_true rfl) ⟨Nat.zero_le _, Nat.zero_le _⟩ dJ0_length_8abf5_6 rfl ?_
  refine r_ishr (pc' := 10) C dJ0_length_8abf5_9 rfl ?_
  have h := Option.some.inj h
  subst h
  exact r_ret C rfl dJ0_length_8abf5_10 hE

/-! java/lang/String.length()I -/
def J0_length_8abf5_s1 (N : Nat)   (σ : Sg) : Option (Int32) :=
  (J0_coder_7d493_s1 N σ).bind fun r1 => (some (3 >>> (r1 &&& 31)))
set_option maxRecDepth 100000 in
set_option maxHeartbeats 4000000 in
theorem J0_length_8abf5_s1_ok {E : Ev} {S : List Sh}  {N : Nat}  {σ : Sg} {r : Int32} (h : J0_length_8abf5_s1 N   σ = some r) : Cm E (1) yJ0_length_8abf5 cJ0_length_8abf5 1 (some .int) [.ref 1011] S S σ σ (some (.int r)) 0 0 := by
  refine Cm.intro (by decide +kernel) (Nat.le_of_ble_eq_true rfl) (fun _ h => by obtain ⟨_, _, _, _, _, _, h⟩ := h; exact h) (fun Z C hE => ?_)
  show Wm E Z 0 0 S σ 0 [(0, .ref 1011)] []
  unfold J0_length_8abf5_s1 at h
  refine r_aload_n (pc' := 1) C dJ0_length_8abf5_0 rfl 0 rfl ?_
  refine r_strV (pc' := 4) (i := 1) C rfl gzJ0_9 dJ0_length_8abf5_1 rfl ?_
  refine r_oldBL (pc' := 5) (j := 1) (v := 3) C rfl rfl dJ0_length_8abf5_4 rfl ?_
  refine r_aload_n (pc' := 6) C dJ0_length_8abf5_5 rfl 0 rfl ?_
  obtain ⟨r1, e2, h⟩ := bd h
  refine r_sV1 (pc' := 9) (i := 1) C (J0_coder_7d493_s1_ok  e2) mlJ0_335 ceJ0_coder_7d493 cvJ0_coder_7d493 rfl rfl rfl (Nat.le_of_ble_eq_true rfl) rfl (Nat.le_of_ble_eq_true rfl) ⟨Nat.zero_le _, Nat.zero_le _⟩ dJ0_length_8abf5_6 rfl ?_
  refine r_ishr (pc' := 10) C dJ0_length_8abf5_9 rfl ?_
  have h := Option.some.inj h
  subst h
  exact r_ret C rfl dJ0_length_8abf5_10 hE

/-! java/lang/String.length()I -/
def J0_length_8abf5_s2 (N : Nat)   (σ : Sg) : Option (Int32) :=
  (J0_coder_7d493_s2 N σ).bind fun r1 => (some (2 >>> (r1 &&& 31)))
set_option maxRecDepth 100000 in
set_option maxHeartbeats 4000000 in
theorem J0_length_8abf5_s2_ok {E : Ev} {S : List Sh}  {N : Nat}  {σ : Sg} {r : Int32} (h : J0_length_8abf5_s2 N   σ = some r) : Cm E (1) yJ0_length_8abf5 cJ0_length_8abf5 1 (some .int) [.ref 1012] S S σ σ (some (.int r)) 0 0 := by
  refine Cm.intro (by decide +kernel) (Nat.le_of_ble_eq_true rfl) (fun _ h => by obtain ⟨_, _, _, _, _, _, h⟩ := h; exact h) (fun Z C hE => ?_)
  show Wm E Z 0 0 S σ 0 [(0, .ref 1012)] []
  unfold J0_length_8abf5_s2 at h
  refine r_aload_n (pc' := 1) C dJ0_length_8abf5_0 rfl 0 rfl ?_
  refine r_strV (pc' := 4) (i := 2) C rfl gzJ0_9 dJ0_length_8abf5_1 rfl ?_
  refine r_oldBL (pc' := 5) (j := 2) (v := 2) C rfl rfl dJ0_length_8abf5_4 rfl ?_
  refine r_aload_n (pc' := 6) C dJ0_length_8abf5_5 rfl 0 rfl ?_
  obtain ⟨r1, e2, h⟩ := bd h
  refine r_sV1 (pc' := 9) (i := 2) C (J0_coder_7d493_s2_ok  e2) mlJ0_335 ceJ0_coder_7d493 cvJ0_coder_7d493 rfl rfl rfl (Nat.le_of_ble_eq_true rfl) rfl (Nat.le_of_ble_eq_true rfl) ⟨Nat.zero_le _, Nat.zero_le _⟩ dJ0_length_8abf5_6 rfl ?_
  refine r_ishr (pc' := 10) C dJ0_length_8abf5_9 rfl ?_
  have h := Option.some.inj h
  subst h
  exact r_ret C rfl dJ0_length_8abf5_10 hE

/-! java/lang/String.length()I -/
def J0_length_8abf5_s3 (N : Nat)   (σ : Sg) : Option (Int32) :=
  (J0_coder_7d493_s3 N σ).bind fun r1 => (some (2 >>> (r1 &&& 31)))
set_option maxRecDepth 100000 in
set_option maxHeartbeats 4000000 in
theorem J0_length_8abf5_s3_ok {E : Ev} {S : List Sh}  {N : Nat}  {σ : Sg} {r : Int32} (h : J0_length_8abf5_s3 N   σ = some r) : Cm E (1) yJ0_length_8abf5 cJ0_length_8abf5 1 (some .int) [.ref 1013] S S σ σ (some (.int r)) 0 0 := by
  refine Cm.intro (by decide +kernel) (Nat.le_of_ble_eq_true rfl) (fun _ h => by obtain ⟨_, _, _, _, _, _, h⟩ := h; exact h) (fun Z C hE => ?_)
  show Wm E Z 0 0 S σ 0 [(0, .ref 1013)] []
  unfold J0_length_8abf5_s3 at h
  refine r_aload_n (pc' := 1) C dJ0_length_8abf5_0 rfl 0 rfl ?_
  refine r_strV (pc' := 4) (i := 3) C rfl gzJ0_9 dJ0_length_8abf5_1 rfl ?_
  refine r_oldBL (pc' := 5) (j := 3) (v := 2) C rfl rfl dJ0_length_8abf5_4 rfl ?_
  refine r_aload_n (pc' := 6) C dJ0_length_8abf5_5 rfl 0 rfl ?_
  obtain ⟨r1, e2, h⟩ := bd h
  refine r_sV1 (pc' := 9) (i := 3) C (J0_coder_7d493_s3_ok  e2) mlJ0_335 ceJ0_coder_7d493 cvJ0_coder_7d493 rfl rfl rfl (Nat.le_of_ble_eq_true rfl) rfl (Nat.le_of_ble_eq_true rfl) ⟨Nat.zero_le _, Nat.zero_le _⟩ dJ0_length_8abf5_6 rfl ?_
  refine r_ishr (pc' := 10) C dJ0_length_8abf5_9 rfl ?_
  have h := Option.some.inj h
  subst h
  exact r_ret C rfl dJ0_length_8abf5_10 hE

/-! java/lang/String.length()I -/
def J0_length_8abf5_s4 (N : Nat)   (σ : Sg) : Option (Int32) :=
  (J0_coder_7d493_s4 N σ).bind fun r1 => (some (5 >>> (r1 &&& 31)))
set_option maxRecDepth 100000 in
set_option maxHeartbeats 4000000 in
theorem J0_length_8abf5_s4_ok {E : Ev} {S : List Sh}  {N : Nat}  {σ : Sg} {r : Int32} (h : J0_length_8abf5_s4 N   σ = some r) : Cm E (1) yJ0_length_8abf5 cJ0_length_8abf5 1 (some .int) [.ref 1014] S S σ σ (some (.int r)) 0 0 := by
  refine Cm.intro (by decide +kernel) (Nat.le_of_ble_eq_true rfl) (fun _ h => by obtain ⟨_, _, _, _, _, _, h⟩ := h; exact h) (fun Z C hE => ?_)
  show Wm E Z 0 0 S σ 0 [(0, .ref 1014)] []
  unfold J0_length_8abf5_s4 at h
  refine r_aload_n (pc' := 1) C dJ0_length_8abf5_0 rfl 0 rfl ?_
  refine r_strV (pc' := 4) (i := 4) C rfl gzJ0_9 dJ0_length_8abf5_1 rfl ?_
  refine r_oldBL (pc' := 5) (j := 4) (v := 5) C rfl rfl dJ0_length_8abf5_4 rfl ?_
  refine r_aload_n (pc' := 6) C dJ0_length_8abf5_5 rfl 0 rfl ?_
  obtain ⟨r1, e2, h⟩ := bd h
  refine r_sV1 (pc' := 9) (i := 4) C (J0_coder_7d493_s4_ok  e2) mlJ0_335 ceJ0_coder_7d493 cvJ0_coder_7d493 rfl rfl rfl (Nat.le_of_ble_eq_true rfl) rfl (Nat.le_of_ble_eq_true rfl) ⟨Nat.zero_le _, Nat.zero_le _⟩ dJ0_length_8abf5_6 rfl ?_
  refine r_ishr (pc' := 10) C dJ0_length_8abf5_9 rfl ?_
  have h := Option.some.inj h
  subst h
  exact r_ret C rfl dJ0_length_8abf5_10 hE

/-! java/lang/String.isLatin1()Z -/
def J0_isLatin1_aae02_s0 (N : Nat)   (σ : Sg) : Option (Int32) :=
  if (1 : Int32) = 0 then (some 0) else (if (0 : Int32) = 0 then (some 1) else (some 0))
set_option maxRecDepth 100000 in
set_option maxHeartbeats 4000000 in
theorem J0_isLatin1_aae02_s0_ok {E : Ev} {S : List Sh}  {N : Nat}  {σ : Sg} {r : Int32} (h : J0_isLatin1_aae02_s0 N   σ = some r) : Cm E (0) yJ0_isLatin1_aae02 cJ0_isLatin1_aae02 1 (some .boolean) [.ref 1010] S S σ σ (some (.int r)) 0 0 := by
  refine Cm.intro (by decide +kernel) (Nat.le_of_ble_eq_true rfl) (fun _ h => by obtain ⟨_, _, _, _, _, _, h⟩ := h; exact h) (fun Z C hE => ?_)
  show Wm E Z 0 0 S σ 0 [(0, .ref 1010)] []
  unfold J0_isLatin1_aae02_s0 at h
  refine r_getCS (pc' := 3) C gzJ0_38 dJ0_isLatin1_aae02_0 rfl ?_
  refine r_if_eq (tgt := 17) (pc' := 6) C dJ0_isLatin1_aae02_3 rfl rfl (fun c1 => ?_) (fun c1 => ?_)
  · rw [if_pos c1] at h
    refine r_iconst (pc' := 18) C dJ0_isLatin1_aae02_17 rfl kc_0 ?_
    have h := Option.some.inj h
    subst h
    exact r_ret C rfl dJ0_isLatin1_aae02_18 hE
  · rw [if_neg c1] at h
    refine r_aload_n (pc' := 7) C dJ0_isLatin1_aae02_6 rfl 0 rfl ?_
    refine r_strC (pc' := 10) (i := 0) C rfl gzJ0_15 dJ0_isLatin1_aae02_7 rfl ?_
    refine r_if_ne (tgt := 17) (pc' := 13) C dJ0_isLatin1_aae02_10 rfl rfl (fun c2 => ?_) (fun c2 => ?_)
    · rw [if_neg c2] at h
      refine r_iconst (pc' := 18) C dJ0_isLatin1_aae02_17 rfl kc_0 ?_
      have h := Option.some.inj h
      subst h
      exact r_ret C rfl dJ0_isLatin1_aae02_18 hE
    · rw [if_pos c2] at h
      refine r_iconst (pc' := 14) C dJ0_isLatin1_aae02_13 rfl kc_1 ?_
      refine r_goto (tgt := 18) C dJ0_isLatin1_aae02_14 rfl ?_
      have h := Option.some.inj h
      subst h
      exact r_ret C rfl dJ0_isLatin1_aae02_18 hE

/-! java/lang/String.isLatin1()Z -/
def J0_isLatin1_aae02_s1 (N : Nat)   (σ : Sg) : Option (Int32) :=
  if (1 : Int32) = 0 then (some 0) else (if (0 : Int32) = 0 then (some 1) else (some 0))
set_option maxRecDepth 100000 in
set_option maxHeartbeats 4000000 in
theorem J0_isLatin1_aae02_s1_ok {E : Ev} {S : List Sh}  {N : Nat}  {σ : Sg} {r : Int32} (h : J0_isLatin1_aae02_s1 N   σ = some r) : Cm E (0) yJ0_isLatin1_aae02 cJ0_isLatin1_aae02 1 (some .boolean) [.ref 1011] S S σ σ (some (.int r)) 0 0 := by
  refine Cm.intro (by decide +kernel) (Nat.le_of_ble_eq_true rfl) (fun _ h => by obtain ⟨_, _, _, _, _, _, h⟩ := h; exact h) (fun Z C hE => ?_)
  show Wm E Z 0 0 S σ 0 [(0, .ref 1011)] []
  unfold J0_isLatin1_aae02_s1 at h
  refine r_getCS (pc' := 3) C gzJ0_38 dJ0_isLatin1_aae02_0 rfl ?_
  refine r_if_eq (tgt := 17) (pc' := 6) C dJ0_isLatin1_aae02_3 rfl rfl (fun c1 => ?_) (fun c1 => ?_)
  · rw [if_pos c1] at h
    refine r_iconst (pc' := 18) C dJ0_isLatin1_aae02_17 rfl kc_0 ?_
    have h := Option.some.inj h
    subst h
    exact r_ret C rfl dJ0_isLatin1_aae02_18 hE
  · rw [if_neg c1] at h
    refine r_aload_n (pc' := 7) C dJ0_isLatin1_aae02_6 rfl 0 rfl ?_
    refine r_strC (pc' := 10) (i := 1) C rfl gzJ0_15 dJ0_isLatin1_aae02_7 rfl ?_
    refine r_if_ne (tgt := 17) (pc' := 13) C dJ0_isLatin1_aae02_10 rfl rfl (fun c2 => ?_) (fun c2 => ?_)
    · rw [if_neg c2] at h
      refine r_iconst (pc' := 18) C dJ0_isLatin1_aae02_17 rfl kc_0 ?_
      have h := Option.some.inj h
      subst h
      exact r_ret C rfl dJ0_isLatin1_aae02_18 hE
    · rw [if_pos c2] at h
      refine r_iconst (pc' := 14) C dJ0_isLatin1_aae02_13 rfl kc_1 ?_
      refine r_goto (tgt := 18) C dJ0_isLatin1_aae02_14 rfl ?_
      have h := Option.some.inj h
      subst h
      exact r_ret C rfl dJ0_isLatin1_aae02_18 hE

/-! java/lang/String.isLatin1()Z -/
def J0_isLatin1_aae02_s2 (N : Nat)   (σ : Sg) : Option (Int32) :=
  if (1 : Int32) = 0 then (some 0) else (if (0 : Int32) = 0 then (some 1) else (some 0))
set_option maxRecDepth 100000 in
set_option maxHeartbeats 4000000 in
theorem J0_isLatin1_aae02_s2_ok {E : Ev} {S : List Sh}  {N : Nat}  {σ : Sg} {r : Int32} (h : J0_isLatin1_aae02_s2 N   σ = some r) : Cm E (0) yJ0_isLatin1_aae02 cJ0_isLatin1_aae02 1 (some .boolean) [.ref 1012] S S σ σ (some (.int r)) 0 0 := by
  refine Cm.intro (by decide +kernel) (Nat.le_of_ble_eq_true rfl) (fun _ h => by obtain ⟨_, _, _, _, _, _, h⟩ := h; exact h) (fun Z C hE => ?_)
  show Wm E Z 0 0 S σ 0 [(0, .ref 1012)] []
  unfold J0_isLatin1_aae02_s2 at h
  refine r_getCS (pc' := 3) C gzJ0_38 dJ0_isLatin1_aae02_0 rfl ?_
  refine r_if_eq (tgt := 17) (pc' := 6) C dJ0_isLatin1_aae02_3 rfl rfl (fun c1 => ?_) (fun c1 => ?_)
  · rw [if_pos c1] at h
    refine r_iconst (pc' := 18) C dJ0_isLatin1_aae02_17 rfl kc_0 ?_
    have h := Option.some.inj h
    subst h
    exact r_ret C rfl dJ0_isLatin1_aae02_18 hE
  · rw [if_neg c1] at h
    refine r_aload_n (pc' := 7) C dJ0_isLatin1_aae02_6 rfl 0 rfl ?_
    refine r_strC (pc' := 10) (i := 2) C rfl gzJ0_15 dJ0_isLatin1_aae02_7 rfl ?_
    refine r_if_ne (tgt := 17) (pc' := 13) C dJ0_isLatin1_aae02_10 rfl rfl (fun c2 => ?_) (fun c2 => ?_)
    · rw [if_neg c2] at h
      refine r_iconst (pc' := 18) C dJ0_isLatin1_aae02_17 rfl kc_0 ?_
      have h := Option.some.inj h
      subst h
      exact r_ret C rfl dJ0_isLatin1_aae02_18 hE
    · rw [if_pos c2] at h
      refine r_iconst (pc' := 14) C dJ0_isLatin1_aae02_13 rfl kc_1 ?_
      refine r_goto (tgt := 18) C dJ0_isLatin1_aae02_14 rfl ?_
      have h := Option.some.inj h
      subst h
      exact r_ret C rfl dJ0_isLatin1_aae02_18 hE

/-! java/lang/String.isLatin1()Z -/
def J0_isLatin1_aae02_s3 (N : Nat)   (σ : Sg) : Option (Int32) :=
  if (1 : Int32) = 0 then (some 0) else (if (0 : Int32) = 0 then (some 1) else (some 0))
set_option maxRecDepth 100000 in
set_option maxHeartbeats 4000000 in
theorem J0_isLatin1_aae02_s3_ok {E : Ev} {S : List Sh}  {N : Nat}  {σ : Sg} {r : Int32} (h : J0_isLatin1_aae02_s3 N   σ = some r) : Cm E (0) yJ0_isLatin1_aae02 cJ0_isLatin1_aae02 1 (some .boolean) [.ref 1013] S S σ σ (some (.int r)) 0 0 := by
  refine Cm.intro (by decide +kernel) (Nat.le_of_ble_eq_true rfl) (fun _ h => by obtain ⟨_, _, _, _, _, _, h⟩ := h; exact h) (fun Z C hE => ?_)
  show Wm E Z 0 0 S σ 0 [(0, .ref 1013)] []
  unfold J0_isLatin1_aae02_s3 at h
  refine r_getCS (pc' := 3) C gzJ0_38 dJ0_isLatin1_aae02_0 rfl ?_
  refine r_if_eq (tgt := 17) (pc' := 6) C dJ0_isLatin1_aae02_3 rfl rfl (fun c1 => ?_) (fun c1 => ?_)
  · rw [if_pos c1] at h
    refine r_iconst (pc' := 18) C dJ0_isLatin1_aae02_17 rfl kc_0 ?_
    have h := Option.some.inj h
    subst h
    exact r_ret C rfl dJ0_isLatin1_aae02_18 hE
  · rw [if_neg c1] at h
    refine r_aload_n (pc' := 7) C dJ0_isLatin1_aae02_6 rfl 0 rfl ?_
    refine r_strC (pc' := 10) (i := 3) C rfl gzJ0_15 dJ0_isLatin1_aae02_7 rfl ?_
    refine r_if_ne (tgt := 17) (pc' := 13) C dJ0_isLatin1_aae02_10 rfl rfl (fun c2 => ?_) (fun c2 => ?_)
    · rw [if_neg c2] at h
      refine r_iconst (pc' := 18) C dJ0_isLatin1_aae02_17 rfl kc_0 ?_
      have h := Option.some.inj h
      subst h
      exact r_ret C rfl dJ0_isLatin1_aae02_18 hE
    · rw [if_pos c2] at h
      refine r_iconst (pc' := 14) C dJ0_isLatin1_aae02_13 rfl kc_1 ?_
      refine r_goto (tgt := 18) C dJ0_isLatin1_aae02_14 rfl ?_
      have h := Option.some.inj h
      subst h
      exact r_ret C rfl dJ0_isLatin1_aae02_18 hE

/-! java/lang/String.isLatin1()Z -/
def J0_isLatin1_aae02_s4 (N : Nat)   (σ : Sg) : Option (Int32) :=
  if (1 : Int32) = 0 then (some 0) else (if (0 : Int32) = 0 then (some 1) else (some 0))
set_option maxRecDepth 100000 in
set_option maxHeartbeats 4000000 in
theorem J0_isLatin1_aae02_s4_ok {E : Ev} {S : List Sh}  {N : Nat}  {σ : Sg} {r : Int32} (h : J0_isLatin1_aae02_s4 N   σ = some r) : Cm E (0) yJ0_isLatin1_aae02 cJ0_isLatin1_aae02 1 (some .boolean) [.ref 1014] S S σ σ (some (.int r)) 0 0 := by
  refine Cm.intro (by decide +kernel) (Nat.le_of_ble_eq_true rfl) (fun _ h => by obtain ⟨_, _, _, _, _, _, h⟩ := h; exact h) (fun Z C hE => ?_)
  show Wm E Z 0 0 S σ 0 [(0, .ref 1014)] []
  unfold J0_isLatin1_aae02_s4 at h
  refine r_getCS (pc' := 3) C gzJ0_38 dJ0_isLatin1_aae02_0 rfl ?_
  refine r_if_eq (tgt := 17) (pc' := 6) C dJ0_isLatin1_aae02_3 rfl rfl (fun c1 => ?_) (fun c1 => ?_)
  · rw [if_pos c1] at h
    refine r_iconst (pc' := 18) C dJ0_isLatin1_aae02_17 rfl kc_0 ?_
    have h := Option.some.inj h
    subst h
    exact r_ret C rfl dJ0_isLatin1_aae02_18 hE
  · rw [if_neg c1] at h
    refine r_aload_n (pc' := 7) C dJ0_isLatin1_aae02_6 rfl 0 rfl ?_
    refine r_strC (pc' := 10) (i := 4) C rfl gzJ0_15 dJ0_isLatin1_aae02_7 rfl ?_
    refine r_if_ne (tgt := 17) (pc' := 13) C dJ0_isLatin1_aae02_10 rfl rfl (fun c2 => ?_) (fun c2 => ?_)
    · rw [if_neg c2] at h
      refine r_iconst (pc' := 18) C dJ0_isLatin1_aae02_17 rfl kc_0 ?_
      have h := Option.some.inj h
      subst h
      exact r_ret C rfl dJ0_isLatin1_aae02_18 hE
    · rw [if_pos c2] at h
      refine r_iconst (pc' := 14) C dJ0_isLatin1_aae02_13 rfl kc_1 ?_
      refine r_goto (tgt := 18) C dJ0_isLatin1_aae02_14 rfl ?_
      have h := Option.some.inj h
      subst h
      exact r_ret C rfl dJ0_isLatin1_aae02_18 hE

/-! jdk/internal/util/Preconditions.checkIndex(IILjava/util/function/BiFunction;)I -/
def J3_checkIndex_8e157_x (N : Nat)  (v0 : Int32) (v1 : Int32) (σ : Sg) : Option (Int32 × Sg) :=
  if v0 < 0 then none else (if v0 < v1 then (some (v0, σ)) else none)
set_option maxRecDepth 100000 in
set_option maxHeartbeats 4000000 in
theorem J3_checkIndex_8e157_x_ok {E : Ev} {S : List Sh}  {N : Nat} {v0 : Int32} {v1 : Int32} {σ : Sg} {r : Int32 × Sg} (h : J3_checkIndex_8e157_x N  v0 v1 σ = some r) : Cm E (0) yJ3_checkIndex_8e157 cJ3_checkIndex_8e157 3 (some .int) [.int v0, .int v1, sio E] S S σ r.2 (some (.int r.1)) 0 0 := by
  refine Cm.intro (by decide +kernel) hn_sio (fun _ h => by obtain ⟨_, _, _, _, _, _, h⟩ := h; exact h) (fun Z C hE => ?_)
  show Wm E Z 0 0 S σ 0 [(0, .int v0), (1, .int v1), (2, sio E)] []
  unfold J3_checkIndex_8e157_x at h
  refine r_iload_n (pc' := 1) C dJ3_checkIndex_8e157_0 rfl 0 rfl ?_
  refine r_if_lt (tgt := 9) (pc' := 4) C dJ3_checkIndex_8e157_1 rfl rfl (fun c1 => ?_) (fun c1 => ?_)
  · rw [if_pos c1] at h
    cases h
  · rw [if_neg c1] at h
    refine r_iload_n (pc' := 5) C dJ3_checkIndex_8e157_4 rfl 0 rfl ?_
    refine r_iload_n (pc' := 6) C dJ3_checkIndex_8e157_5 rfl 1 rfl ?_
    refine r_icmp_lt (tgt := 16) (pc' := 9) C dJ3_checkIndex_8e157_6 rfl rfl (fun c2 => ?_) (fun c2 => ?_)
    · rw [if_pos c2] at h
      refine r_iload_n (pc' := 17) C dJ3_checkIndex_8e157_16 rfl 0 rfl ?_
      have h := Option.some.inj h
      subst h
      exact r_ret C rfl dJ3_checkIndex_8e157_17 hE
    · rw [if_neg c2] at h
      cases h

/-! java/lang/String.checkIndex(II)V -/
def J0_checkIndex_df160 (N : Nat)  (v0 : Int32) (v1 : Int32) (σ : Sg) : Option (Sg) :=
  (J3_checkIndex_8e157_x N v0 v1 σ).bind fun r1 => (some r1.2)
set_option maxRecDepth 100000 in
set_option maxHeartbeats 4000000 in
theorem J0_checkIndex_df160_ok {E : Ev} {S : List Sh}  {N : Nat} {v0 : Int32} {v1 : Int32} {σ : Sg} {r : Sg} (h : J0_checkIndex_df160 N  v0 v1 σ = some r) : Cm E (1) yJ0_checkIndex_df160 cJ0_checkIndex_df160 2 none [.int v0, .int v1] S S σ r (none) 0 0 := by
  refine Cm.intro (by decide +kernel) (Nat.le_of_ble_eq_true rfl) (fun _ h => by obtain ⟨_, _, _, _, _, _, h⟩ := h; exact h) (fun Z C hE => ?_)
  show Wm E Z 0 0 S σ 0 [(0, .int v0), (1, .int v1)] []
  unfold J0_checkIndex_df160 at h
  refine r_iload_n (pc' := 1) C dJ0_checkIndex_df160_0 rfl 0 rfl ?_
  refine r_iload_n (pc' := 2) C dJ0_checkIndex_df160_1 rfl 1 rfl ?_
  refine r_getSI (pc' := 5) C gzJ0_1053 dJ0_checkIndex_df160_2 rfl ?_
  obtain ⟨r1, e2, h⟩ := bd h
  refine r_cS1 (pc' := 8) C (J3_checkIndex_8e157_x_ok  e2) mlJ0_1059 ceJ3_checkIndex_8e157 csJ3_checkIndex_8e157 rfl (Nat.le_of_ble_eq_true rfl) rfl (Nat.le_of_ble_eq_true rfl) dJ0_checkIndex_df160_5 rfl (kk := ?_)
  refine r_pop (pc' := 9) C dJ0_checkIndex_df160_8 rfl rfl ?_
  have h := Option.some.inj h
  subst h
  exact r_vret C dJ0_checkIndex_df160_9 hE

/-! java/lang/StringLatin1.charAt([BI)C -/
def J1_charAt_3b067_s0 (N : Nat)  (v1 : Int32) (σ : Sg) : Option (Int32 × Sg) :=
  (J0_checkIndex_df160 N v1 8 σ).bind fun r1 => (if inb v1 8 = true then if isC (i2c_ ((sB0.getD v1.toNatClampNeg 0) &&& 255)) = true then some (i2c_ ((sB0.getD v1.toNatClampNeg 0) &&& 255), r1) else none else none)
set_option maxRecDepth 100000 in
set_option maxHeartbeats 4000000 in
theorem J1_charAt_3b067_s0_ok {E : Ev} {S : List Sh}  {N : Nat} {v1 : Int32} {σ : Sg} {r : Int32 × Sg} (h : J1_charAt_3b067_s0 N  v1 σ = some r) : Cm E (2) yJ1_charAt_3b067 cJ1_charAt_3b067 2 (some .char) [.ref 1020, .int v1] S S σ r.2 (some (.int r.1)) 0 0 := by
  refine Cm.intro (by decide +kernel) (Nat.le_of_ble_eq_true rfl) (fun _ h => by obtain ⟨_, _, _, _, _, _, h⟩ := h; exact h) (fun Z C hE => ?_)
  show Wm E Z 0 0 S σ 0 [(0, .ref 1020), (1, .int v1)] []
  unfold J1_charAt_3b067_s0 at h
  refine r_iload_n (pc' := 1) C dJ1_charAt_3b067_0 rfl 1 rfl ?_
  refine r_aload_n (pc' := 2) C dJ1_charAt_3b067_1 rfl 0 rfl ?_
  refine r_oldBL (pc' := 3) (j := 0) (v := 8) C rfl rfl dJ1_charAt_3b067_2 rfl ?_
  obtain ⟨r1, e2, h⟩ := bd h
  refine r_cS0 (pc' := 6) C (J0_checkIndex_df160_ok  e2) mlJ1_9 ceJ0_checkIndex_df160 csJ0_checkIndex_df160 rfl (Nat.le_of_ble_eq_true rfl) rfl (Nat.le_of_ble_eq_true rfl) dJ1_charAt_3b067_3 rfl (kk := ?_)
  refine r_aload_n (pc' := 7) C dJ1_charAt_3b067_6 rfl 0 rfl ?_
  refine r_iload_n (pc' := 8) C dJ1_charAt_3b067_7 rfl 1 rfl ?_
  obtain ⟨q3, h⟩ := ck h
  refine r_oldB (pc' := 9) (j := 0) C rfl (vin q3) rfl dJ1_charAt_3b067_8 rfl ?_
  refine r_sipush (pc' := 12) C dJ1_charAt_3b067_9 rfl ks_255 ?_
  refine r_iand (pc' := 13) C dJ1_charAt_3b067_12 rfl ?_
  refine r_i2c (pc' := 14) (v := i2c_ ((sB0.getD v1.toNatClampNeg 0) &&& 255)) C dJ1_charAt_3b067_13 rfl rfl ?_
  obtain ⟨q4, h⟩ := ck h
  have h := Option.some.inj h
  subst h
  exact r_ret C (nisC q4) dJ1_charAt_3b067_14 hE

/-! java/lang/StringLatin1.charAt([BI)C -/
def J1_charAt_3b067_s1 (N : Nat)  (v1 : Int32) (σ : Sg) : Option (Int32 × Sg) :=
  (J0_checkIndex_df160 N v1 3 σ).bind fun r1 => (if inb v1 3 = true then if isC (i2c_ ((sB1.getD v1.toNatClampNeg 0) &&& 255)) = true then some (i2c_ ((sB1.getD v1.toNatClampNeg 0) &&& 255), r1) else none else none)
set_option maxRecDepth 100000 in
set_option maxHeartbeats 4000000 in
theorem J1_charAt_3b067_s1_ok {E : Ev} {S : List Sh}  {N : Nat} {v1 : Int32} {σ : Sg} {r : Int32 × Sg} (h : J1_charAt_3b067_s1 N  v1 σ = some r) : Cm E (2) yJ1_charAt_3b067 cJ1_charAt_3b067 2 (some .char) [.ref 1021, .int v1] S S σ r.2 (some (.int r.1)) 0 0 := by
  refine Cm.intro (by decide +kernel) (Nat.le_of_ble_eq_true rfl) (fun _ h => by obtain ⟨_, _, _, _, _, _, h⟩ := h; exact h) (fun Z C hE => ?_)
  show Wm E Z 0 0 S σ 0 [(0, .ref 1021), (1, .int v1)] []
  unfold J1_charAt_3b067_s1 at h
  refine r_iload_n (pc' := 1) C dJ1_charAt_3b067_0 rfl 1 rfl ?_
  refine r_aload_n (pc' := 2) C dJ1_charAt_3b067_1 rfl 0 rfl ?_
  refine r_oldBL (pc' := 3) (j := 1) (v := 3) C rfl rfl dJ1_charAt_3b067_2 rfl ?_
  obtain ⟨r1, e2, h⟩ := bd h
  refine r_cS0 (pc' := 6) C (J0_checkIndex_df160_ok  e2) mlJ1_9 ceJ0_checkIndex_df160 csJ0_checkIndex_df160 rfl (Nat.le_of_ble_eq_true rfl) rfl (Nat.le_of_ble_eq_true rfl) dJ1_charAt_3b067_3 rfl (kk := ?_)
  refine r_aload_n (pc' := 7) C dJ1_charAt_3b067_6 rfl 0 rfl ?_
  refine r_iload_n (pc' := 8) C dJ1_charAt_3b067_7 rfl 1 rfl ?_
  obtain ⟨q3, h⟩ := ck h
  refine r_oldB (pc' := 9) (j := 1) C rfl (vin q3) rfl dJ1_charAt_3b067_8 rfl ?_
  refine r_sipush (pc' := 12) C dJ1_charAt_3b067_9 rfl ks_255 ?_
  refine r_iand (pc' := 13) C dJ1_charAt_3b067_12 rfl ?_
  refine r_i2c (pc' := 14) (v := i2c_ ((sB1.getD v1.toNatClampNeg 0) &&& 255)) C dJ1_charAt_3b067_13 rfl rfl ?_
  obtain ⟨q4, h⟩ := ck h
  have h := Option.some.inj h
  subst h
  exact r_ret C (nisC q4) dJ1_charAt_3b067_14 hE

/-! java/lang/StringLatin1.charAt([BI)C -/
def J1_charAt_3b067_s2 (N : Nat)  (v1 : Int32) (σ : Sg) : Option (Int32 × Sg) :=
  (J0_checkIndex_df160 N v1 2 σ).bind fun r1 => (if inb v1 2 = true then if isC (i2c_ ((sB2.getD v1.toNatClampNeg 0) &&& 255)) = true then some (i2c_ ((sB2.getD v1.toNatClampNeg 0) &&& 255), r1) else none else none)
set_option maxRecDepth 100000 in
set_option maxHeartbeats 4000000 in
theorem J1_charAt_3b067_s2_ok {E : Ev} {S : List Sh}  {N : Nat} {v1 : Int32} {σ : Sg} {r : Int32 × Sg} (h : J1_charAt_3b067_s2 N  v1 σ = some r) : Cm E (2) yJ1_charAt_3b067 cJ1_charAt_3b067 2 (some .char) [.ref 1022, .int v1] S S σ r.2 (some (.int r.1)) 0 0 := by
  refine Cm.intro (by decide +kernel) (Nat.le_of_ble_eq_true rfl) (fun _ h => by obtain ⟨_, _, _, _, _, _, h⟩ := h; exact h) (fun Z C hE => ?_)
  show Wm E Z 0 0 S σ 0 [(0, .ref 1022), (1, .int v1)] []
  unfold J1_charAt_3b067_s2 at h
  refine r_iload_n (pc' := 1) C dJ1_charAt_3b067_0 rfl 1 rfl ?_
  refine r_aload_n (pc' := 2) C dJ1_charAt_3b067_1 rfl 0 rfl ?_
  refine r_oldBL (pc' := 3) (j := 2) (v := 2) C rfl rfl dJ1_charAt_3b067_2 rfl ?_
  obtain ⟨r1, e2, h⟩ := bd h
  refine r_cS0 (pc' := 6) C (J0_checkIndex_df160_ok  e2) mlJ1_9 ceJ0_checkIndex_df160 csJ0_checkIndex_df160 rfl (Nat.le_of_ble_eq_true rfl) rfl (Nat.le_of_ble_eq_true rfl) dJ1_charAt_3b067_3 rfl (kk := ?_)
  refine r_aload_n (pc' := 7) C dJ1_charAt_3b067_6 rfl 0 rfl ?_
  refine r_iload_n (pc' := 8) C dJ1_charAt_3b067_7 rfl 1 rfl ?_
  obtain ⟨q3, h⟩ := ck h
  refine r_oldB (pc' := 9) (j := 2) C rfl (vin q3) rfl dJ1_charAt_3b067_8 rfl ?_
  refine r_sipush (pc' := 12) C dJ1_charAt_3b067_9 rfl ks_255 ?_
  refine r_iand (pc' := 13) C dJ1_charAt_3b067_12 rfl ?_
  refine r_i2c (pc' := 14) (v := i2c_ ((sB2.getD v1.toNatClampNeg 0) &&& 255)) C dJ1_charAt_3b067_13 rfl rfl ?_
  obtain ⟨q4, h⟩ := ck h
  have h := Option.some.inj h
  subst h
  exact r_ret C (nisC q4) dJ1_charAt_3b067_14 hE

/-! java/lang/StringLatin1.charAt([BI)C -/
def J1_charAt_3b067_s3 (N : Nat)  (v1 : Int32) (σ : Sg) : Option (Int32 × Sg) :=
  (J0_checkIndex_df160 N v1 2 σ).bind fun r1 => (if inb v1 2 = true then if isC (i2c_ ((sB3.getD v1.toNatClampNeg 0) &&& 255)) = true then some (i2c_ ((sB3.getD v1.toNatClampNeg 0) &&& 255), r1) else none else none)
set_option maxRecDepth 100000 in
set_option maxHeartbeats 4000000 in
theorem J1_charAt_3b067_s3_ok {E : Ev} {S : List Sh}  {N : Nat} {v1 : Int32} {σ : Sg} {r : Int32 × Sg} (h : J1_charAt_3b067_s3 N  v1 σ = some r) : Cm E (2) yJ1_charAt_3b067 cJ1_charAt_3b067 2 (some .char) [.ref 1023, .int v1] S S σ r.2 (some (.int r.1)) 0 0 := by
  refine Cm.intro (by decide +kernel) (Nat.le_of_ble_eq_true rfl) (fun _ h => by obtain ⟨_, _, _, _, _, _, h⟩ := h; exact h) (fun Z C hE => ?_)
  show Wm E Z 0 0 S σ 0 [(0, .ref 1023), (1, .int v1)] []
  unfold J1_charAt_3b067_s3 at h
  refine r_iload_n (pc' := 1) C dJ1_charAt_3b067_0 rfl 1 rfl ?_
  refine r_aload_n (pc' := 2) C dJ1_charAt_3b067_1 rfl 0 rfl ?_
  refine r_oldBL (pc' := 3) (j := 3) (v := 2) C rfl rfl dJ1_charAt_3b067_2 rfl ?_
  obtain ⟨r1, e2, h⟩ := bd h
  refine r_cS0 (pc' := 6) C (J0_checkIndex_df160_ok  e2) mlJ1_9 ceJ0_checkIndex_df160 csJ0_checkIndex_df160 rfl (Nat.le_of_ble_eq_true rfl) rfl (Nat.le_of_ble_eq_true rfl) dJ1_charAt_3b067_3 rfl (kk := ?_)
  refine r_aload_n (pc' := 7) C dJ1_charAt_3b067_6 rfl 0 rfl ?_
  refine r_iload_n (pc' := 8) C dJ1_charAt_3b067_7 rfl 1 rfl ?_
  obtain ⟨q3, h⟩ := ck h
  refine r_oldB (pc' := 9) (j := 3) C rfl (vin q3) rfl dJ1_charAt_3b067_8 rfl ?_
  refine r_sipush (pc' := 12) C dJ1_charAt_3b067_9 rfl ks_255 ?_
  refine r_iand (pc' := 13) C dJ1_charAt_3b067_12 rfl ?_
  refine r_i2c (pc' := 14) (v := i2c_ ((sB3.getD v1.toNatClampNeg 0) &&& 255)) C dJ1_charAt_3b067_13 rfl rfl ?_
  obtain ⟨q4, h⟩ := ck h
  have h := Option.some.inj h
  subst h
  exact r_ret C (nisC q4) dJ1_charAt_3b067_14 hE

/-! java/lang/StringLatin1.charAt([BI)C -/
def J1_charAt_3b067_s4 (N : Nat)  (v1 : Int32) (σ : Sg) : Option (Int32 × Sg) :=
  (J0_checkIndex_df160 N v1 5 σ).bind fun r1 => (if inb v1 5 = true then if isC (i2c_ ((sB4.getD v1.toNatClampNeg 0) &&& 255)) = true then some (i2c_ ((sB4.getD v1.toNatClampNeg 0) &&& 255), r1) else none else none)
set_option maxRecDepth 100000 in
set_option maxHeartbeats 4000000 in
theorem J1_charAt_3b067_s4_ok {E : Ev} {S : List Sh}  {N : Nat} {v1 : Int32} {σ : Sg} {r : Int32 × Sg} (h : J1_charAt_3b067_s4 N  v1 σ = some r) : Cm E (2) yJ1_charAt_3b067 cJ1_charAt_3b067 2 (some .char) [.ref 1024, .int v1] S S σ r.2 (some (.int r.1)) 0 0 := by
  refine Cm.intro (by decide +kernel) (Nat.le_of_ble_eq_true rfl) (fun _ h => by obtain ⟨_, _, _, _, _, _, h⟩ := h; exact h) (fun Z C hE => ?_)
  show Wm E Z 0 0 S σ 0 [(0, .ref 1024), (1, .int v1)] []
  unfold J1_charAt_3b067_s4 at h
  refine r_iload_n (pc' := 1) C dJ1_charAt_3b067_0 rfl 1 rfl ?_
  refine r_aload_n (pc' := 2) C dJ1_charAt_3b067_1 rfl 0 rfl ?_
  refine r_oldBL (pc' := 3) (j := 4) (v := 5) C rfl rfl dJ1_charAt_3b067_2 rfl ?_
  obtain ⟨r1, e2, h⟩ := bd h
  refine r_cS0 (pc' := 6) C (J0_checkIndex_df160_ok  e2) mlJ1_9 ceJ0_checkIndex_df160 csJ0_checkIndex_df160 rfl (Nat.le_of_ble_eq_true rfl) rfl (Nat.le_of_ble_eq_true rfl) dJ1_charAt_3b067_3 rfl (kk := ?_)
  refine r_aload_n (pc' := 7) C dJ1_charAt_3b067_6 rfl 0 rfl ?_
  refine r_iload_n (pc' := 8) C dJ1_charAt_3b067_7 rfl 1 rfl ?_
  obtain ⟨q3, h⟩ := ck h
  refine r_oldB (pc' := 9) (j := 4) C rfl (vin q3) rfl dJ1_charAt_3b067_8 rfl ?_
  refine r_sipush (pc' := 12) C dJ1_charAt_3b067_9 rfl ks_255 ?_
  refine r_iand (pc' := 13) C dJ1_charAt_3b067_12 rfl ?_
  refine r_i2c (pc' := 14) (v := i2c_ ((sB4.getD v1.toNatClampNeg 0) &&& 255)) C dJ1_charAt_3b067_13 rfl rfl ?_
  obtain ⟨q4, h⟩ := ck h
  have h := Option.some.inj h
  subst h
  exact r_ret C (nisC q4) dJ1_charAt_3b067_14 hE

/-! java/lang/String.charAt(I)C -/
def J0_charAt_5068e_s0 (N : Nat)  (v1 : Int32) (σ : Sg) : Option (Int32 × Sg) :=
  (J0_isLatin1_aae02_s0 N σ).bind fun r1 => (if r1 = 0 then none else ((J1_charAt_3b067_s0 N v1 σ).bind fun r4 => (if isC r4.1 = true then some (r4.1, r4.2) else none)))
set_option maxRecDepth 100000 in
set_option maxHeartbeats 4000000 in
theorem J0_charAt_5068e_s0_ok {E : Ev} {S : List Sh}  {N : Nat} {v1 : Int32} {σ : Sg} {r : Int32 × Sg} (h : J0_charAt_5068e_s0 N  v1 σ = some r) : Cm E (4) yJ0_charAt_5068e cJ0_charAt_5068e 2 (some .char) [.ref 1010, .int v1] S S σ r.2 (some (.int r.1)) 0 0 := by
  refine Cm.intro (by decide +kernel) (Nat.le_of_ble_eq_true rfl) (fun _ h => by obtain ⟨_, _, _, _, _, _, h⟩ := h; exact h) (fun Z C hE => ?_)
  show Wm E Z 0 0 S σ 0 [(0, .ref 1010), (1, .int v1)] []
  unfold J0_charAt_5068e_s0 at h
  refine r_aload_n (pc' := 1) C dJ0_charAt_5068e_0 rfl 0 rfl ?_
  obtain ⟨r1, e2, h⟩ := bd h
  refine r_sV1 (pc' := 4) (i := 0) C (J0_isLatin1_aae02_s0_ok  e2) mlJ0_492 ceJ0_isLatin1_aae02 cvJ0_isLatin1_aae02 rfl rfl rfl (Nat.le_of_ble_eq_true rfl) rfl (Nat.le_of_ble_eq_true rfl) ⟨Nat.zero_le _, Nat.zero_le _⟩ dJ0_charAt_5068e_1 rfl ?_
  refine r_if_eq (tgt := 16) (pc' := 7) C dJ0_charAt_5068e_4 rfl rfl (fun c3 => ?_) (fun c3 => ?_)
  · rw [if_pos c3] at h
    refine r_aload_n (pc' := 17) C dJ0_charAt_5068e_16 rfl 0 rfl ?_
    refine r_strV (pc' := 20) (i := 0) C rfl gzJ0_9 dJ0_charAt_5068e_17 rfl ?_
    refine r_iload_n (pc' := 21) C dJ0_charAt_5068e_20 rfl 1 rfl ?_
    cases h
  · rw [if_neg c3] at h
    refine r_aload_n (pc' := 8) C dJ0_charAt_5068e_7 rfl 0 rfl ?_
    refine r_strV (pc' := 11) (i := 0) C rfl gzJ0_9 dJ0_charAt_5068e_8 rfl ?_
    refine r_iload_n (pc' := 12) C dJ0_charAt_5068e_11 rfl 1 rfl ?_
    obtain ⟨r4, e5, h⟩ := bd h
    refine r_cS1 (pc' := 15) C (J1_charAt_3b067_s0_ok  e5) mlJ0_495 ceJ1_charAt_3b067 csJ1_charAt_3b067 rfl (Nat.le_of_ble_eq_true rfl) rfl (Nat.le_of_ble_eq_true rfl) dJ0_charAt_5068e_12 rfl (kk := ?_)
    obtain ⟨q6, h⟩ := ck h
    have h := Option.some.inj h
    subst h
    exact r_ret C (nisC q6) dJ0_charAt_5068e_15 hE

/-! java/lang/String.charAt(I)C -/
def J0_charAt_5068e_s1 (N : Nat)  (v1 : Int32) (σ : Sg) : Option (Int32 × Sg) :=
  (J0_isLatin1_aae02_s1 N σ).bind fun r1 => (if r1 = 0 then none else ((J1_charAt_3b067_s1 N v1 σ).bind fun r4 => (if isC r4.1 = true then some (r4.1, r4.2) else none)))
set_option maxRecDepth 100000 in
set_option maxHeartbeats 4000000 in
theorem J0_charAt_5068e_s1_ok {E : Ev} {S : List Sh}  {N : Nat} {v1 : Int32} {σ : Sg} {r : Int32 × Sg} (h : J0_charAt_5068e_s1 N  v1 σ = some r) : Cm E (4) yJ0_charAt_5068e cJ0_charAt_5068e 2 (some .char) [.ref 1011, .int v1] S S σ r.2 (some (.int r.1)) 0 0 := by
  refine Cm.intro (by decide +kernel) (Nat.le_of_ble_eq_true rfl) (fun _ h => by obtain ⟨_, _, _, _, _, _, h⟩ := h; exact h) (fun Z C hE => ?_)
  show Wm E Z 0 0 S σ 0 [(0, .ref 1011), (1, .int v1)] []
  unfold J0_charAt_5068e_s1 at h
  refine r_aload_n (pc' := 1) C dJ0_charAt_5068e_0 rfl 0 rfl ?_
  obtain ⟨r1, e2, h⟩ := bd h
  refine r_sV1 (pc' := 4) (i := 1) C (J0_isLatin1_aae02_s1_ok  e2) mlJ0_492 ceJ0_isLatin1_aae02 cvJ0_isLatin1_aae02 rfl rfl rfl (Nat.le_of_ble_eq_true rfl) rfl (Nat.le_of_ble_eq_true rfl) ⟨Nat.zero_le _, Nat.zero_le _⟩ dJ0_charAt_5068e_1 rfl ?_
  refine r_if_eq (tgt := 16) (pc' := 7) C dJ0_charAt_5068e_4 rfl rfl (fun c3 => ?_) (fun c3 => ?_)
  · rw [if_pos c3] at h
    refine r_aload_n (pc' := 17) C dJ0_charAt_5068e_16 rfl 0 rfl ?_
    refine r_strV (pc' := 20) (i := 1) C rfl gzJ0_9 dJ0_charAt_5068e_17 rfl ?_
    refine r_iload_n (pc' := 21) C dJ0_charAt_5068e_20 rfl 1 rfl ?_
    cases h
  · rw [if_neg c3] at h
    refine r_aload_n (pc' := 8) C dJ0_charAt_5068e_7 rfl 0 rfl ?_
    refine r_strV (pc' := 11) (i := 1) C rfl gzJ0_9 dJ0_charAt_5068e_8 rfl ?_
    refine r_iload_n (pc' := 12) C dJ0_charAt_5068e_11 rfl 1 rfl ?_
    obtain ⟨r4, e5, h⟩ := bd h
    refine r_cS1 (pc' := 15) C (J1_charAt_3b067_s1_ok  e5) mlJ0_495 ceJ1_charAt_3b067 csJ1_charAt_3b067 rfl (Nat.le_of_ble_eq_true rfl) rfl (Nat.le_of_ble_eq_true rfl) dJ0_charAt_5068e_12 rfl (kk := ?_)
    obtain ⟨q6, h⟩ := ck h
    have h := Option.some.inj h
    subst h
    exact r_ret C (nisC q6) dJ0_charAt_5068e_15 hE

/-! java/lang/String.charAt(I)C -/
def J0_charAt_5068e_s2 (N : Nat)  (v1 : Int32) (σ : Sg) : Option (Int32 × Sg) :=
  (J0_isLatin1_aae02_s2 N σ).bind fun r1 => (if r1 = 0 then none else ((J1_charAt_3b067_s2 N v1 σ).bind fun r4 => (if isC r4.1 = true then some (r4.1, r4.2) else none)))
set_option maxRecDepth 100000 in
set_option maxHeartbeats 4000000 in
theorem J0_charAt_5068e_s2_ok {E : Ev} {S : List Sh}  {N : Nat} {v1 : Int32} {σ : Sg} {r : Int32 × Sg} (h : J0_charAt_5068e_s2 N  v1 σ = some r) : Cm E (4) yJ0_charAt_5068e cJ0_charAt_5068e 2 (some .char) [.ref 1012, .int v1] S S σ r.2 (some (.int r.1)) 0 0 := by
  refine Cm.intro (by decide +kernel) (Nat.le_of_ble_eq_true rfl) (fun _ h => by obtain ⟨_, _, _, _, _, _, h⟩ := h; exact h) (fun Z C hE => ?_)
  show Wm E Z 0 0 S σ 0 [(0, .ref 1012), (1, .int v1)] []
  unfold J0_charAt_5068e_s2 at h
  refine r_aload_n (pc' := 1) C dJ0_charAt_5068e_0 rfl 0 rfl ?_
  obtain ⟨r1, e2, h⟩ := bd h
  refine r_sV1 (pc' := 4) (i := 2) C (J0_isLatin1_aae02_s2_ok  e2) mlJ0_492 ceJ0_isLatin1_aae02 cvJ0_isLatin1_aae02 rfl rfl rfl (Nat.le_of_ble_eq_true rfl) rfl (Nat.le_of_ble_eq_true rfl) ⟨Nat.zero_le _, Nat.zero_le _⟩ dJ0_charAt_5068e_1 rfl ?_
  refine r_if_eq (tgt := 16) (pc' := 7) C dJ0_charAt_5068e_4 rfl rfl (fun c3 => ?_) (fun c3 => ?_)
  · rw [if_pos c3] at h
    refine r_aload_n (pc' := 17) C dJ0_charAt_5068e_16 rfl 0 rfl ?_
    refine r_strV (pc' := 20) (i := 2) C rfl gzJ0_9 dJ0_charAt_5068e_17 rfl ?_
    refine r_iload_n (pc' := 21) C dJ0_charAt_5068e_20 rfl 1 rfl ?_
    cases h
  · rw [if_neg c3] at h
    refine r_aload_n (pc' := 8) C dJ0_charAt_5068e_7 rfl 0 rfl ?_
    refine r_strV (pc' := 11) (i := 2) C rfl gzJ0_9 dJ0_charAt_5068e_8 rfl ?_
    refine r_iload_n (pc' := 12) C dJ0_charAt_5068e_11 rfl 1 rfl ?_
    obtain ⟨r4, e5, h⟩ := bd h
    refine r_cS1 (pc' := 15) C (J1_charAt_3b067_s2_ok  e5) mlJ0_495 ceJ1_charAt_3b067 csJ1_charAt_3b067 rfl (Nat.le_of_ble_eq_true rfl) rfl (Nat.le_of_ble_eq_true rfl) dJ0_charAt_5068e_12 rfl (kk := ?_)
    obtain ⟨q6, h⟩ := ck h
    have h := Option.some.inj h
    subst h
    exact r_ret C (nisC q6) dJ0_charAt_5068e_15 hE

/-! java/lang/String.charAt(I)C -/
def J0_charAt_5068e_s3 (N : Nat)  (v1 : Int32) (σ : Sg) : Option (Int32 × Sg) :=
  (J0_isLatin1_aae02_s3 N σ).bind fun r1 => (if r1 = 0 then none else ((J1_charAt_3b067_s3 N v1 σ).bind fun r4 => (if isC r4.1 = true then some (r4.1, r4.2) else none)))
set_option maxRecDepth 100000 in
set_option maxHeartbeats 4000000 in
theorem J0_charAt_5068e_s3_ok {E : Ev} {S : List Sh}  {N : Nat} {v1 : Int32} {σ : Sg} {r : Int32 × Sg} (h : J0_charAt_5068e_s3 N  v1 σ = some r) : Cm E (4) yJ0_charAt_5068e cJ0_charAt_5068e 2 (some .char) [.ref 1013, .int v1] S S σ r.2 (some (.int r.1)) 0 0 := by
  refine Cm.intro (by decide +kernel) (Nat.le_of_ble_eq_true rfl) (fun _ h => by obtain ⟨_, _, _, _, _, _, h⟩ := h; exact h) (fun Z C hE => ?_)
  show Wm E Z 0 0 S σ 0 [(0, .ref 1013), (1, .int v1)] []
  unfold J0_charAt_5068e_s3 at h
  refine r_aload_n (pc' := 1) C dJ0_charAt_5068e_0 rfl 0 rfl ?_
  obtain ⟨r1, e2, h⟩ := bd h
  refine r_sV1 (pc' := 4) (i := 3) C (J0_isLatin1_aae02_s3_ok  e2) mlJ0_492 ceJ0_isLatin1_aae02 cvJ0_isLatin1_aae02 rfl rfl rfl (Nat.le_of_ble_eq_true rfl) rfl (Nat.le_of_ble_eq_true rfl) ⟨Nat.zero_le _, Nat.zero_le _⟩ dJ0_charAt_5068e_1 rfl ?_
  refine r_if_eq (tgt := 16) (pc' := 7) C dJ0_charAt_5068e_4 rfl rfl (fun c3 => ?_) (fun c3 => ?_)
  · rw [if_pos c3] at h
    refine r_aload_n (pc' := 17) C dJ0_charAt_5068e_16 rfl 0 rfl ?_
    refine r_strV (pc' := 20) (i := 3) C rfl gzJ0_9 dJ0_charAt_5068e_17 rfl ?_
    refine r_iload_n (pc' := 21) C dJ0_charAt_5068e_20 rfl 1 rfl ?_
    cases h
  · rw [if_neg c3] at h
    refine r_aload_n (pc' := 8) C dJ0_charAt_5068e_7 rfl 0 rfl ?_
    refine r_strV (pc' := 11) (i := 3) C rfl gzJ0_9 dJ0_charAt_5068e_8 rfl ?_
    refine r_iload_n (pc' := 12) C dJ0_charAt_5068e_11 rfl 1 rfl ?_
    obtain ⟨r4, e5, h⟩ := bd h
    refine r_cS1 (pc' := 15) C (J1_charAt_3b067_s3_ok  e5) mlJ0_495 ceJ1_charAt_3b067 csJ1_charAt_3b067 rfl (Nat.le_of_ble_eq_true rfl) rfl (Nat.le_of_ble_eq_true rfl) dJ0_charAt_5068e_12 rfl (kk := ?_)
    obtain ⟨q6, h⟩ := ck h
    have h := Option.some.inj h
    subst h
    exact r_ret C (nisC q6) dJ0_charAt_5068e_15 hE

/-! java/lang/String.charAt(I)C -/
def J0_charAt_5068e_s4 (N : Nat)  (v1 : Int32) (σ : Sg) : Option (Int32 × Sg) :=
  (J0_isLatin1_aae02_s4 N σ).bind fun r1 => (if r1 = 0 then none else ((J1_charAt_3b067_s4 N v1 σ).bind fun r4 => (if isC r4.1 = true then some (r4.1, r4.2) else none)))
set_option maxRecDepth 100000 in
set_option maxHeartbeats 4000000 in
theorem J0_charAt_5068e_s4_ok {E : Ev} {S : List Sh}  {N : Nat} {v1 : Int32} {σ : Sg} {r : Int32 × Sg} (h : J0_charAt_5068e_s4 N  v1 σ = some r) : Cm E (4) yJ0_charAt_5068e cJ0_charAt_5068e 2 (some .char) [.ref 1014, .int v1] S S σ r.2 (some (.int r.1)) 0 0 := by
  refine Cm.intro (by decide +kernel) (Nat.le_of_ble_eq_true rfl) (fun _ h => by obtain ⟨_, _, _, _, _, _, h⟩ := h; exact h) (fun Z C hE => ?_)
  show Wm E Z 0 0 S σ 0 [(0, .ref 1014), (1, .int v1)] []
  unfold J0_charAt_5068e_s4 at h
  refine r_aload_n (pc' := 1) C dJ0_charAt_5068e_0 rfl 0 rfl ?_
  obtain ⟨r1, e2, h⟩ := bd h
  refine r_sV1 (pc' := 4) (i := 4) C (J0_isLatin1_aae02_s4_ok  e2) mlJ0_492 ceJ0_isLatin1_aae02 cvJ0_isLatin1_aae02 rfl rfl rfl (Nat.le_of_ble_eq_true rfl) rfl (Nat.le_of_ble_eq_true rfl) ⟨Nat.zero_le _, Nat.zero_le _⟩ dJ0_charAt_5068e_1 rfl ?_
  refine r_if_eq (tgt := 16) (pc' := 7) C dJ0_charAt_5068e_4 rfl rfl (fun c3 => ?_) (fun c3 => ?_)
  · rw [if_pos c3] at h
    refine r_aload_n (pc' := 17) C dJ0_charAt_5068e_16 rfl 0 rfl ?_
    refine r_strV (pc' := 20) (i := 4) C rfl gzJ0_9 dJ0_charAt_5068e_17 rfl ?_
    refine r_iload_n (pc' := 21) C dJ0_charAt_5068e_20 rfl 1 rfl ?_
    cases h
  · rw [if_neg c3] at h
    refine r_aload_n (pc' := 8) C dJ0_charAt_5068e_7 rfl 0 rfl ?_
    refine r_strV (pc' := 11) (i := 4) C rfl gzJ0_9 dJ0_charAt_5068e_8 rfl ?_
    refine r_iload_n (pc' := 12) C dJ0_charAt_5068e_11 rfl 1 rfl ?_
    obtain ⟨r4, e5, h⟩ := bd h
    refine r_cS1 (pc' := 15) C (J1_charAt_3b067_s4_ok  e5) mlJ0_495 ceJ1_charAt_3b067 csJ1_charAt_3b067 rfl (Nat.le_of_ble_eq_true rfl) rfl (Nat.le_of_ble_eq_true rfl) dJ0_charAt_5068e_12 rfl (kk := ?_)
    obtain ⟨q6, h⟩ := ck h
    have h := Option.some.inj h
    subst h
    exact r_ret C (nisC q6) dJ0_charAt_5068e_15 hE

/-! BorrowedWeightModel.takesOf(Ljava/lang/String;)I -/
def X9_takesOf_s0_l2 (N : Nat)  (k38 : Int32 → Sg → Option (Int32 × Sg))  : Nat → Int32 → Sg → Option (Int32 × Sg)
  | 0, _, _ => none
  | n + 1, v2, σ =>
    (J0_length_8abf5_s0 N σ).bind fun r1 => (if r1 ≤ v2 then (some ((-1), σ)) else (if (gi σ 149 13) ≤ (gi σ 149 12) then (some ((-1), σ)) else ((J0_charAt_5068e_s0 N v2 σ).bind fun r5 => (if inb (gi r5.2 149 12) 80 = true then if r5.1 = (gi r5.2 155 (gi r5.2 149 12).toNatClampNeg) then (k38 v2 r5.2) else (X9_takesOf_s0_l2 N k38 n (v2 + 1) r5.2) else none))))
set_option maxRecDepth 100000 in
set_option maxHeartbeats 4000000 in
theorem X9_takesOf_s0_l2_ok {E : Ev}  {N : Nat} {k38 : Int32 → Sg → Option (Int32 × Sg)}  (hk38 : ∀ (v2 : Int32) (σ : Sg) (r : Int32 × Sg), k38 v2 σ = some r → Gp E RX9 cX9_takesOf (some .int) 3 (5) SH0 r.2 (some (.int r.1)) σ 38 [(0, .ref 149), (2, .int v2)] []) : ∀ (n : Nat) (v2 : Int32) (σ : Sg) (r : Int32 × Sg), X9_takesOf_s0_l2 N k38 n v2 σ = some r → Gp E RX9 cX9_takesOf (some .int) 3 (5) SH0 r.2 (some (.int r.1)) σ 2 [(0, .ref 149), (1, .ref 1010), (2, .int v2)] [] := by
  intro n
  induction n with
  | zero => intro v2 σ r h; cases h
  | succ n ih =>
    intro v2 σ r h Z C hE
    unfold X9_takesOf_s0_l2 at h
    refine r_iload_n (pc' := 3) C dX9_takesOf_2 rfl 2 rfl ?_
    refine r_aload_n (pc' := 4) C dX9_takesOf_3 rfl 1 rfl ?_
    obtain ⟨r1, e2, h⟩ := bd h
    refine r_sV1 (pc' := 7) (i := 0) C (J0_length_8abf5_s0_ok  e2) mlX9_167 ceJ0_length_8abf5 cvJ0_length_8abf5 rfl rfl rfl (Nat.le_of_ble_eq_true rfl) rfl (Nat.le_of_ble_eq_true rfl) ⟨Nat.zero_le _, Nat.zero_le _⟩ dX9_takesOf_4 rfl ?_
    refine r_icmp_ge (tgt := 56) (pc' := 10) C dX9_takesOf_7 rfl rfl (fun c3 => ?_) (fun c3 => ?_)
    · rw [if_pos c3] at h
      refine r_iconst (pc' := 57) C dX9_takesOf_56 rfl kc_m1 ?_
      have h := Option.some.inj h
      subst h
      exact r_ret C rfl dX9_takesOf_57 hE
    · rw [if_neg c3] at h
      refine r_aload_n (pc' := 11) C dX9_takesOf_10 rfl 0 rfl ?_
      refine r_getI (pc' := 14) C flX9_144 sh_149 rfl dX9_takesOf_11 rfl ?_
      refine r_aload_n (pc' := 15) C dX9_takesOf_14 rfl 0 rfl ?_
      refine r_getI (pc' := 18) C flX9_156 sh_149 rfl dX9_takesOf_15 rfl ?_
      refine r_icmp_ge (tgt := 56) (pc' := 21) C dX9_takesOf_18 rfl rfl (fun c4 => ?_) (fun c4 => ?_)
      · rw [if_pos c4] at h
        refine r_iconst (pc' := 57) C dX9_takesOf_56 rfl kc_m1 ?_
        have h := Option.some.inj h
        subst h
        exact r_ret C rfl dX9_takesOf_57 hE
      · rw [if_neg c4] at h
        refine r_aload_n (pc' := 22) C dX9_takesOf_21 rfl 1 rfl ?_
        refine r_iload_n (pc' := 23) C dX9_takesOf_22 rfl 2 rfl ?_
        obtain ⟨r5, e6, h⟩ := bd h
        refine r_sV1 (pc' := 26) (i := 0) C (J0_charAt_5068e_s0_ok  e6) mlX9_172 ceJ0_charAt_5068e cvJ0_charAt_5068e rfl rfl rfl (Nat.le_of_ble_eq_true rfl) rfl (Nat.le_of_ble_eq_true rfl) ⟨Nat.zero_le _, Nat.zero_le _⟩ dX9_takesOf_23 rfl ?_
        refine r_aload_n (pc' := 27) C dX9_takesOf_26 rfl 0 rfl ?_
        refine r_getR (pc' := 30) C flX9_40 sh_149 rfl dX9_takesOf_27 rfl ?_
        refine r_aload_n (pc' := 31) C dX9_takesOf_30 rfl 0 rfl ?_
        refine r_getI (pc' := 34) C flX9_144 sh_149 rfl dX9_takesOf_31 rfl ?_
        obtain ⟨q7, h⟩ := ck h
        refine r_iald (pc' := 35) C sh_155 (vin q7) dX9_takesOf_34 rfl ?_
        refine r_icmp_ne (tgt := 50) (pc' := 38) C dX9_takesOf_35 rfl rfl (fun c8 => ?_) (fun c8 => ?_)
        · rw [if_neg c8] at h
          refine r_iinc (pc' := 53) (v := v2 + 1) (lv2 := [(2, .int (v2 + 1)), (0, .ref 149), (1, .ref 1010)]) C dX9_takesOf_50 rfl 2 rfl rfl (Nat.le_of_ble_eq_true rfl) rfl ?_
          refine r_goto (tgt := 2) C dX9_takesOf_53 rfl ?_
          refine r_sub [1, 2, 0] rfl ?_
          exact ih _ _ _ h Z C hE
        · rw [if_pos c8] at h
          refine r_sub [0, 2] rfl ?_
          exact hk38 _ _ _ h Z C hE
def X9_takesOf_s0_j38 (N : Nat)   (v2 : Int32) (σ : Sg) : Option (Int32 × Sg) :=
  bnS (wi σ 149 12 ((gi σ 149 12) + 1)) fun σ9 => some (v2, σ9)
set_option maxRecDepth 100000 in
set_option maxHeartbeats 4000000 in
theorem X9_takesOf_s0_j38_ok {E : Ev}  {N : Nat}    {v2 : Int32} {σ : Sg} {r : Int32 × Sg} (h : X9_takesOf_s0_j38 N   v2 σ = some r) : Gp E RX9 cX9_takesOf (some .int) 3 (5) SH0 r.2 (some (.int r.1)) σ 38 [(0, .ref 149), (2, .int v2)] [] := by
  intro Z C hE
  unfold X9_takesOf_s0_j38 at h
  refine r_aload_n (pc' := 39) C dX9_takesOf_38 rfl 0 rfl ?_
  refine r_dup (pc' := 40) C dX9_takesOf_39 rfl rfl ?_
  refine r_getI (pc' := 43) C flX9_144 sh_149 rfl dX9_takesOf_40 rfl ?_
  refine r_iconst (pc' := 44) C dX9_takesOf_43 rfl kc_1 ?_
  refine r_iadd (pc' := 45) C dX9_takesOf_44 rfl ?_
  obtain ⟨σ9, e10, h⟩ := bs h
  refine r_putI (pc' := 48) (σ1 := σ9) C fpX9_144 sh_149 rfl rfl rfl dX9_takesOf_45 rfl e10 ?_
  refine r_iload_n (pc' := 49) C dX9_takesOf_48 rfl 1 rfl ?_
  have h := Option.some.inj h
  subst h
  exact r_ret C rfl dX9_takesOf_49 hE
def X9_takesOf_s0 (N : Nat)   (σ : Sg) : Option (Int32 × Sg) :=
  X9_takesOf_s0_l2 N (fun v2 σ => X9_takesOf_s0_j38 N v2 σ) N 0 σ
set_option maxRecDepth 100000 in
set_option maxHeartbeats 4000000 in
theorem X9_takesOf_s0_ok {E : Ev}  {N : Nat}  {σ : Sg} {r : Int32 × Sg} (h : X9_takesOf_s0 N   σ = some r) : Cm E (5) yX9_takesOf cX9_takesOf 3 (some .int) [.ref 149, .ref 1010] SH0 SH0 σ r.2 (some (.int r.1)) 0 0 := by
  refine Cm.intro (by decide +kernel) (Nat.le_of_ble_eq_true rfl) (fun _ h => by obtain ⟨_, _, _, _, _, _, h⟩ := h; exact h) (fun Z C hE => ?_)
  show Wm E Z 0 0 SH0 σ 0 [(0, .ref 149), (1, .ref 1010)] []
  unfold X9_takesOf_s0 at h
  refine r_iconst (pc' := 1) C dX9_takesOf_0 rfl kc_0 ?_
  refine r_istore_n (pc' := 2) (lv2 := [(2, .int 0), (0, .ref 149), (1, .ref 1010)]) C dX9_takesOf_1 rfl rfl (Nat.le_of_ble_eq_true rfl) rfl ?_
  refine r_sub [1, 2, 0] rfl ?_
  exact X9_takesOf_s0_l2_ok  (fun _ _ _ h Z C hE => by exact X9_takesOf_s0_j38_ok  h Z C hE) N _ _ _ h Z C hE

/-! BorrowedWeightModel.takesOf(Ljava/lang/String;)I -/
def X9_takesOf_s1_l2 (N : Nat)  (k38 : Int32 → Sg → Option (Int32 × Sg))  : Nat → Int32 → Sg → Option (Int32 × Sg)
  | 0, _, _ => none
  | n + 1, v2, σ =>
    (J0_length_8abf5_s1 N σ).bind fun r1 => (if r1 ≤ v2 then (some ((-1), σ)) else (if (gi σ 149 13) ≤ (gi σ 149 12) then (some ((-1), σ)) else ((J0_charAt_5068e_s1 N v2 σ).bind fun r5 => (if inb (gi r5.2 149 12) 80 = true then if r5.1 = (gi r5.2 155 (gi r5.2 149 12).toNatClampNeg) then (k38 v2 r5.2) else (X9_takesOf_s1_l2 N k38 n (v2 + 1) r5.2) else none))))
set_option maxRecDepth 100000 in
set_option maxHeartbeats 4000000 in
theorem X9_takesOf_s1_l2_ok {E : Ev}  {N : Nat} {k38 : Int32 → Sg → Option (Int32 × Sg)}  (hk38 : ∀ (v2 : Int32) (σ : Sg) (r : Int32 × Sg), k38 v2 σ = some r → Gp E RX9 cX9_takesOf (some .int) 3 (5) SH0 r.2 (some (.int r.1)) σ 38 [(0, .ref 149), (2, .int v2)] []) : ∀ (n : Nat) (v2 : Int32) (σ : Sg) (r : Int32 × Sg), X9_takesOf_s1_l2 N k38 n v2 σ = some r → Gp E RX9 cX9_takesOf (some .int) 3 (5) SH0 r.2 (some (.int r.1)) σ 2 [(0, .ref 149), (1, .ref 1011), (2, .int v2)] [] := by
  intro n
  induction n with
  | zero => intro v2 σ r h; cases h
  | succ n ih =>
    intro v2 σ r h Z C hE
    unfold X9_takesOf_s1_l2 at h
    refine r_iload_n (pc' := 3) C dX9_takesOf_2 rfl 2 rfl ?_
    refine r_aload_n (pc' := 4) C dX9_takesOf_3 rfl 1 rfl ?_
    obtain ⟨r1, e2, h⟩ := bd h
    refine r_sV1 (pc' := 7) (i := 1) C (J0_length_8abf5_s1_ok  e2) mlX9_167 ceJ0_length_8abf5 cvJ0_length_8abf5 rfl rfl rfl (Nat.le_of_ble_eq_true rfl) rfl (Nat.le_of_ble_eq_true rfl) ⟨Nat.zero_le _, Nat.zero_le _⟩ dX9_takesOf_4 rfl ?_
    refine r_icmp_ge (tgt := 56) (pc' := 10) C dX9_takesOf_7 rfl rfl (fun c3 => ?_) (fun c3 => ?_)
    · rw [if_pos c3] at h
      refine r_iconst (pc' := 57) C dX9_takesOf_56 rfl kc_m1 ?_
      have h := Option.some.inj h
      subst h
      exact r_ret C rfl dX9_takesOf_57 hE
    · rw [if_neg c3] at h
      refine r_aload_n (pc' := 11) C dX9_takesOf_10 rfl 0 rfl ?_
      refine r_getI (pc' := 14) C flX9_144 sh_149 rfl dX9_takesOf_11 rfl ?_
      refine r_aload_n (pc' := 15) C dX9_takesOf_14 rfl 0 rfl ?_
      refine r_getI (pc' := 18) C flX9_156 sh_149 rfl dX9_takesOf_15 rfl ?_
      refine r_icmp_ge (tgt := 56) (pc' := 21) C dX9_takesOf_18 rfl rfl (fun c4 => ?_) (fun c4 => ?_)
      · rw [if_pos c4] at h
        refine r_iconst (pc' := 57) C dX9_takesOf_56 rfl kc_m1 ?_
        have h := Option.some.inj h
        subst h
        exact r_ret C rfl dX9_takesOf_57 hE
      · rw [if_neg c4] at h
        refine r_aload_n (pc' := 22) C dX9_takesOf_21 rfl 1 rfl ?_
        refine r_iload_n (pc' := 23) C dX9_takesOf_22 rfl 2 rfl ?_
        obtain ⟨r5, e6, h⟩ := bd h
        refine r_sV1 (pc' := 26) (i := 1) C (J0_charAt_5068e_s1_ok  e6) mlX9_172 ceJ0_charAt_5068e cvJ0_charAt_5068e rfl rfl rfl (Nat.le_of_ble_eq_true rfl) rfl (Nat.le_of_ble_eq_true rfl) ⟨Nat.zero_le _, Nat.zero_le _⟩ dX9_takesOf_23 rfl ?_
        refine r_aload_n (pc' := 27) C dX9_takesOf_26 rfl 0 rfl ?_
        refine r_getR (pc' := 30) C flX9_40 sh_149 rfl dX9_takesOf_27 rfl ?_
        refine r_aload_n (pc' := 31) C dX9_takesOf_30 rfl 0 rfl ?_
        refine r_getI (pc' := 34) C flX9_144 sh_149 rfl dX9_takesOf_31 rfl ?_
        obtain ⟨q7, h⟩ := ck h
        refine r_iald (pc' := 35) C sh_155 (vin q7) dX9_takesOf_34 rfl ?_
        refine r_icmp_ne (tgt := 50) (pc' := 38) C dX9_takesOf_35 rfl rfl (fun c8 => ?_) (fun c8 => ?_)
        · rw [if_neg c8] at h
          refine r_iinc (pc' := 53) (v := v2 + 1) (lv2 := [(2, .int (v2 + 1)), (0, .ref 149), (1, .ref 1011)]) C dX9_takesOf_50 rfl 2 rfl rfl (Nat.le_of_ble_eq_true rfl) rfl ?_
          refine r_goto (tgt := 2) C dX9_takesOf_53 rfl ?_
          refine r_sub [1, 2, 0] rfl ?_
          exact ih _ _ _ h Z C hE
        · rw [if_pos c8] at h
          refine r_sub [0, 2] rfl ?_
          exact hk38 _ _ _ h Z C hE
def X9_takesOf_s1_j38 (N : Nat)   (v2 : Int32) (σ : Sg) : Option (Int32 × Sg) :=
  bnS (wi σ 149 12 ((gi σ 149 12) + 1)) fun σ9 => some (v2, σ9)
set_option maxRecDepth 100000 in
set_option maxHeartbeats 4000000 in
theorem X9_takesOf_s1_j38_ok {E : Ev}  {N : Nat}    {v2 : Int32} {σ : Sg} {r : Int32 × Sg} (h : X9_takesOf_s1_j38 N   v2 σ = some r) : Gp E RX9 cX9_takesOf (some .int) 3 (5) SH0 r.2 (some (.int r.1)) σ 38 [(0, .ref 149), (2, .int v2)] [] := by
  intro Z C hE
  unfold X9_takesOf_s1_j38 at h
  refine r_aload_n (pc' := 39) C dX9_takesOf_38 rfl 0 rfl ?_
  refine r_dup (pc' := 40) C dX9_takesOf_39 rfl rfl ?_
  refine r_getI (pc' := 43) C flX9_144 sh_149 rfl dX9_takesOf_40 rfl ?_
  refine r_iconst (pc' := 44) C dX9_takesOf_43 rfl kc_1 ?_
  refine r_iadd (pc' := 45) C dX9_takesOf_44 rfl ?_
  obtain ⟨σ9, e10, h⟩ := bs h
  refine r_putI (pc' := 48) (σ1 := σ9) C fpX9_144 sh_149 rfl rfl rfl dX9_takesOf_45 rfl e10 ?_
  refine r_iload_n (pc' := 49) C dX9_takesOf_48 rfl 1 rfl ?_
  have h := Option.some.inj h
  subst h
  exact r_ret C rfl dX9_takesOf_49 hE
def X9_takesOf_s1 (N : Nat)   (σ : Sg) : Option (Int32 × Sg) :=
  X9_takesOf_s1_l2 N (fun v2 σ => X9_takesOf_s1_j38 N v2 σ) N 0 σ
set_option maxRecDepth 100000 in
set_option maxHeartbeats 4000000 in
theorem X9_takesOf_s1_ok {E : Ev}  {N : Nat}  {σ : Sg} {r : Int32 × Sg} (h : X9_takesOf_s1 N   σ = some r) : Cm E (5) yX9_takesOf cX9_takesOf 3 (some .int) [.ref 149, .ref 1011] SH0 SH0 σ r.2 (some (.int r.1)) 0 0 := by
  refine Cm.intro (by decide +kernel) (Nat.le_of_ble_eq_true rfl) (fun _ h => by obtain ⟨_, _, _, _, _, _, h⟩ := h; exact h) (fun Z C hE => ?_)
  show Wm E Z 0 0 SH0 σ 0 [(0, .ref 149), (1, .ref 1011)] []
  unfold X9_takesOf_s1 at h
  refine r_iconst (pc' := 1) C dX9_takesOf_0 rfl kc_0 ?_
  refine r_istore_n (pc' := 2) (lv2 := [(2, .int 0), (0, .ref 149), (1, .ref 1011)]) C dX9_takesOf_1 rfl rfl (Nat.le_of_ble_eq_true rfl) rfl ?_
  refine r_sub [1, 2, 0] rfl ?_
  exact X9_takesOf_s1_l2_ok  (fun _ _ _ h Z C hE => by exact X9_takesOf_s1_j38_ok  h Z C hE) N _ _ _ h Z C hE

/-! BorrowedWeightModel.takesOf(Ljava/lang/String;)I -/
def X9_takesOf_s2_l2 (N : Nat)  (k38 : Int32 → Sg → Option (Int32 × Sg))  : Nat → Int32 → Sg → Option (Int32 × Sg)
  | 0, _, _ => none
  | n + 1, v2, σ =>
    (J0_length_8abf5_s2 N σ).bind fun r1 => (if r1 ≤ v2 then (some ((-1), σ)) else (if (gi σ 149 13) ≤ (gi σ 149 12) then (some ((-1), σ)) else ((J0_charAt_5068e_s2 N v2 σ).bind fun r5 => (if inb (gi r5.2 149 12) 80 = true then if r5.1 = (gi r5.2 155 (gi r5.2 149 12).toNatClampNeg) then (k38 v2 r5.2) else (X9_takesOf_s2_l2 N k38 n (v2 + 1) r5.2) else none))))
set_option maxRecDepth 100000 in
set_option maxHeartbeats 4000000 in
theorem X9_takesOf_s2_l2_ok {E : Ev}  {N : Nat} {k38 : Int32 → Sg → Option (Int32 × Sg)}  (hk38 : ∀ (v2 : Int32) (σ : Sg) (r : Int32 × Sg), k38 v2 σ = some r → Gp E RX9 cX9_takesOf (some .int) 3 (5) SH0 r.2 (some (.int r.1)) σ 38 [(0, .ref 149), (2, .int v2)] []) : ∀ (n : Nat) (v2 : Int32) (σ : Sg) (r : Int32 × Sg), X9_takesOf_s2_l2 N k38 n v2 σ = some r → Gp E RX9 cX9_takesOf (some .int) 3 (5) SH0 r.2 (some (.int r.1)) σ 2 [(0, .ref 149), (1, .ref 1012), (2, .int v2)] [] := by
  intro n
  induction n with
  | zero => intro v2 σ r h; cases h
  | succ n ih =>
    intro v2 σ r h Z C hE
    unfold X9_takesOf_s2_l2 at h
    refine r_iload_n (pc' := 3) C dX9_takesOf_2 rfl 2 rfl ?_
    refine r_aload_n (pc' := 4) C dX9_takesOf_3 rfl 1 rfl ?_
    obtain ⟨r1, e2, h⟩ := bd h
    refine r_sV1 (pc' := 7) (i := 2) C (J0_length_8abf5_s2_ok  e2) mlX9_167 ceJ0_length_8abf5 cvJ0_length_8abf5 rfl rfl rfl (Nat.le_of_ble_eq_true rfl) rfl (Nat.le_of_ble_eq_true rfl) ⟨Nat.zero_le _, Nat.zero_le _⟩ dX9_takesOf_4 rfl ?_
    refine r_icmp_ge (tgt := 56) (pc' := 10) C dX9_takesOf_7 rfl rfl (fun c3 => ?_) (fun c3 => ?_)
    · rw [if_pos c3] at h
      refine r_iconst (pc' := 57) C dX9_takesOf_56 rfl kc_m1 ?_
      have h := Option.some.inj h
      subst h
      exact r_ret C rfl dX9_takesOf_57 hE
    · rw [if_neg c3] at h
      refine r_aload_n (pc' := 11) C dX9_takesOf_10 rfl 0 rfl ?_
      refine r_getI (pc' := 14) C flX9_144 sh_149 rfl dX9_takesOf_11 rfl ?_
      refine r_aload_n (pc' := 15) C dX9_takesOf_14 rfl 0 rfl ?_
      refine r_getI (pc' := 18) C flX9_156 sh_149 rfl dX9_takesOf_15 rfl ?_
      refine r_icmp_ge (tgt := 56) (pc' := 21) C dX9_takesOf_18 rfl rfl (fun c4 => ?_) (fun c4 => ?_)
      · rw [if_pos c4] at h
        refine r_iconst (pc' := 57) C dX9_takesOf_56 rfl kc_m1 ?_
        have h := Option.some.inj h
        subst h
        exact r_ret C rfl dX9_takesOf_57 hE
      · rw [if_neg c4] at h
        refine r_aload_n (pc' := 22) C dX9_takesOf_21 rfl 1 rfl ?_
        refine r_iload_n (pc' := 23) C dX9_takesOf_22 rfl 2 rfl ?_
        obtain ⟨r5, e6, h⟩ := bd h
        refine r_sV1 (pc' := 26) (i := 2) C (J0_charAt_5068e_s2_ok  e6) mlX9_172 ceJ0_charAt_5068e cvJ0_charAt_5068e rfl rfl rfl (Nat.le_of_ble_eq_true rfl) rfl (Nat.le_of_ble_eq_true rfl) ⟨Nat.zero_le _, Nat.zero_le _⟩ dX9_takesOf_23 rfl ?_
        refine r_aload_n (pc' := 27) C dX9_takesOf_26 rfl 0 rfl ?_
        refine r_getR (pc' := 30) C flX9_40 sh_149 rfl dX9_takesOf_27 rfl ?_
        refine r_aload_n (pc' := 31) C dX9_takesOf_30 rfl 0 rfl ?_
        refine r_getI (pc' := 34) C flX9_144 sh_149 rfl dX9_takesOf_31 rfl ?_
        obtain ⟨q7, h⟩ := ck h
        refine r_iald (pc' := 35) C sh_155 (vin q7) dX9_takesOf_34 rfl ?_
        refine r_icmp_ne (tgt := 50) (pc' := 38) C dX9_takesOf_35 rfl rfl (fun c8 => ?_) (fun c8 => ?_)
        · rw [if_neg c8] at h
          refine r_iinc (pc' := 53) (v := v2 + 1) (lv2 := [(2, .int (v2 + 1)), (0, .ref 149), (1, .ref 1012)]) C dX9_takesOf_50 rfl 2 rfl rfl (Nat.le_of_ble_eq_true rfl) rfl ?_
          refine r_goto (tgt := 2) C dX9_takesOf_53 rfl ?_
          refine r_sub [1, 2, 0] rfl ?_
          exact ih _ _ _ h Z C hE
        · rw [if_pos c8] at h
          refine r_sub [0, 2] rfl ?_
          exact hk38 _ _ _ h Z C hE
def X9_takesOf_s2_j38 (N : Nat)   (v2 : Int32) (σ : Sg) : Option (Int32 × Sg) :=
  bnS (wi σ 149 12 ((gi σ 149 12) + 1)) fun σ9 => some (v2, σ9)
set_option maxRecDepth 100000 in
set_option maxHeartbeats 4000000 in
theorem X9_takesOf_s2_j38_ok {E : Ev}  {N : Nat}    {v2 : Int32} {σ : Sg} {r : Int32 × Sg} (h : X9_takesOf_s2_j38 N   v2 σ = some r) : Gp E RX9 cX9_takesOf (some .int) 3 (5) SH0 r.2 (some (.int r.1)) σ 38 [(0, .ref 149), (2, .int v2)] [] := by
  intro Z C hE
  unfold X9_takesOf_s2_j38 at h
  refine r_aload_n (pc' := 39) C dX9_takesOf_38 rfl 0 rfl ?_
  refine r_dup (pc' := 40) C dX9_takesOf_39 rfl rfl ?_
  refine r_getI (pc' := 43) C flX9_144 sh_149 rfl dX9_takesOf_40 rfl ?_
  refine r_iconst (pc' := 44) C dX9_takesOf_43 rfl kc_1 ?_
  refine r_iadd (pc' := 45) C dX9_takesOf_44 rfl ?_
  obtain ⟨σ9, e10, h⟩ := bs h
  refine r_putI (pc' := 48) (σ1 := σ9) C fpX9_144 sh_149 rfl rfl rfl dX9_takesOf_45 rfl e10 ?_
  refine r_iload_n (pc' := 49) C dX9_takesOf_48 rfl 1 rfl ?_
  have h := Option.some.inj h
  subst h
  exact r_ret C rfl dX9_takesOf_49 hE
def X9_takesOf_s2 (N : Nat)   (σ : Sg) : Option (Int32 × Sg) :=
  X9_takesOf_s2_l2 N (fun v2 σ => X9_takesOf_s2_j38 N v2 σ) N 0 σ
set_option maxRecDepth 100000 in
set_option maxHeartbeats 4000000 in
theorem X9_takesOf_s2_ok {E : Ev}  {N : Nat}  {σ : Sg} {r : Int32 × Sg} (h : X9_takesOf_s2 N   σ = some r) : Cm E (5) yX9_takesOf cX9_takesOf 3 (some .int) [.ref 149, .ref 1012] SH0 SH0 σ r.2 (some (.int r.1)) 0 0 := by
  refine Cm.intro (by decide +kernel) (Nat.le_of_ble_eq_true rfl) (fun _ h => by obtain ⟨_, _, _, _, _, _, h⟩ := h; exact h) (fun Z C hE => ?_)
  show Wm E Z 0 0 SH0 σ 0 [(0, .ref 149), (1, .ref 1012)] []
  unfold X9_takesOf_s2 at h
  refine r_iconst (pc' := 1) C dX9_takesOf_0 rfl kc_0 ?_
  refine r_istore_n (pc' := 2) (lv2 := [(2, .int 0), (0, .ref 149), (1, .ref 1012)]) C dX9_takesOf_1 rfl rfl (Nat.le_of_ble_eq_true rfl) rfl ?_
  refine r_sub [1, 2, 0] rfl ?_
  exact X9_takesOf_s2_l2_ok  (fun _ _ _ h Z C hE => by exact X9_takesOf_s2_j38_ok  h Z C hE) N _ _ _ h Z C hE

/-! BorrowedWeightModel.takesOf(Ljava/lang/String;)I -/
def X9_takesOf_s3_l2 (N : Nat)  (k38 : Int32 → Sg → Option (Int32 × Sg))  : Nat → Int32 → Sg → Option (Int32 × Sg)
  | 0, _, _ => none
  | n + 1, v2, σ =>
    (J0_length_8abf5_s3 N σ).bind fun r1 => (if r1 ≤ v2 then (some ((-1), σ)) else (if (gi σ 149 13) ≤ (gi σ 149 12) then (some ((-1), σ)) else ((J0_charAt_5068e_s3 N v2 σ).bind fun r5 => (if inb (gi r5.2 149 12) 80 = true then if r5.1 = (gi r5.2 155 (gi r5.2 149 12).toNatClampNeg) then (k38 v2 r5.2) else (X9_takesOf_s3_l2 N k38 n (v2 + 1) r5.2) else none))))
set_option maxRecDepth 100000 in
set_option maxHeartbeats 4000000 in
theorem X9_takesOf_s3_l2_ok {E : Ev}  {N : Nat} {k38 : Int32 → Sg → Option (Int32 × Sg)}  (hk38 : ∀ (v2 : Int32) (σ : Sg) (r : Int32 × Sg), k38 v2 σ = some r → Gp E RX9 cX9_takesOf (some .int) 3 (5) SH0 r.2 (some (.int r.1)) σ 38 [(0, .ref 149), (2, .int v2)] []) : ∀ (n : Nat) (v2 : Int32) (σ : Sg) (r : Int32 × Sg), X9_takesOf_s3_l2 N k38 n v2 σ = some r → Gp E RX9 cX9_takesOf (some .int) 3 (5) SH0 r.2 (some (.int r.1)) σ 2 [(0, .ref 149), (1, .ref 1013), (2, .int v2)] [] := by
  intro n
  induction n with
  | zero => intro v2 σ r h; cases h
  | succ n ih =>
    intro v2 σ r h Z C hE
    unfold X9_takesOf_s3_l2 at h
    refine r_iload_n (pc' := 3) C dX9_takesOf_2 rfl 2 rfl ?_
    refine r_aload_n (pc' := 4) C dX9_takesOf_3 rfl 1 rfl ?_
    obtain ⟨r1, e2, h⟩ := bd h
    refine r_sV1 (pc' := 7) (i := 3) C (J0_length_8abf5_s3_ok  e2) mlX9_167 ceJ0_length_8abf5 cvJ0_length_8abf5 rfl rfl rfl (Nat.le_of_ble_eq_true rfl) rfl (Nat.le_of_ble_eq_true rfl) ⟨Nat.zero_le _, Nat.zero_le _⟩ dX9_takesOf_4 rfl ?_
    refine r_icmp_ge (tgt := 56) (pc' := 10) C dX9_takesOf_7 rfl rfl (fun c3 => ?_) (fun c3 => ?_)
    · rw [if_pos c3] at h
      refine r_iconst (pc' := 57) C dX9_takesOf_56 rfl kc_m1 ?_
      have h := Option.some.inj h
      subst h
      exact r_ret C rfl dX9_takesOf_57 hE
    · rw [if_neg c3] at h
      refine r_aload_n (pc' := 11) C dX9_takesOf_10 rfl 0 rfl ?_
      refine r_getI (pc' := 14) C flX9_144 sh_149 rfl dX9_takesOf_11 rfl ?_
      refine r_aload_n (pc' := 15) C dX9_takesOf_14 rfl 0 rfl ?_
      refine r_getI (pc' := 18) C flX9_156 sh_149 rfl dX9_takesOf_15 rfl ?_
      refine r_icmp_ge (tgt := 56) (pc' := 21) C dX9_takesOf_18 rfl rfl (fun c4 => ?_) (fun c4 => ?_)
      · rw [if_pos c4] at h
        refine r_iconst (pc' := 57) C dX9_takesOf_56 rfl kc_m1 ?_
        have h := Option.some.inj h
        subst h
        exact r_ret C rfl dX9_takesOf_57 hE
      · rw [if_neg c4] at h
        refine r_aload_n (pc' := 22) C dX9_takesOf_21 rfl 1 rfl ?_
        refine r_iload_n (pc' := 23) C dX9_takesOf_22 rfl 2 rfl ?_
        obtain ⟨r5, e6, h⟩ := bd h
        refine r_sV1 (pc' := 26) (i := 3) C (J0_charAt_5068e_s3_ok  e6) mlX9_172 ceJ0_charAt_5068e cvJ0_charAt_5068e rfl rfl rfl (Nat.le_of_ble_eq_true rfl) rfl (Nat.le_of_ble_eq_true rfl) ⟨Nat.zero_le _, Nat.zero_le _⟩ dX9_takesOf_23 rfl ?_
        refine r_aload_n (pc' := 27) C dX9_takesOf_26 rfl 0 rfl ?_
        refine r_getR (pc' := 30) C flX9_40 sh_149 rfl dX9_takesOf_27 rfl ?_
        refine r_aload_n (pc' := 31) C dX9_takesOf_30 rfl 0 rfl ?_
        refine r_getI (pc' := 34) C flX9_144 sh_149 rfl dX9_takesOf_31 rfl ?_
        obtain ⟨q7, h⟩ := ck h
        refine r_iald (pc' := 35) C sh_155 (vin q7) dX9_takesOf_34 rfl ?_
        refine r_icmp_ne (tgt := 50) (pc' := 38) C dX9_takesOf_35 rfl rfl (fun c8 => ?_) (fun c8 => ?_)
        · rw [if_neg c8] at h
          refine r_iinc (pc' := 53) (v := v2 + 1) (lv2 := [(2, .int (v2 + 1)), (0, .ref 149), (1, .ref 1013)]) C dX9_takesOf_50 rfl 2 rfl rfl (Nat.le_of_ble_eq_true rfl) rfl ?_
          refine r_goto (tgt := 2) C dX9_takesOf_53 rfl ?_
          refine r_sub [1, 2, 0] rfl ?_
          exact ih _ _ _ h Z C hE
        · rw [if_pos c8] at h
          refine r_sub [0, 2] rfl ?_
          exact hk38 _ _ _ h Z C hE
def X9_takesOf_s3_j38 (N : Nat)   (v2 : Int32) (σ : Sg) : Option (Int32 × Sg) :=
  bnS (wi σ 149 12 ((gi σ 149 12) + 1)) fun σ9 => some (v2, σ9)
set_option maxRecDepth 100000 in
set_option maxHeartbeats 4000000 in
theorem X9_takesOf_s3_j38_ok {E : Ev}  {N : Nat}    {v2 : Int32} {σ : Sg} {r : Int32 × Sg} (h : X9_takesOf_s3_j38 N   v2 σ = some r) : Gp E RX9 cX9_takesOf (some .int) 3 (5) SH0 r.2 (some (.int r.1)) σ 38 [(0, .ref 149), (2, .int v2)] [] := by
  intro Z C hE
  unfold X9_takesOf_s3_j38 at h
  refine r_aload_n (pc' := 39) C dX9_takesOf_38 rfl 0 rfl ?_
  refine r_dup (pc' := 40) C dX9_takesOf_39 rfl rfl ?_
  refine r_getI (pc' := 43) C flX9_144 sh_149 rfl dX9_takesOf_40 rfl ?_
  refine r_iconst (pc' := 44) C dX9_takesOf_43 rfl kc_1 ?_
  refine r_iadd (pc' := 45) C dX9_takesOf_44 rfl ?_
  obtain ⟨σ9, e10, h⟩ := bs h
  refine r_putI (pc' := 48) (σ1 := σ9) C fpX9_144 sh_149 rfl rfl rfl dX9_takesOf_45 rfl e10 ?_
  refine r_iload_n (pc' := 49) C dX9_takesOf_48 rfl 1 rfl ?_
  have h := Option.some.inj h
  subst h
  exact r_ret C rfl dX9_takesOf_49 hE
def X9_takesOf_s3 (N : Nat)   (σ : Sg) : Option (Int32 × Sg) :=
  X9_takesOf_s3_l2 N (fun v2 σ => X9_takesOf_s3_j38 N v2 σ) N 0 σ
set_option maxRecDepth 100000 in
set_option maxHeartbeats 4000000 in
theorem X9_takesOf_s3_ok {E : Ev}  {N : Nat}  {σ : Sg} {r : Int32 × Sg} (h : X9_takesOf_s3 N   σ = some r) : Cm E (5) yX9_takesOf cX9_takesOf 3 (some .int) [.ref 149, .ref 1013] SH0 SH0 σ r.2 (some (.int r.1)) 0 0 := by
  refine Cm.intro (by decide +kernel) (Nat.le_of_ble_eq_true rfl) (fun _ h => by obtain ⟨_, _, _, _, _, _, h⟩ := h; exact h) (fun Z C hE => ?_)
  show Wm E Z 0 0 SH0 σ 0 [(0, .ref 149), (1, .ref 1013)] []
  unfold X9_takesOf_s3 at h
  refine r_iconst (pc' := 1) C dX9_takesOf_0 rfl kc_0 ?_
  refine r_istore_n (pc' := 2) (lv2 := [(2, .int 0), (0, .ref 149), (1, .ref 1013)]) C dX9_takesOf_1 rfl rfl (Nat.le_of_ble_eq_true rfl) rfl ?_
  refine r_sub [1, 2, 0] rfl ?_
  exact X9_takesOf_s3_l2_ok  (fun _ _ _ h Z C hE => by exact X9_takesOf_s3_j38_ok  h Z C hE) N _ _ _ h Z C hE

/-! BorrowedWeightModel.takesOf(Ljava/lang/String;)I -/
def X9_takesOf_s4_l2 (N : Nat)  (k38 : Int32 → Sg → Option (Int32 × Sg))  : Nat → Int32 → Sg → Option (Int32 × Sg)
  | 0, _, _ => none
  | n + 1, v2, σ =>
    (J0_length_8abf5_s4 N σ).bind fun r1 => (if r1 ≤ v2 then (some ((-1), σ)) else (if (gi σ 149 13) ≤ (gi σ 149 12) then (some ((-1), σ)) else ((J0_charAt_5068e_s4 N v2 σ).bind fun r5 => (if inb (gi r5.2 149 12) 80 = true then if r5.1 = (gi r5.2 155 (gi r5.2 149 12).toNatClampNeg) then (k38 v2 r5.2) else (X9_takesOf_s4_l2 N k38 n (v2 + 1) r5.2) else none))))
set_option maxRecDepth 100000 in
set_option maxHeartbeats 4000000 in
theorem X9_takesOf_s4_l2_ok {E : Ev}  {N : Nat} {k38 : Int32 → Sg → Option (Int32 × Sg)}  (hk38 : ∀ (v2 : Int32) (σ : Sg) (r : Int32 × Sg), k38 v2 σ = some r → Gp E RX9 cX9_takesOf (some .int) 3 (5) SH0 r.2 (some (.int r.1)) σ 38 [(0, .ref 149), (2, .int v2)] []) : ∀ (n : Nat) (v2 : Int32) (σ : Sg) (r : Int32 × Sg), X9_takesOf_s4_l2 N k38 n v2 σ = some r → Gp E RX9 cX9_takesOf (some .int) 3 (5) SH0 r.2 (some (.int r.1)) σ 2 [(0, .ref 149), (1, .ref 1014), (2, .int v2)] [] := by
  intro n
  induction n with
  | zero => intro v2 σ r h; cases h
  | succ n ih =>
    intro v2 σ r h Z C hE
    unfold X9_takesOf_s4_l2 at h
    refine r_iload_n (pc' := 3) C dX9_takesOf_2 rfl 2 rfl ?_
    refine r_aload_n (pc' := 4) C dX9_takesOf_3 rfl 1 rfl ?_
    obtain ⟨r1, e2, h⟩ := bd h
    refine r_sV1 (pc' := 7) (i := 4) C (J0_length_8abf5_s4_ok  e2) mlX9_167 ceJ0_length_8abf5 cvJ0_length_8abf5 rfl rfl rfl (Nat.le_of_ble_eq_true rfl) rfl (Nat.le_of_ble_eq_true rfl) ⟨Nat.zero_le _, Nat.zero_le _⟩ dX9_takesOf_4 rfl ?_
    refine r_icmp_ge (tgt := 56) (pc' := 10) C dX9_takesOf_7 rfl rfl (fun c3 => ?_) (fun c3 => ?_)
    · rw [if_pos c3] at h
      refine r_iconst (pc' := 57) C dX9_takesOf_56 rfl kc_m1 ?_
      have h := Option.some.inj h
      subst h
      exact r_ret C rfl dX9_takesOf_57 hE
    · rw [if_neg c3] at h
      refine r_aload_n (pc' := 11) C dX9_takesOf_10 rfl 0 rfl ?_
      refine r_getI (pc' := 14) C flX9_144 sh_149 rfl dX9_takesOf_11 rfl ?_
      refine r_aload_n (pc' := 15) C dX9_takesOf_14 rfl 0 rfl ?_
      refine r_getI (pc' := 18) C flX9_156 sh_149 rfl dX9_takesOf_15 rfl ?_
      refine r_icmp_ge (tgt := 56) (pc' := 21) C dX9_takesOf_18 rfl rfl (fun c4 => ?_) (fun c4 => ?_)
      · rw [if_pos c4] at h
        refine r_iconst (pc' := 57) C dX9_takesOf_56 rfl kc_m1 ?_
        have h := Option.some.inj h
        subst h
        exact r_ret C rfl dX9_takesOf_57 hE
      · rw [if_neg c4] at h
        refine r_aload_n (pc' := 22) C dX9_takesOf_21 rfl 1 rfl ?_
        refine r_iload_n (pc' := 23) C dX9_takesOf_22 rfl 2 rfl ?_
        obtain ⟨r5, e6, h⟩ := bd h
        refine r_sV1 (pc' := 26) (i := 4) C (J0_charAt_5068e_s4_ok  e6) mlX9_172 ceJ0_charAt_5068e cvJ0_charAt_5068e rfl rfl rfl (Nat.le_of_ble_eq_true rfl) rfl (Nat.le_of_ble_eq_true rfl) ⟨Nat.zero_le _, Nat.zero_le _⟩ dX9_takesOf_23 rfl ?_
        refine r_aload_n (pc' := 27) C dX9_takesOf_26 rfl 0 rfl ?_
        refine r_getR (pc' := 30) C flX9_40 sh_149 rfl dX9_takesOf_27 rfl ?_
        refine r_aload_n (pc' := 31) C dX9_takesOf_30 rfl 0 rfl ?_
        refine r_getI (pc' := 34) C flX9_144 sh_149 rfl dX9_takesOf_31 rfl ?_
        obtain ⟨q7, h⟩ := ck h
        refine r_iald (pc' := 35) C sh_155 (vin q7) dX9_takesOf_34 rfl ?_
        refine r_icmp_ne (tgt := 50) (pc' := 38) C dX9_takesOf_35 rfl rfl (fun c8 => ?_) (fun c8 => ?_)
        · rw [if_neg c8] at h
          refine r_iinc (pc' := 53) (v := v2 + 1) (lv2 := [(2, .int (v2 + 1)), (0, .ref 149), (1, .ref 1014)]) C dX9_takesOf_50 rfl 2 rfl rfl (Nat.le_of_ble_eq_true rfl) rfl ?_
          refine r_goto (tgt := 2) C dX9_takesOf_53 rfl ?_
          refine r_sub [1, 2, 0] rfl ?_
          exact ih _ _ _ h Z C hE
        · rw [if_pos c8] at h
          refine r_sub [0, 2] rfl ?_
          exact hk38 _ _ _ h Z C hE
def X9_takesOf_s4_j38 (N : Nat)   (v2 : Int32) (σ : Sg) : Option (Int32 × Sg) :=
  bnS (wi σ 149 12 ((gi σ 149 12) + 1)) fun σ9 => some (v2, σ9)
set_option maxRecDepth 100000 in
set_option maxHeartbeats 4000000 in
theorem X9_takesOf_s4_j38_ok {E : Ev}  {N : Nat}    {v2 : Int32} {σ : Sg} {r : Int32 × Sg} (h : X9_takesOf_s4_j38 N   v2 σ = some r) : Gp E RX9 cX9_takesOf (some .int) 3 (5) SH0 r.2 (some (.int r.1)) σ 38 [(0, .ref 149), (2, .int v2)] [] := by
  intro Z C hE
  unfold X9_takesOf_s4_j38 at h
  refine r_aload_n (pc' := 39) C dX9_takesOf_38 rfl 0 rfl ?_
  refine r_dup (pc' := 40) C dX9_takesOf_39 rfl rfl ?_
  refine r_getI (pc' := 43) C flX9_144 sh_149 rfl dX9_takesOf_40 rfl ?_
  refine r_iconst (pc' := 44) C dX9_takesOf_43 rfl kc_1 ?_
  refine r_iadd (pc' := 45) C dX9_takesOf_44 rfl ?_
  obtain ⟨σ9, e10, h⟩ := bs h
  refine r_putI (pc' := 48) (σ1 := σ9) C fpX9_144 sh_149 rfl rfl rfl dX9_takesOf_45 rfl e10 ?_
  refine r_iload_n (pc' := 49) C dX9_takesOf_48 rfl 1 rfl ?_
  have h := Option.some.inj h
  subst h
  exact r_ret C rfl dX9_takesOf_49 hE
def X9_takesOf_s4 (N : Nat)   (σ : Sg) : Option (Int32 × Sg) :=
  X9_takesOf_s4_l2 N (fun v2 σ => X9_takesOf_s4_j38 N v2 σ) N 0 σ
set_option maxRecDepth 100000 in
set_option maxHeartbeats 4000000 in
theorem X9_takesOf_s4_ok {E : Ev}  {N : Nat}  {σ : Sg} {r : Int32 × Sg} (h : X9_takesOf_s4 N   σ = some r) : Cm E (5) yX9_takesOf cX9_takesOf 3 (some .int) [.ref 149, .ref 1014] SH0 SH0 σ r.2 (some (.int r.1)) 0 0 := by
  refine Cm.intro (by decide +kernel) (Nat.le_of_ble_eq_true rfl) (fun _ h => by obtain ⟨_, _, _, _, _, _, h⟩ := h; exact h) (fun Z C hE => ?_)
  show Wm E Z 0 0 SH0 σ 0 [(0, .ref 149), (1, .ref 1014)] []
  unfold X9_takesOf_s4 at h
  refine r_iconst (pc' := 1) C dX9_takesOf_0 rfl kc_0 ?_
  refine r_istore_n (pc' := 2) (lv2 := [(2, .int 0), (0, .ref 149), (1, .ref 1014)]) C dX9_takesOf_1 rfl rfl (Nat.le_of_ble_eq_true rfl) rfl ?_
  refine r_sub [1, 2, 0] rfl ?_
  exact X9_takesOf_s4_l2_ok  (fun _ _ _ h Z C hE => by exact X9_takesOf_s4_j38_ok  h Z C hE) N _ _ _ h Z C hE

/-! BorrowedWeightModel.readsRank(I)Z -/
def X9_readsRank_b_j96 (N : Nat) (fR : Int32 → Sg → Option (Int32 × Sg)) (fT : Sg → Option (Int32 × Sg)) (kr : Int32 → Int32 → Sg → Option (Int32 × Sg)) (v1 : Int32) (s0 : Int32) (s1 : Int32) (σ : Sg) : Option (Int32 × Sg) :=
  (X9_codes N (s1 + s0) σ).bind fun r16 => (if v1 ≤ 0 then (kr v1 0 r16) else (kr v1 1 r16))
set_option maxRecDepth 100000 in
set_option maxHeartbeats 4000000 in
theorem X9_readsRank_b_j96_ok {E : Ev}  {d : Nat} {fR : Int32 → Sg → Option (Int32 × Sg)} (hfR : ∀ (a0 : Int32) (σ : Sg) (r : Int32 × Sg), fR a0 σ = some r → Cm E (d + 12) yX9_readsRank cX9_readsRank 4 (some .boolean) [.ref 149, .int a0] SH0 SH0 σ r.2 (some (.int r.1)) 0 0) {fT : Sg → Option (Int32 × Sg)} (hfT : ∀  (σ : Sg) (r : Int32 × Sg), fT  σ = some r → Cm E (d + 12) yX9_readsThing cX9_readsThing 2 (some .boolean) [.ref 149] SH0 SH0 σ r.2 (some (.int r.1)) 0 0) {N : Nat} {kr : Int32 → Int32 → Sg → Option (Int32 × Sg)}  (hkr : ∀ (v1 : Int32) (v2 : Int32) (σ : Sg) (r : Int32 × Sg), kr v1 v2 σ = some r → Gp E RX9 cX9_readsRank (some .boolean) 4 (d + 13) SH0 r.2 (some (.int r.1)) σ 24 [(0, .ref 149), (1, .int v1), (2, .int v2)] []) {v1 : Int32} {s0 : Int32} {s1 : Int32} {σ : Sg} {r : Int32 × Sg} (h : X9_readsRank_b_j96 N fR fT kr v1 s0 s1 σ = some r) : Gp E RX9 cX9_readsRank (some .boolean) 4 (d + 13) SH0 r.2 (some (.int r.1)) σ 96 [(0, .ref 149), (1, .int v1)] [.int s0, .int s1, .ref 149] := by
  intro Z C hE
  unfold X9_readsRank_b_j96 at h
  refine r_iadd (pc' := 97) C dX9_readsRank_96 rfl ?_
  obtain ⟨r16, e17, h⟩ := bd h
  refine r_cV0 (pc' := 100) C (X9_codes_ok  e17) mlX9_228 ceX9_codes cvX9_codes sh_149 rfl rfl rfl (by omega) rfl (Nat.le_of_ble_eq_true rfl) dX9_readsRank_97 rfl (kk := ?_)
  refine r_iload_n (pc' := 101) C dX9_readsRank_100 rfl 1 rfl ?_
  refine r_if_le (tgt := 108) (pc' := 104) C dX9_readsRank_101 rfl rfl (fun c18 => ?_) (fun c18 => ?_)
  · rw [if_pos c18] at h
    refine r_iconst (pc' := 109) C dX9_readsRank_108 rfl kc_0 ?_
    refine r_istore_n (pc' := 110) (lv2 := [(2, .int 0), (0, .ref 149), (1, .int v1)]) C dX9_readsRank_109 rfl rfl (Nat.le_of_ble_eq_true rfl) rfl ?_
    refine r_goto (tgt := 24) C dX9_readsRank_110 rfl ?_
    refine r_sub [1, 2, 0] rfl ?_
    exact hkr _ _ _ _ h Z C hE
  · rw [if_neg c18] at h
    refine r_iconst (pc' := 105) C dX9_readsRank_104 rfl kc_1 ?_
    refine r_goto (tgt := 109) C dX9_readsRank_105 rfl ?_
    refine r_istore_n (pc' := 110) (lv2 := [(2, .int 1), (0, .ref 149), (1, .int v1)]) C dX9_readsRank_109 rfl rfl (Nat.le_of_ble_eq_true rfl) rfl ?_
    refine r_goto (tgt := 24) C dX9_readsRank_110 rfl ?_
    refine r_sub [1, 2, 0] rfl ?_
    exact hkr _ _ _ _ h Z C hE
def X9_readsRank_b_j54 (N : Nat) (fR : Int32 → Sg → Option (Int32 × Sg)) (fT : Sg → Option (Int32 × Sg)) (kr : Int32 → Int32 → Sg → Option (Int32 × Sg)) (v1 : Int32) (v3 : Int32) (σ : Sg) : Option (Int32 × Sg) :=
  if 0 ≤ v3 then ((fR (v1 + 1) σ).bind fun r11 => (if r11.1 = 0 then (some (0, r11.2)) else (if v1 = 0 then (X9_readsRank_b_j96 N fR fT kr v1 0 (2000 + v3) r11.2) else (if v1 = 1 then (X9_readsRank_b_j96 N fR fT kr v1 3 (2000 + v3) r11.2) else (X9_readsRank_b_j96 N fR fT kr v1 5 (2000 + v3) r11.2))))) else (some (1, σ))
set_option maxRecDepth 100000 in
set_option maxHeartbeats 4000000 in
theorem X9_readsRank_b_j54_ok {E : Ev}  {d : Nat} {fR : Int32 → Sg → Option (Int32 × Sg)} (hfR : ∀ (a0 : Int32) (σ : Sg) (r : Int32 × Sg), fR a0 σ = some r → Cm E (d + 12) yX9_readsRank cX9_readsRank 4 (some .boolean) [.ref 149, .int a0] SH0 SH0 σ r.2 (some (.int r.1)) 0 0) {fT : Sg → Option (Int32 × Sg)} (hfT : ∀  (σ : Sg) (r : Int32 × Sg), fT  σ = some r → Cm E (d + 12) yX9_readsThing cX9_readsThing 2 (some .boolean) [.ref 149] SH0 SH0 σ r.2 (some (.int r.1)) 0 0) {N : Nat} {kr : Int32 → Int32 → Sg → Option (Int32 × Sg)}  (hkr : ∀ (v1 : Int32) (v2 : Int32) (σ : Sg) (r : Int32 × Sg), kr v1 v2 σ = some r → Gp E RX9 cX9_readsRank (some .boolean) 4 (d + 13) SH0 r.2 (some (.int r.1)) σ 24 [(0, .ref 149), (1, .int v1), (2, .int v2)] []) {v1 : Int32} {v3 : Int32} {σ : Sg} {r : Int32 × Sg} (h : X9_readsRank_b_j54 N fR fT kr v1 v3 σ = some r) : Gp E RX9 cX9_readsRank (some .boolean) 4 (d + 13) SH0 r.2 (some (.int r.1)) σ 54 [(0, .ref 149), (1, .int v1), (3, .int v3)] [] := by
  intro Z C hE
  unfold X9_readsRank_b_j54 at h
  refine r_iload_n (pc' := 55) C dX9_readsRank_54 rfl 2 rfl ?_
  refine r_if_ge (tgt := 60) (pc' := 58) C dX9_readsRank_55 rfl rfl (fun c10 => ?_) (fun c10 => ?_)
  · rw [if_pos c10] at h
    refine r_aload_n (pc' := 61) C dX9_readsRank_60 rfl 0 rfl ?_
    refine r_iload_n (pc' := 62) C dX9_readsRank_61 rfl 1 rfl ?_
    refine r_iconst (pc' := 63) C dX9_readsRank_62 rfl kc_1 ?_
    refine r_iadd (pc' := 64) C dX9_readsRank_63 rfl ?_
    obtain ⟨r11, e12, h⟩ := bd h
    refine r_cV1 (pc' := 67) C (hfR _ _ _ e12) mlX9_238 ceX9_readsRank cvX9_readsRank sh_149 rfl rfl rfl (by omega) rfl (Nat.le_of_ble_eq_true rfl) dX9_readsRank_64 rfl (kk := ?_)
    refine r_if_ne (tgt := 72) (pc' := 70) C dX9_readsRank_67 rfl rfl (fun c13 => ?_) (fun c13 => ?_)
    · rw [if_neg c13] at h
      refine r_aload_n (pc' := 73) C dX9_readsRank_72 rfl 0 rfl ?_
      refine r_sipush (pc' := 76) C dX9_readsRank_73 rfl ks_2000 ?_
      refine r_iload_n (pc' := 77) C dX9_readsRank_76 rfl 2 rfl ?_
      refine r_iadd (pc' := 78) C dX9_readsRank_77 rfl ?_
      refine r_iload_n (pc' := 79) C dX9_readsRank_78 rfl 1 rfl ?_
      refine r_if_ne (tgt := 86) (pc' := 82) C dX9_readsRank_79 rfl rfl (fun c14 => ?_) (fun c14 => ?_)
      · rw [if_neg c14] at h
        refine r_iload_n (pc' := 87) C dX9_readsRank_86 rfl 1 rfl ?_
        refine r_iconst (pc' := 88) C dX9_readsRank_87 rfl kc_1 ?_
        refine r_icmp_ne (tgt := 95) (pc' := 91) C dX9_readsRank_88 rfl rfl (fun c15 => ?_) (fun c15 => ?_)
        · rw [if_neg c15] at h
          refine r_iconst (pc' := 96) C dX9_readsRank_95 rfl kc_5 ?_
          refine r_sub [0, 1] rfl ?_
          exact X9_readsRank_b_j96_ok hfR hfT hkr h Z C hE
        · rw [if_pos c15] at h
          refine r_iconst (pc' := 92) C dX9_readsRank_91 rfl kc_3 ?_
          refine r_goto (tgt := 96) C dX9_readsRank_92 rfl ?_
          refine r_sub [0, 1] rfl ?_
          exact X9_readsRank_b_j96_ok hfR hfT hkr h Z C hE
      · rw [if_pos c14] at h
        refine r_iconst (pc' := 83) C dX9_readsRank_82 rfl kc_0 ?_
        refine r_goto (tgt := 96) C dX9_readsRank_83 rfl ?_
        refine r_sub [0, 1] rfl ?_
        exact X9_readsRank_b_j96_ok hfR hfT hkr h Z C hE
    · rw [if_pos c13] at h
      refine r_iconst (pc' := 71) C dX9_readsRank_70 rfl kc_0 ?_
      have h := Option.some.inj h
      subst h
      exact r_ret C rfl dX9_readsRank_71 hE
  · rw [if_neg c10] at h
    refine r_iconst (pc' := 59) C dX9_readsRank_58 rfl kc_1 ?_
    have h := Option.some.inj h
    subst h
    exact r_ret C rfl dX9_readsRank_59 hE
def X9_readsRank_b_l24 (N : Nat) (fR : Int32 → Sg → Option (Int32 × Sg)) (fT : Sg → Option (Int32 × Sg))   : Nat → Int32 → Int32 → Sg → Option (Int32 × Sg)
  | 0, _, _, _ => none
  | n + 1, v1, v2, σ =>
    if v2 = 0 then (some (1, σ)) else (if v1 = 0 then ((X9_takesOf_s1 N σ).bind fun r21 => (X9_readsRank_b_j54 N fR fT (fun v1 v2 σ => X9_readsRank_b_l24 N fR fT n v1 v2 σ) v1 r21.1 r21.2)) else (if v1 = 1 then ((X9_takesOf_s2 N σ).bind fun r19 => (X9_readsRank_b_j54 N fR fT (fun v1 v2 σ => X9_readsRank_b_l24 N fR fT n v1 v2 σ) v1 r19.1 r19.2)) else ((X9_takesOf_s3 N σ).bind fun r8 => (X9_readsRank_b_j54 N fR fT (fun v1 v2 σ => X9_readsRank_b_l24 N fR fT n v1 v2 σ) v1 r8.1 r8.2))))
set_option maxRecDepth 100000 in
set_option maxHeartbeats 4000000 in
theorem X9_readsRank_b_l24_ok {E : Ev}  {d : Nat} {fR : Int32 → Sg → Option (Int32 × Sg)} (hfR : ∀ (a0 : Int32) (σ : Sg) (r : Int32 × Sg), fR a0 σ = some r → Cm E (d + 12) yX9_readsRank cX9_readsRank 4 (some .boolean) [.ref 149, .int a0] SH0 SH0 σ r.2 (some (.int r.1)) 0 0) {fT : Sg → Option (Int32 × Sg)} (hfT : ∀  (σ : Sg) (r : Int32 × Sg), fT  σ = some r → Cm E (d + 12) yX9_readsThing cX9_readsThing 2 (some .boolean) [.ref 149] SH0 SH0 σ r.2 (some (.int r.1)) 0 0) {N : Nat}    : ∀ (n : Nat) (v1 : Int32) (v2 : Int32) (σ : Sg) (r : Int32 × Sg), X9_readsRank_b_l24 N fR fT n v1 v2 σ = some r → Gp E RX9 cX9_readsRank (some .boolean) 4 (d + 13) SH0 r.2 (some (.int r.1)) σ 24 [(0, .ref 149), (1, .int v1), (2, .int v2)] [] := by
  intro n
  induction n with
  | zero => intro v1 v2 σ r h; cases h
  | succ n ih =>
    intro v1 v2 σ r h Z C hE
    unfold X9_readsRank_b_l24 at h
    refine r_iload_n (pc' := 25) C dX9_readsRank_24 rfl 2 rfl ?_
    refine r_if_eq (tgt := 113) (pc' := 28) C dX9_readsRank_25 rfl rfl (fun c5 => ?_) (fun c5 => ?_)
    · rw [if_pos c5] at h
      refine r_iconst (pc' := 114) C dX9_readsRank_113 rfl kc_1 ?_
      have h := Option.some.inj h
      subst h
      exact r_ret C rfl dX9_readsRank_114 hE
    · rw [if_neg c5] at h
      refine r_aload_n (pc' := 29) C dX9_readsRank_28 rfl 0 rfl ?_
      refine r_iload_n (pc' := 30) C dX9_readsRank_29 rfl 1 rfl ?_
      refine r_if_ne (tgt := 38) (pc' := 33) C dX9_readsRank_30 rfl rfl (fun c6 => ?_) (fun c6 => ?_)
      · rw [if_neg c6] at h
        refine r_iload_n (pc' := 39) C dX9_readsRank_38 rfl 1 rfl ?_
        refine r_iconst (pc' := 40) C dX9_readsRank_39 rfl kc_1 ?_
        refine r_icmp_ne (tgt := 48) (pc' := 43) C dX9_readsRank_40 rfl rfl (fun c7 => ?_) (fun c7 => ?_)
        · rw [if_neg c7] at h
          refine r_ldcS (pc' := 50) (i := 3) C rfl dX9_readsRank_48 rfl ?_
          obtain ⟨r8, e9, h⟩ := bd h
          refine r_cV1 (pc' := 53) C (X9_takesOf_s3_ok  e9) mlX9_234 ceX9_takesOf cvX9_takesOf sh_149 rfl rfl rfl (by omega) rfl (Nat.le_of_ble_eq_true rfl) dX9_readsRank_50 rfl (kk := ?_)
          refine r_istore_n (pc' := 54) (lv2 := [(3, .int r8.1), (0, .ref 149), (1, .int v1), (2, .int v2)]) C dX9_readsRank_53 rfl rfl (Nat.le_of_ble_eq_true rfl) rfl ?_
          refine r_sub [1, 2, 0] rfl ?_
          exact X9_readsRank_b_j54_ok hfR hfT ih h Z C hE
        · rw [if_pos c7] at h
          refine r_ldcS (pc' := 45) (i := 2) C rfl dX9_readsRank_43 rfl ?_
          refine r_goto (tgt := 50) C dX9_readsRank_45 rfl ?_
          obtain ⟨r19, e20, h⟩ := bd h
          refine r_cV1 (pc' := 53) C (X9_takesOf_s2_ok  e20) mlX9_234 ceX9_takesOf cvX9_takesOf sh_149 rfl rfl rfl (by omega) rfl (Nat.le_of_ble_eq_true rfl) dX9_readsRank_50 rfl (kk := ?_)
          refine r_istore_n (pc' := 54) (lv2 := [(3, .int r19.1), (0, .ref 149), (1, .int v1), (2, .int v2)]) C dX9_readsRank_53 rfl rfl (Nat.le_of_ble_eq_true rfl) rfl ?_
          refine r_sub [1, 2, 0] rfl ?_
          exact X9_readsRank_b_j54_ok hfR hfT ih h Z C hE
      · rw [if_pos c6] at h
        refine r_ldcS (pc' := 35) (i := 1) C rfl dX9_readsRank_33 rfl ?_
        refine r_goto (tgt := 50) C dX9_readsRank_35 rfl ?_
        obtain ⟨r21, e22, h⟩ := bd h
        refine r_cV1 (pc' := 53) C (X9_takesOf_s1_ok  e22) mlX9_234 ceX9_takesOf cvX9_takesOf sh_149 rfl rfl rfl (by omega) rfl (Nat.le_of_ble_eq_true rfl) dX9_readsRank_50 rfl (kk := ?_)
        refine r_istore_n (pc' := 54) (lv2 := [(3, .int r21.1), (0, .ref 149), (1, .int v1), (2, .int v2)]) C dX9_readsRank_53 rfl rfl (Nat.le_of_ble_eq_true rfl) rfl ?_
        refine r_sub [1, 2, 0] rfl ?_
        exact X9_readsRank_b_j54_ok hfR hfT ih h Z C hE
def X9_readsRank_b (N : Nat) (fR : Int32 → Sg → Option (Int32 × Sg)) (fT : Sg → Option (Int32 × Sg)) (v1 : Int32) (σ : Sg) : Option (Int32 × Sg) :=
  if v1 = 3 then ((fT σ).bind fun r23 => (if isB r23.1 = true then some (r23.1, r23.2) else none)) else ((fR (v1 + 1) σ).bind fun r2 => (if r2.1 = 0 then (some (0, r2.2)) else (X9_readsRank_b_l24 N fR fT N v1 1 r2.2)))
set_option maxRecDepth 100000 in
set_option maxHeartbeats 4000000 in
theorem X9_readsRank_b_ok {E : Ev}  {d : Nat} {fR : Int32 → Sg → Option (Int32 × Sg)} (hfR : ∀ (a0 : Int32) (σ : Sg) (r : Int32 × Sg), fR a0 σ = some r → Cm E (d + 12) yX9_readsRank cX9_readsRank 4 (some .boolean) [.ref 149, .int a0] SH0 SH0 σ r.2 (some (.int r.1)) 0 0) {fT : Sg → Option (Int32 × Sg)} (hfT : ∀  (σ : Sg) (r : Int32 × Sg), fT  σ = some r → Cm E (d + 12) yX9_readsThing cX9_readsThing 2 (some .boolean) [.ref 149] SH0 SH0 σ r.2 (some (.int r.1)) 0 0) {N : Nat} {v1 : Int32} {σ : Sg} {r : Int32 × Sg} (h : X9_readsRank_b N fR fT v1 σ = some r) : Cm E (d + 13) yX9_readsRank cX9_readsRank 4 (some .boolean) [.ref 149, .int v1] SH0 SH0 σ r.2 (some (.int r.1)) 0 0 := by
  refine Cm.intro (by decide +kernel) (Nat.le_of_ble_eq_true rfl) (fun _ h => by obtain ⟨_, _, _, _, _, _, h⟩ := h; exact h) (fun Z C hE => ?_)
  show Wm E Z 0 0 SH0 σ 0 [(0, .ref 149), (1, .int v1)] []
  unfold X9_readsRank_b at h
  refine r_iload_n (pc' := 1) C dX9_readsRank_0 rfl 1 rfl ?_
  refine r_iconst (pc' := 2) C dX9_readsRank_1 rfl kc_3 ?_
  refine r_icmp_ne (tgt := 10) (pc' := 5) C dX9_readsRank_2 rfl rfl (fun c1 => ?_) (fun c1 => ?_)
  · rw [if_neg c1] at h
    refine r_aload_n (pc' := 11) C dX9_readsRank_10 rfl 0 rfl ?_
    refine r_iload_n (pc' := 12) C dX9_readsRank_11 rfl 1 rfl ?_
    refine r_iconst (pc' := 13) C dX9_readsRank_12 rfl kc_1 ?_
    refine r_iadd (pc' := 14) C dX9_readsRank_13 rfl ?_
    obtain ⟨r2, e3, h⟩ := bd h
    refine r_cV1 (pc' := 17) C (hfR _ _ _ e3) mlX9_238 ceX9_readsRank cvX9_readsRank sh_149 rfl rfl rfl (by omega) rfl (Nat.le_of_ble_eq_true rfl) dX9_readsRank_14 rfl (kk := ?_)
    refine r_if_ne (tgt := 22) (pc' := 20) C dX9_readsRank_17 rfl rfl (fun c4 => ?_) (fun c4 => ?_)
    · rw [if_neg c4] at h
      refine r_iconst (pc' := 23) C dX9_readsRank_22 rfl kc_1 ?_
      refine r_istore_n (pc' := 24) (lv2 := [(2, .int 1), (0, .ref 149), (1, .int v1)]) C dX9_readsRank_23 rfl rfl (Nat.le_of_ble_eq_true rfl) rfl ?_
      refine r_sub [1, 2, 0] rfl ?_
      exact X9_readsRank_b_l24_ok hfR hfT N _ _ _ _ h Z C hE
    · rw [if_pos c4] at h
      refine r_iconst (pc' := 21) C dX9_readsRank_20 rfl kc_0 ?_
      have h := Option.some.inj h
      subst h
      exact r_ret C rfl dX9_readsRank_21 hE
  · rw [if_pos c1] at h
    refine r_aload_n (pc' := 6) C dX9_readsRank_5 rfl 0 rfl ?_
    obtain ⟨r23, e24, h⟩ := bd h
    refine r_cV1 (pc' := 9) C (hfT _ _ e24) mlX9_225 ceX9_readsThing cvX9_readsThing sh_149 rfl rfl rfl (by omega) rfl (Nat.le_of_ble_eq_true rfl) dX9_readsRank_6 rfl (kk := ?_)
    obtain ⟨q25, h⟩ := ck h
    have h := Option.some.inj h
    subst h
    exact r_ret C (nisB q25) dX9_readsRank_9 hE

def X9_readsThing_b (N : Nat) (fR : Int32 → Sg → Option (Int32 × Sg)) (fT : Sg → Option (Int32 × Sg))  (σ : Sg) : Option (Int32 × Sg) :=
  (X9_takes N 45 σ).bind fun r1 => (if r1.1 = 0 then ((X9_isDigit N r1.2).bind fun r4 => (if r4 = 0 then ((X9_takesOf_s0 N r1.2).bind fun r7 => (if r7.1 < 0 then (if (gi r7.2 149 14) = 4 then (some (0, r7.2)) else ((X9_takes N 40 r7.2).bind fun r11 => (if r11.1 = 0 then (some (0, r11.2)) else (bnS (wi r11.2 149 14 ((gi r11.2 149 14) + 1)) fun σ14 => (fR 0 σ14).bind fun r16 => (if r16.1 = 0 then (some (0, r16.2)) else ((X9_takes N 41 r16.2).bind fun r19 => (if r19.1 = 0 then (some (0, r19.2)) else (bnS (wi r19.2 149 14 ((gi r19.2 149 14) - 1)) fun σ22 => some (1, σ22))))))))) else ((X9_codes N (1000 + r7.1) r7.2).bind fun r24 => (some (1, r24))))) else ((X9_number N 3 r1.2).bind fun r26 => ((X9_codes N r26.1 r26.2).bind fun r28 => (some (1, r28)))))) else ((fT r1.2).bind fun r30 => ((X9_codes N 3000 r30.2).bind fun r32 => (if isB r30.1 = true then some (r30.1, r32) else none))))
set_option maxRecDepth 100000 in
set_option maxHeartbeats 4000000 in
theorem X9_readsThing_b_ok {E : Ev}  {d : Nat} {fR : Int32 → Sg → Option (Int32 × Sg)} (hfR : ∀ (a0 : Int32) (σ : Sg) (r : Int32 × Sg), fR a0 σ = some r → Cm E (d + 12) yX9_readsRank cX9_readsRank 4 (some .boolean) [.ref 149, .int a0] SH0 SH0 σ r.2 (some (.int r.1)) 0 0) {fT : Sg → Option (Int32 × Sg)} (hfT : ∀  (σ : Sg) (r : Int32 × Sg), fT  σ = some r → Cm E (d + 12) yX9_readsThing cX9_readsThing 2 (some .boolean) [.ref 149] SH0 SH0 σ r.2 (some (.int r.1)) 0 0) {N : Nat}  {σ : Sg} {r : Int32 × Sg} (h : X9_readsThing_b N fR fT  σ = some r) : Cm E (d + 13) yX9_readsThing cX9_readsThing 2 (some .boolean) [.ref 149] SH0 SH0 σ r.2 (some (.int r.1)) 0 0 := by
  refine Cm.intro (by decide +kernel) (Nat.le_of_ble_eq_true rfl) (fun _ h => by obtain ⟨_, _, _, _, _, _, h⟩ := h; exact h) (fun Z C hE => ?_)
  show Wm E Z 0 0 SH0 σ 0 [(0, .ref 149)] []
  unfold X9_readsThing_b at h
  refine r_aload_n (pc' := 1) C dX9_readsThing_0 rfl 0 rfl ?_
  refine r_bipush (pc' := 3) C dX9_readsThing_1 rfl kb_45 ?_
  obtain ⟨r1, e2, h⟩ := bd h
  refine r_cV1 (pc' := 6) C (X9_takes_ok  e2) mlX9_189 ceX9_takes cvX9_takes sh_149 rfl rfl rfl (by omega) rfl (Nat.le_of_ble_eq_true rfl) dX9_readsThing_3 rfl (kk := ?_)
  refine r_if_eq (tgt := 23) (pc' := 9) C dX9_readsThing_6 rfl rfl (fun c3 => ?_) (fun c3 => ?_)
  · rw [if_pos c3] at h
    refine r_aload_n (pc' := 24) C dX9_readsThing_23 rfl 0 rfl ?_
    obtain ⟨r4, e5, h⟩ := bd h
    refine r_cV1 (pc' := 27) C (X9_isDigit_ok  e5) mlX9_176 ceX9_isDigit cvX9_isDigit sh_149 rfl rfl rfl (by omega) rfl (Nat.le_of_ble_eq_true rfl) dX9_readsThing_24 rfl (kk := ?_)
    refine r_if_eq (tgt := 41) (pc' := 30) C dX9_readsThing_27 rfl rfl (fun c6 => ?_) (fun c6 => ?_)
    · rw [if_pos c6] at h
      refine r_aload_n (pc' := 42) C dX9_readsThing_41 rfl 0 rfl ?_
      refine r_ldcS (pc' := 44) (i := 0) C rfl dX9_readsThing_42 rfl ?_
      obtain ⟨r7, e8, h⟩ := bd h
      refine r_cV1 (pc' := 47) C (X9_takesOf_s0_ok  e8) mlX9_234 ceX9_takesOf cvX9_takesOf sh_149 rfl rfl rfl (by omega) rfl (Nat.le_of_ble_eq_true rfl) dX9_readsThing_44 rfl (kk := ?_)
      refine r_istore_n (pc' := 48) (lv2 := [(1, .int r7.1), (0, .ref 149)]) C dX9_readsThing_47 rfl rfl (Nat.le_of_ble_eq_true rfl) rfl ?_
      refine r_iload_n (pc' := 49) C dX9_readsThing_48 rfl 0 rfl ?_
      refine r_if_lt (tgt := 63) (pc' := 52) C dX9_readsThing_49 rfl rfl (fun c9 => ?_) (fun c9 => ?_)
      · rw [if_pos c9] at h
        refine r_aload_n (pc' := 64) C dX9_readsThing_63 rfl 1 rfl ?_
        refine r_getI (pc' := 67) C flX9_147 sh_149 rfl dX9_readsThing_64 rfl ?_
        refine r_iconst (pc' := 68) C dX9_readsThing_67 rfl kc_4 ?_
        refine r_icmp_eq (tgt := 80) (pc' := 71) C dX9_readsThing_68 rfl rfl (fun c10 => ?_) (fun c10 => ?_)
        · rw [if_pos c10] at h
          refine r_iconst (pc' := 81) C dX9_readsThing_80 rfl kc_0 ?_
          have h := Option.some.inj h
          subst h
          exact r_ret C rfl dX9_readsThing_81 hE
        · rw [if_neg c10] at h
          refine r_aload_n (pc' := 72) C dX9_readsThing_71 rfl 1 rfl ?_
          refine r_bipush (pc' := 74) C dX9_readsThing_72 rfl kb_40 ?_
          obtain ⟨r11, e12, h⟩ := bd h
          refine r_cV1 (pc' := 77) C (X9_takes_ok  e12) mlX9_189 ceX9_takes cvX9_takes sh_149 rfl rfl rfl (by omega) rfl (Nat.le_of_ble_eq_true rfl) dX9_readsThing_74 rfl (kk := ?_)
          refine r_if_ne (tgt := 82) (pc' := 80) C dX9_readsThing_77 rfl rfl (fun c13 => ?_) (fun c13 => ?_)
          · rw [if_neg c13] at h
            refine r_aload_n (pc' := 83) C dX9_readsThing_82 rfl 1 rfl ?_
            refine r_dup (pc' := 84) C dX9_readsThing_83 rfl rfl ?_
            refine r_getI (pc' := 87) C flX9_147 sh_149 rfl dX9_readsThing_84 rfl ?_
            refine r_iconst (pc' := 88) C dX9_readsThing_87 rfl kc_1 ?_
            refine r_iadd (pc' := 89) C dX9_readsThing_88 rfl ?_
            obtain ⟨σ14, e15, h⟩ := bs h
            refine r_putI (pc' := 92) (σ1 := σ14) C fpX9_147 sh_149 rfl rfl rfl dX9_readsThing_89 rfl e15 ?_
            refine r_aload_n (pc' := 93) C dX9_readsThing_92 rfl 1 rfl ?_
            refine r_iconst (pc' := 94) C dX9_readsThing_93 rfl kc_0 ?_
            obtain ⟨r16, e17, h⟩ := bd h
            refine r_cV1 (pc' := 97) C (hfR _ _ _ e17) mlX9_238 ceX9_readsRank cvX9_readsRank sh_149 rfl rfl rfl (by omega) rfl (Nat.le_of_ble_eq_true rfl) dX9_readsThing_94 rfl (kk := ?_)
            refine r_if_eq (tgt := 109) (pc' := 100) C dX9_readsThing_97 rfl rfl (fun c18 => ?_) (fun c18 => ?_)
            · rw [if_pos c18] at h
              refine r_iconst (pc' := 110) C dX9_readsThing_109 rfl kc_0 ?_
              have h := Option.some.inj h
              subst h
              exact r_ret C rfl dX9_readsThing_110 hE
            · rw [if_neg c18] at h
              refine r_aload_n (pc' := 101) C dX9_readsThing_100 rfl 1 rfl ?_
              refine r_bipush (pc' := 103) C dX9_readsThing_101 rfl kb_41 ?_
              obtain ⟨r19, e20, h⟩ := bd h
              refine r_cV1 (pc' := 106) C (X9_takes_ok  e20) mlX9_189 ceX9_takes cvX9_takes sh_149 rfl rfl rfl (by omega) rfl (Nat.le_of_ble_eq_true rfl) dX9_readsThing_103 rfl (kk := ?_)
              refine r_if_ne (tgt := 111) (pc' := 109) C dX9_readsThing_106 rfl rfl (fun c21 => ?_) (fun c21 => ?_)
              · rw [if_neg c21] at h
                refine r_aload_n (pc' := 112) C dX9_readsThing_111 rfl 1 rfl ?_
                refine r_dup (pc' := 113) C dX9_readsThing_112 rfl rfl ?_
                refine r_getI (pc' := 116) C flX9_147 sh_149 rfl dX9_readsThing_113 rfl ?_
                refine r_iconst (pc' := 117) C dX9_readsThing_116 rfl kc_1 ?_
                refine r_isub (pc' := 118) C dX9_readsThing_117 rfl ?_
                obtain ⟨σ22, e23, h⟩ := bs h
                refine r_putI (pc' := 121) (σ1 := σ22) C fpX9_147 sh_149 rfl rfl rfl dX9_readsThing_118 rfl e23 ?_
                refine r_iconst (pc' := 122) C dX9_readsThing_121 rfl kc_1 ?_
                have h := Option.some.inj h
                subst h
                exact r_ret C rfl dX9_readsThing_122 hE
              · rw [if_pos c21] at h
                refine r_iconst (pc' := 110) C dX9_readsThing_109 rfl kc_0 ?_
                have h := Option.some.inj h
                subst h
                exact r_ret C rfl dX9_readsThing_110 hE
          · rw [if_pos c13] at h
            refine r_iconst (pc' := 81) C dX9_readsThing_80 rfl kc_0 ?_
            have h := Option.some.inj h
            subst h
            exact r_ret C rfl dX9_readsThing_81 hE
      · rw [if_neg c9] at h
        refine r_aload_n (pc' := 53) C dX9_readsThing_52 rfl 1 rfl ?_
        refine r_sipush (pc' := 56) C dX9_readsThing_53 rfl ks_1000 ?_
        refine r_iload_n (pc' := 57) C dX9_readsThing_56 rfl 0 rfl ?_
        refine r_iadd (pc' := 58) C dX9_readsThing_57 rfl ?_
        obtain ⟨r24, e25, h⟩ := bd h
        refine r_cV0 (pc' := 61) C (X9_codes_ok  e25) mlX9_228 ceX9_codes cvX9_codes sh_149 rfl rfl rfl (by omega) rfl (Nat.le_of_ble_eq_true rfl) dX9_readsThing_58 rfl (kk := ?_)
        refine r_iconst (pc' := 62) C dX9_readsThing_61 rfl kc_1 ?_
        have h := Option.some.inj h
        subst h
        exact r_ret C rfl dX9_readsThing_62 hE
    · rw [if_neg c6] at h
      refine r_aload_n (pc' := 31) C dX9_readsThing_30 rfl 0 rfl ?_
      refine r_aload_n (pc' := 32) C dX9_readsThing_31 rfl 0 rfl ?_
      refine r_iconst (pc' := 33) C dX9_readsThing_32 rfl kc_3 ?_
      obtain ⟨r26, e27, h⟩ := bd h
      refine r_cV1 (pc' := 36) C (X9_number_ok  e27) mlX9_219 ceX9_number cvX9_number sh_149 rfl rfl rfl (by omega) rfl (Nat.le_of_ble_eq_true rfl) dX9_readsThing_33 rfl (kk := ?_)
      obtain ⟨r28, e29, h⟩ := bd h
      refine r_cV0 (pc' := 39) C (X9_codes_ok  e29) mlX9_228 ceX9_codes cvX9_codes sh_149 rfl rfl rfl (by omega) rfl (Nat.le_of_ble_eq_true rfl) dX9_readsThing_36 rfl (kk := ?_)
      refine r_iconst (pc' := 40) C dX9_readsThing_39 rfl kc_1 ?_
      have h := Option.some.inj h
      subst h
      exact r_ret C rfl dX9_readsThing_40 hE
  · rw [if_neg c3] at h
    refine r_aload_n (pc' := 10) C dX9_readsThing_9 rfl 0 rfl ?_
    obtain ⟨r30, e31, h⟩ := bd h
    refine r_cV1 (pc' := 13) C (hfT _ _ e31) mlX9_225 ceX9_readsThing cvX9_readsThing sh_149 rfl rfl rfl (by omega) rfl (Nat.le_of_ble_eq_true rfl) dX9_readsThing_10 rfl (kk := ?_)
    refine r_istore_n (pc' := 14) (lv2 := [(1, .int r30.1), (0, .ref 149)]) C dX9_readsThing_13 rfl rfl (Nat.le_of_ble_eq_true rfl) rfl ?_
    refine r_aload_n (pc' := 15) C dX9_readsThing_14 rfl 1 rfl ?_
    refine r_sipush (pc' := 18) C dX9_readsThing_15 rfl ks_3000 ?_
    obtain ⟨r32, e33, h⟩ := bd h
    refine r_cV0 (pc' := 21) C (X9_codes_ok  e33) mlX9_228 ceX9_codes cvX9_codes sh_149 rfl rfl rfl (by omega) rfl (Nat.le_of_ble_eq_true rfl) dX9_readsThing_18 rfl (kk := ?_)
    refine r_iload_n (pc' := 22) C dX9_readsThing_21 rfl 0 rfl ?_
    obtain ⟨q34, h⟩ := ck h
    have h := Option.some.inj h
    subst h
    exact r_ret C (nisB q34) dX9_readsThing_22 hE
def X9_reads (N : Nat) : Nat → Bool → Int32 → Sg → Option (Int32 × Sg)
  | 0, _, _, _ => none
  | n + 1, true, _, σ => X9_readsThing_b N (fun v σ => X9_reads N n false v σ) (fun σ => X9_reads N n true 0 σ) σ
  | n + 1, false, v, σ => X9_readsRank_b N (fun v σ => X9_reads N n false v σ) (fun σ => X9_reads N n true 0 σ) v σ
theorem X9_reads_ok {E : Ev} {N : Nat} : ∀ (n : Nat), (∀ (v : Int32) (σ : Sg) (r : Int32 × Sg), X9_reads N n false v σ = some r → Cm E (n + 12) yX9_readsRank cX9_readsRank 4 (some .boolean) [.ref 149, .int v] SH0 SH0 σ r.2 (some (.int r.1)) 0 0) ∧ ∀ (v : Int32) (σ : Sg) (r : Int32 × Sg), X9_reads N n true v σ = some r → Cm E (n + 12) yX9_readsThing cX9_readsThing 2 (some .boolean) [.ref 149] SH0 SH0 σ r.2 (some (.int r.1)) 0 0
  | 0 => ⟨fun _ _ _ h => (by cases h), fun _ _ _ h => (by cases h)⟩
  | n + 1 => ⟨fun v σ r h => X9_readsRank_b_ok (d := n) (fR := fun v σ => X9_reads N n false v σ) (fT := fun σ => X9_reads N n true 0 σ) (fun v σ r h => (X9_reads_ok n).1 v σ r h) (fun σ r h => (X9_reads_ok n).2 0 σ r h) h, fun v σ r h => X9_readsThing_b_ok (d := n) (fR := fun v σ => X9_reads N n false v σ) (fT := fun σ => X9_reads N n true 0 σ) (fun v σ r h => (X9_reads_ok n).1 v σ r h) (fun σ r h => (X9_reads_ok n).2 0 σ r h) h⟩
def X9_readsRank (N : Nat) (v1 : Int32) (σ : Sg) : Option (Int32 × Sg) := X9_reads N 200 false v1 σ
theorem X9_readsRank_ok {E : Ev} {N : Nat} {v1 : Int32} {σ : Sg} {r : Int32 × Sg} (h : X9_readsRank N v1 σ = some r) : Cm E 212 yX9_readsRank cX9_readsRank 4 (some .boolean) [.ref 149, .int v1] SH0 SH0 σ r.2 (some (.int r.1)) 0 0 := (X9_reads_ok 200).1 v1 σ r h
