/-! BorrowedWeight.owes(I)I -/
def X8_owes_l37 (N : Nat)  (k93 : Int32 → Int32 → Sg → Option (Int32 × Sg))  : Nat → Int32 → Int32 → Int32 → Sg → Option (Int32 × Sg)
  | 0, _, _, _, _ => none
  | n + 1, v2, v3, v4, σ =>
    if (gi σ 5 1) ≤ v4 then (k93 v2 v3 σ) else (if inb v4 8 = true then if inb v4 8 = true then if inb v2 8 = true then if (gi σ 27 v4.toNatClampNeg) ≤ (gi σ 27 v2.toNatClampNeg) then (X8_owes_l37 N k93 n v2 (v3 + (gi σ 27 v4.toNatClampNeg)) (v4 + 1) σ) else (X8_owes_l37 N k93 n v4 (v3 + (gi σ 27 v4.toNatClampNeg)) (v4 + 1) σ) else none else none else none)
set_option maxRecDepth 100000 in
set_option maxHeartbeats 4000000 in
theorem X8_owes_l37_ok {E : Ev}  {N : Nat} {k93 : Int32 → Int32 → Sg → Option (Int32 × Sg)}  (hk93 : ∀ (v2 : Int32) (v3 : Int32) (σ : Sg) (r : Int32 × Sg), k93 v2 v3 σ = some r → Gp E RX8 cX8_owes (some .int) 5 (6) SH0 r.2 (some (.int r.1)) σ 93 [(0, .ref 0), (2, .int v2), (3, .int v3)] []) : ∀ (n : Nat) (v2 : Int32) (v3 : Int32) (v4 : Int32) (σ : Sg) (r : Int32 × Sg), X8_owes_l37 N k93 n v2 v3 v4 σ = some r → Gp E RX8 cX8_owes (some .int) 5 (6) SH0 r.2 (some (.int r.1)) σ 37 [(0, .ref 0), (2, .int v2), (3, .int v3), (4, .int v4)] [] := by
  intro n
  induction n with
  | zero => intro v2 v3 v4 σ r h; cases h
  | succ n ih =>
    intro v2 v3 v4 σ r h Z C hE
    unfold X8_owes_l37 at h
    refine r_iload (pc' := 39) C dX8_owes_37 rfl 3 rfl ?_
    refine r_aload_n (pc' := 40) C dX8_owes_39 rfl 0 rfl ?_
    refine r_getR (pc' := 43) C flX8_26 sh_0 rfl dX8_owes_40 rfl ?_
    refine r_getI (pc' := 46) C flX8_265 sh_5 rfl dX8_owes_43 rfl ?_
    refine r_icmp_ge (tgt := 93) (pc' := 49) C dX8_owes_46 rfl rfl (fun c6 => ?_) (fun c6 => ?_)
    · rw [if_pos c6] at h
      refine r_sub [0, 1, 2] rfl ?_
      exact hk93 _ _ _ _ h Z C hE
    · rw [if_neg c6] at h
      refine r_iload_n (pc' := 50) C dX8_owes_49 rfl 2 rfl ?_
      refine r_aload_n (pc' := 51) C dX8_owes_50 rfl 0 rfl ?_
      refine r_getR (pc' := 54) C flX8_37 sh_0 rfl dX8_owes_51 rfl ?_
      refine r_getR (pc' := 57) C flX8_157 sh_24 rfl dX8_owes_54 rfl ?_
      refine r_iload (pc' := 59) C dX8_owes_57 rfl 3 rfl ?_
      obtain ⟨q7, h⟩ := ck h
      refine r_iald (pc' := 60) C sh_27 (vin q7) dX8_owes_59 rfl ?_
      refine r_iadd (pc' := 61) C dX8_owes_60 rfl ?_
      refine r_istore_n (pc' := 62) (lv2 := [(3, .int (v3 + (gi σ 27 v4.toNatClampNeg))), (0, .ref 0), (2, .int v2), (4, .int v4)]) C dX8_owes_61 rfl rfl (Nat.le_of_ble_eq_true rfl) rfl ?_
      refine r_aload_n (pc' := 63) C dX8_owes_62 rfl 1 rfl ?_
      refine r_getR (pc' := 66) C flX8_37 sh_0 rfl dX8_owes_63 rfl ?_
      refine r_getR (pc' := 69) C flX8_157 sh_24 rfl dX8_owes_66 rfl ?_
      refine r_iload (pc' := 71) C dX8_owes_69 rfl 3 rfl ?_
      obtain ⟨q8, h⟩ := ck h
      refine r_iald (pc' := 72) C sh_27 (vin q8) dX8_owes_71 rfl ?_
      refine r_aload_n (pc' := 73) C dX8_owes_72 rfl 1 rfl ?_
      refine r_getR (pc' := 76) C flX8_37 sh_0 rfl dX8_owes_73 rfl ?_
      refine r_getR (pc' := 79) C flX8_157 sh_24 rfl dX8_owes_76 rfl ?_
      refine r_iload_n (pc' := 80) C dX8_owes_79 rfl 2 rfl ?_
      obtain ⟨q9, h⟩ := ck h
      refine r_iald (pc' := 81) C sh_27 (vin q9) dX8_owes_80 rfl ?_
      refine r_icmp_le (tgt := 87) (pc' := 84) C dX8_owes_81 rfl rfl (fun c10 => ?_) (fun c10 => ?_)
      · rw [if_pos c10] at h
        refine r_iinc (pc' := 90) (v := v4 + 1) (lv2 := [(4, .int (v4 + 1)), (3, .int (v3 + (gi σ 27 v4.toNatClampNeg))), (0, .ref 0), (2, .int v2)]) C dX8_owes_87 rfl 3 rfl rfl (Nat.le_of_ble_eq_true rfl) rfl ?_
        refine r_goto (tgt := 37) C dX8_owes_90 rfl ?_
        refine r_sub [2, 3, 1, 0] rfl ?_
        exact ih _ _ _ _ _ h Z C hE
      · rw [if_neg c10] at h
        refine r_iload (pc' := 86) C dX8_owes_84 rfl 3 rfl ?_
        refine r_istore_n (pc' := 87) (lv2 := [(2, .int v4), (3, .int (v3 + (gi σ 27 v4.toNatClampNeg))), (0, .ref 0), (4, .int v4)]) C dX8_owes_86 rfl rfl (Nat.le_of_ble_eq_true rfl) rfl ?_
        refine r_iinc (pc' := 90) (v := v4 + 1) (lv2 := [(4, .int (v4 + 1)), (2, .int v4), (3, .int (v3 + (gi σ 27 v4.toNatClampNeg))), (0, .ref 0)]) C dX8_owes_87 rfl 3 rfl rfl (Nat.le_of_ble_eq_true rfl) rfl ?_
        refine r_goto (tgt := 37) C dX8_owes_90 rfl ?_
        refine r_sub [3, 1, 2, 0] rfl ?_
        exact ih _ _ _ _ _ h Z C hE
def X8_owes_j93 (N : Nat)   (v2 : Int32) (v3 : Int32) (σ : Sg) : Option (Int32 × Sg) :=
  if inb v2 8 = true then (X2_tell_ N ((gi σ 27 v2.toNatClampNeg).toInt64) v3.toInt64 σ).bind fun r12 => (some (v2, r12)) else none
set_option maxRecDepth 100000 in
set_option maxHeartbeats 4000000 in
theorem X8_owes_j93_ok {E : Ev}  {N : Nat}    {v2 : Int32} {v3 : Int32} {σ : Sg} {r : Int32 × Sg} (h : X8_owes_j93 N   v2 v3 σ = some r) : Gp E RX8 cX8_owes (some .int) 5 (6) SH0 r.2 (some (.int r.1)) σ 93 [(0, .ref 0), (2, .int v2), (3, .int v3)] [] := by
  intro Z C hE
  unfold X8_owes_j93 at h
  refine r_aload_n (pc' := 94) C dX8_owes_93 rfl 0 rfl ?_
  refine r_getR (pc' := 97) C flX8_19 sh_0 rfl dX8_owes_94 rfl ?_
  refine r_aload_n (pc' := 98) C dX8_owes_97 rfl 0 rfl ?_
  refine r_getR (pc' := 101) C flX8_37 sh_0 rfl dX8_owes_98 rfl ?_
  refine r_getR (pc' := 104) C flX8_157 sh_24 rfl dX8_owes_101 rfl ?_
  refine r_iload_n (pc' := 105) C dX8_owes_104 rfl 1 rfl ?_
  obtain ⟨q11, h⟩ := ck h
  refine r_iald (pc' := 106) C sh_27 (vin q11) dX8_owes_105 rfl ?_
  refine r_i2l (pc' := 107) C dX8_owes_106 rfl rfl ?_
  refine r_iload_n (pc' := 108) C dX8_owes_107 rfl 2 rfl ?_
  refine r_i2l (pc' := 109) C dX8_owes_108 rfl rfl ?_
  obtain ⟨r12, e13, h⟩ := bd h
  refine r_cV0 (pc' := 112) C (X2_tell__ok  e13) mlX8_198 ceX2_tell_ cvX2_tell_ sh_3 rfl rfl rfl (Nat.le_of_ble_eq_true rfl) rfl (Nat.le_of_ble_eq_true rfl) dX8_owes_109 rfl (kk := ?_)
  refine r_iload_n (pc' := 113) C dX8_owes_112 rfl 1 rfl ?_
  have h := Option.some.inj h
  subst h
  exact r_ret C rfl dX8_owes_113 hE
def X8_owes (N : Nat)  (v1 : Int32) (σ : Sg) : Option (Int32 × Sg) :=
  if v1 < 0 then (some ((-1), σ)) else (if v1 ≤ 99 then (if (gi σ 5 1) = 0 then (some ((-2), σ)) else ((X8_foresee N v1 σ).bind fun r4 => (X8_owes_l37 N (fun v2 v3 σ => X8_owes_j93 N v2 v3 σ) N 0 0 0 r4))) else (some ((-1), σ)))
set_option maxRecDepth 100000 in
set_option maxHeartbeats 4000000 in
theorem X8_owes_ok {E : Ev}  {N : Nat} {v1 : Int32} {σ : Sg} {r : Int32 × Sg} (h : X8_owes N  v1 σ = some r) : Cm E (6) yX8_owes cX8_owes 5 (some .int) [.ref 0, .int v1] SH0 SH0 σ r.2 (some (.int r.1)) 0 0 := by
  refine Cm.intro (by decide +kernel) (Nat.le_of_ble_eq_true rfl) (fun _ h => by obtain ⟨_, _, _, _, _, _, h⟩ := h; exact h) (fun Z C hE => ?_)
  show Wm E Z 0 0 SH0 σ 0 [(0, .ref 0), (1, .int v1)] []
  unfold X8_owes at h
  refine r_iload_n (pc' := 1) C dX8_owes_0 rfl 1 rfl ?_
  refine r_if_lt (tgt := 10) (pc' := 4) C dX8_owes_1 rfl rfl (fun c1 => ?_) (fun c1 => ?_)
  · rw [if_pos c1] at h
    refine r_iconst (pc' := 11) C dX8_owes_10 rfl kc_m1 ?_
    have h := Option.some.inj h
    subst h
    exact r_ret C rfl dX8_owes_11 hE
  · rw [if_neg c1] at h
    refine r_iload_n (pc' := 5) C dX8_owes_4 rfl 1 rfl ?_
    refine r_bipush (pc' := 7) C dX8_owes_5 rfl kb_99 ?_
    refine r_icmp_le (tgt := 12) (pc' := 10) C dX8_owes_7 rfl rfl (fun c2 => ?_) (fun c2 => ?_)
    · rw [if_pos c2] at h
      refine r_aload_n (pc' := 13) C dX8_owes_12 rfl 0 rfl ?_
      refine r_getR (pc' := 16) C flX8_26 sh_0 rfl dX8_owes_13 rfl ?_
      refine r_getI (pc' := 19) C flX8_265 sh_5 rfl dX8_owes_16 rfl ?_
      refine r_if_ne (tgt := 25) (pc' := 22) C dX8_owes_19 rfl rfl (fun c3 => ?_) (fun c3 => ?_)
      · rw [if_neg c3] at h
        refine r_aload_n (pc' := 26) C dX8_owes_25 rfl 0 rfl ?_
        refine r_iload_n (pc' := 27) C dX8_owes_26 rfl 1 rfl ?_
        obtain ⟨r4, e5, h⟩ := bd h
        refine r_cV0 (pc' := 30) C (X8_foresee_ok  e5) mlX8_258 ceX8_foresee cvX8_foresee sh_0 rfl rfl rfl (Nat.le_of_ble_eq_true rfl) rfl (Nat.le_of_ble_eq_true rfl) dX8_owes_27 rfl (kk := ?_)
        refine r_iconst (pc' := 31) C dX8_owes_30 rfl kc_0 ?_
        refine r_istore_n (pc' := 32) (lv2 := [(2, .int 0), (0, .ref 0), (1, .int v1)]) C dX8_owes_31 rfl rfl (Nat.le_of_ble_eq_true rfl) rfl ?_
        refine r_iconst (pc' := 33) C dX8_owes_32 rfl kc_0 ?_
        refine r_istore_n (pc' := 34) (lv2 := [(3, .int 0), (2, .int 0), (0, .ref 0), (1, .int v1)]) C dX8_owes_33 rfl rfl (Nat.le_of_ble_eq_true rfl) rfl ?_
        refine r_iconst (pc' := 35) C dX8_owes_34 rfl kc_0 ?_
        refine r_istore (pc' := 37) (lv2 := [(4, .int 0), (3, .int 0), (2, .int 0), (0, .ref 0), (1, .int v1)]) C dX8_owes_35 rfl (Nat.le_of_ble_eq_true rfl) rfl ?_
        refine r_sub [3, 2, 1, 0] rfl ?_
        exact X8_owes_l37_ok  (fun _ _ _ _ h Z C hE => by exact X8_owes_j93_ok  h Z C hE) N _ _ _ _ _ h Z C hE
      · rw [if_pos c3] at h
        refine r_bipush (pc' := 24) C dX8_owes_22 rfl kb_m2 ?_
        have h := Option.some.inj h
        subst h
        exact r_ret C rfl dX8_owes_24 hE
    · rw [if_neg c2] at h
      refine r_iconst (pc' := 11) C dX8_owes_10 rfl kc_m1 ?_
      have h := Option.some.inj h
      subst h
      exact r_ret C rfl dX8_owes_11 hE

/-! BorrowedWeight$Watch.note(III)I -/
def X7_note (N : Nat)  (v1 : Int32) (v2 : Int32) (v3 : Int32) (σ : Sg) : Option (Int32 × Sg) :=
  if (gi σ 128 3) < 10 then (if inb (gi σ 128 3) 10 = true then bnS (wi σ 129 (gi σ 128 3).toNatClampNeg v1) fun σ3 => if inb (gi σ3 128 3) 10 = true then bnS (wi σ3 130 (gi σ3 128 3).toNatClampNeg v2) fun σ6 => if inb (gi σ6 128 3) 10 = true then bnS (wi σ6 131 (gi σ6 128 3).toNatClampNeg v3) fun σ9 => bnS (wi σ9 128 3 ((gi σ9 128 3) + 1)) fun σ11 => some (gi σ11 128 3, σ11) else none else none else none) else (some ((-1), σ))
set_option maxRecDepth 100000 in
set_option maxHeartbeats 4000000 in
theorem X7_note_ok {E : Ev}  {N : Nat} {v1 : Int32} {v2 : Int32} {v3 : Int32} {σ : Sg} {r : Int32 × Sg} (h : X7_note N  v1 v2 v3 σ = some r) : Cm E (0) yX7_note cX7_note 4 (some .int) [.ref 128, .int v1, .int v2, .int v3] SH0 SH0 σ r.2 (some (.int r.1)) 0 0 := by
  refine Cm.intro (by decide +kernel) (Nat.le_of_ble_eq_true rfl) (fun _ h => by obtain ⟨_, _, _, _, _, _, h⟩ := h; exact h) (fun Z C hE => ?_)
  show Wm E Z 0 0 SH0 σ 0 [(0, .ref 128), (1, .int v1), (2, .int v2), (3, .int v3)] []
  unfold X7_note at h
  refine r_aload_n (pc' := 1) C dX7_note_0 rfl 0 rfl ?_
  refine r_getI (pc' := 4) C flX7_26 sh_128 rfl dX7_note_1 rfl ?_
  refine r_bipush (pc' := 6) C dX7_note_4 rfl kb_10 ?_
  refine r_icmp_lt (tgt := 11) (pc' := 9) C dX7_note_6 rfl rfl (fun c1 => ?_) (fun c1 => ?_)
  · rw [if_pos c1] at h
    refine r_aload_n (pc' := 12) C dX7_note_11 rfl 0 rfl ?_
    refine r_getR (pc' := 15) C flX7_11 sh_128 rfl dX7_note_12 rfl ?_
    refine r_aload_n (pc' := 16) C dX7_note_15 rfl 0 rfl ?_
    refine r_getI (pc' := 19) C flX7_26 sh_128 rfl dX7_note_16 rfl ?_
    refine r_iload_n (pc' := 20) C dX7_note_19 rfl 1 rfl ?_
    obtain ⟨q2, h⟩ := ck h
    obtain ⟨σ3, e4, h⟩ := bs h
    refine r_iast (pc' := 21) (σ1 := σ3) C sh_129 (vin q2) dX7_note_20 rfl e4 ?_
    refine r_aload_n (pc' := 22) C dX7_note_21 rfl 0 rfl ?_
    refine r_getR (pc' := 25) C flX7_15 sh_128 rfl dX7_note_22 rfl ?_
    refine r_aload_n (pc' := 26) C dX7_note_25 rfl 0 rfl ?_
    refine r_getI (pc' := 29) C flX7_26 sh_128 rfl dX7_note_26 rfl ?_
    refine r_iload_n (pc' := 30) C dX7_note_29 rfl 2 rfl ?_
    obtain ⟨q5, h⟩ := ck h
    obtain ⟨σ6, e7, h⟩ := bs h
    refine r_iast (pc' := 31) (σ1 := σ6) C sh_130 (vin q5) dX7_note_30 rfl e7 ?_
    refine r_aload_n (pc' := 32) C dX7_note_31 rfl 0 rfl ?_
    refine r_getR (pc' := 35) C flX7_18 sh_128 rfl dX7_note_32 rfl ?_
    refine r_aload_n (pc' := 36) C dX7_note_35 rfl 0 rfl ?_
    refine r_getI (pc' := 39) C flX7_26 sh_128 rfl dX7_note_36 rfl ?_
    refine r_iload_n (pc' := 40) C dX7_note_39 rfl 3 rfl ?_
    obtain ⟨q8, h⟩ := ck h
    obtain ⟨σ9, e10, h⟩ := bs h
    refine r_iast (pc' := 41) (σ1 := σ9) C sh_131 (vin q8) dX7_note_40 rfl e10 ?_
    refine r_aload_n (pc' := 42) C dX7_note_41 rfl 0 rfl ?_
    refine r_dup (pc' := 43) C dX7_note_42 rfl rfl ?_
    refine r_getI (pc' := 46) C flX7_26 sh_128 rfl dX7_note_43 rfl ?_
    refine r_iconst (pc' := 47) C dX7_note_46 rfl kc_1 ?_
    refine r_iadd (pc' := 48) C dX7_note_47 rfl ?_
    obtain ⟨σ11, e12, h⟩ := bs h
    refine r_putI (pc' := 51) (σ1 := σ11) C fpX7_26 sh_128 rfl rfl rfl dX7_note_48 rfl e12 ?_
    refine r_aload_n (pc' := 52) C dX7_note_51 rfl 0 rfl ?_
    refine r_getI (pc' := 55) C flX7_26 sh_128 rfl dX7_note_52 rfl ?_
    have h := Option.some.inj h
    subst h
    exact r_ret C rfl dX7_note_55 hE
  · rw [if_neg c1] at h
    refine r_iconst (pc' := 10) C dX7_note_9 rfl kc_m1 ?_
    have h := Option.some.inj h
    subst h
    exact r_ret C rfl dX7_note_10 hE

/-! BorrowedWeight.seen(III)I -/
def X8_seen (N : Nat)  (v1 : Int32) (v2 : Int32) (v3 : Int32) (σ : Sg) : Option (Int32 × Sg) :=
  (X0_isThing N v1 σ).bind fun r1 => (if r1 = 0 then (some ((-1), σ)) else (if v2 < 0 then (some ((-1), σ)) else (if 20 < v2 then (some ((-1), σ)) else (if v3 < 0 then (some ((-1), σ)) else (if v3 ≤ 1 then ((X7_note N v1 v2 v3 σ).bind fun r8 => (some (r8.1, r8.2))) else (some ((-1), σ)))))))
set_option maxRecDepth 100000 in
set_option maxHeartbeats 4000000 in
theorem X8_seen_ok {E : Ev}  {N : Nat} {v1 : Int32} {v2 : Int32} {v3 : Int32} {σ : Sg} {r : Int32 × Sg} (h : X8_seen N  v1 v2 v3 σ = some r) : Cm E (1) yX8_seen cX8_seen 4 (some .int) [.ref 0, .int v1, .int v2, .int v3] SH0 SH0 σ r.2 (some (.int r.1)) 0 0 := by
  refine Cm.intro (by decide +kernel) (Nat.le_of_ble_eq_true rfl) (fun _ h => by obtain ⟨_, _, _, _, _, _, h⟩ := h; exact h) (fun Z C hE => ?_)
  show Wm E Z 0 0 SH0 σ 0 [(0, .ref 0), (1, .int v1), (2, .int v2), (3, .int v3)] []
  unfold X8_seen at h
  refine r_aload_n (pc' := 1) C dX8_seen_0 rfl 0 rfl ?_
  refine r_getR (pc' := 4) C flX8_26 sh_0 rfl dX8_seen_1 rfl ?_
  refine r_iload_n (pc' := 5) C dX8_seen_4 rfl 1 rfl ?_
  obtain ⟨r1, e2, h⟩ := bd h
  refine r_cV1 (pc' := 8) C (X0_isThing_ok  e2) mlX8_138 ceX0_isThing cvX0_isThing sh_5 rfl rfl rfl (Nat.le_of_ble_eq_true rfl) rfl (Nat.le_of_ble_eq_true rfl) dX8_seen_5 rfl (kk := ?_)
  refine r_if_eq (tgt := 30) (pc' := 11) C dX8_seen_8 rfl rfl (fun c3 => ?_) (fun c3 => ?_)
  · rw [if_pos c3] at h
    refine r_iconst (pc' := 31) C dX8_seen_30 rfl kc_m1 ?_
    have h := Option.some.inj h
    subst h
    exact r_ret C rfl dX8_seen_31 hE
  · rw [if_neg c3] at h
    refine r_iload_n (pc' := 12) C dX8_seen_11 rfl 2 rfl ?_
    refine r_if_lt (tgt := 30) (pc' := 15) C dX8_seen_12 rfl rfl (fun c4 => ?_) (fun c4 => ?_)
    · rw [if_pos c4] at h
      refine r_iconst (pc' := 31) C dX8_seen_30 rfl kc_m1 ?_
      have h := Option.some.inj h
      subst h
      exact r_ret C rfl dX8_seen_31 hE
    · rw [if_neg c4] at h
      refine r_iload_n (pc' := 16) C dX8_seen_15 rfl 2 rfl ?_
      refine r_bipush (pc' := 18) C dX8_seen_16 rfl kb_20 ?_
      refine r_icmp_gt (tgt := 30) (pc' := 21) C dX8_seen_18 rfl rfl (fun c5 => ?_) (fun c5 => ?_)
      · rw [if_pos c5] at h
        refine r_iconst (pc' := 31) C dX8_seen_30 rfl kc_m1 ?_
        have h := Option.some.inj h
        subst h
        exact r_ret C rfl dX8_seen_31 hE
      · rw [if_neg c5] at h
        refine r_iload_n (pc' := 22) C dX8_seen_21 rfl 3 rfl ?_
        refine r_if_lt (tgt := 30) (pc' := 25) C dX8_seen_22 rfl rfl (fun c6 => ?_) (fun c6 => ?_)
        · rw [if_pos c6] at h
          refine r_iconst (pc' := 31) C dX8_seen_30 rfl kc_m1 ?_
          have h := Option.some.inj h
          subst h
          exact r_ret C rfl dX8_seen_31 hE
        · rw [if_neg c6] at h
          refine r_iload_n (pc' := 26) C dX8_seen_25 rfl 3 rfl ?_
          refine r_iconst (pc' := 27) C dX8_seen_26 rfl kc_1 ?_
          refine r_icmp_le (tgt := 32) (pc' := 30) C dX8_seen_27 rfl rfl (fun c7 => ?_) (fun c7 => ?_)
          · rw [if_pos c7] at h
            refine r_aload_n (pc' := 33) C dX8_seen_32 rfl 0 rfl ?_
            refine r_getR (pc' := 36) C flX8_57 sh_0 rfl dX8_seen_33 rfl ?_
            refine r_iload_n (pc' := 37) C dX8_seen_36 rfl 1 rfl ?_
            refine r_iload_n (pc' := 38) C dX8_seen_37 rfl 2 rfl ?_
            refine r_iload_n (pc' := 39) C dX8_seen_38 rfl 3 rfl ?_
            obtain ⟨r8, e9, h⟩ := bd h
            refine r_cV1 (pc' := 42) C (X7_note_ok  e9) mlX8_330 ceX7_note cvX7_note sh_128 rfl rfl rfl (Nat.le_of_ble_eq_true rfl) rfl (Nat.le_of_ble_eq_true rfl) dX8_seen_39 rfl (kk := ?_)
            have h := Option.some.inj h
            subst h
            exact r_ret C rfl dX8_seen_42 hE
          · rw [if_neg c7] at h
            refine r_iconst (pc' := 31) C dX8_seen_30 rfl kc_m1 ?_
            have h := Option.some.inj h
            subst h
            exact r_ret C rfl dX8_seen_31 hE

/-! BorrowedWeight.forget()I -/
def X8_forget (N : Nat)   (σ : Sg) : Option (Int32 × Sg) :=
  bnS (wi σ 128 3 0) fun σ1 => some (gi σ 128 3, σ1)
set_option maxRecDepth 100000 in
set_option maxHeartbeats 4000000 in
theorem X8_forget_ok {E : Ev}  {N : Nat}  {σ : Sg} {r : Int32 × Sg} (h : X8_forget N   σ = some r) : Cm E (0) yX8_forget cX8_forget 2 (some .int) [.ref 0] SH0 SH0 σ r.2 (some (.int r.1)) 0 0 := by
  refine Cm.intro (by decide +kernel) (Nat.le_of_ble_eq_true rfl) (fun _ h => by obtain ⟨_, _, _, _, _, _, h⟩ := h; exact h) (fun Z C hE => ?_)
  show Wm E Z 0 0 SH0 σ 0 [(0, .ref 0)] []
  unfold X8_forget at h
  refine r_aload_n (pc' := 1) C dX8_forget_0 rfl 0 rfl ?_
  refine r_getR (pc' := 4) C flX8_57 sh_0 rfl dX8_forget_1 rfl ?_
  refine r_getI (pc' := 7) C flX8_334 sh_128 rfl dX8_forget_4 rfl ?_
  refine r_istore_n (pc' := 8) (lv2 := [(1, .int (gi σ 128 3)), (0, .ref 0)]) C dX8_forget_7 rfl rfl (Nat.le_of_ble_eq_true rfl) rfl ?_
  refine r_aload_n (pc' := 9) C dX8_forget_8 rfl 1 rfl ?_
  refine r_getR (pc' := 12) C flX8_57 sh_0 rfl dX8_forget_9 rfl ?_
  refine r_iconst (pc' := 13) C dX8_forget_12 rfl kc_0 ?_
  obtain ⟨σ1, e2, h⟩ := bs h
  refine r_putI (pc' := 16) (σ1 := σ1) C fpX8_334 sh_128 rfl rfl rfl dX8_forget_13 rfl e2 ?_
  refine r_iload_n (pc' := 17) C dX8_forget_16 rfl 0 rfl ?_
  have h := Option.some.inj h
  subst h
  exact r_ret C rfl dX8_forget_17 hE

/-! BorrowedWeight$Watch.look(LBorrowedWeight$Land;LBorrowedWeight$State;LBorrowedWeight$State;I)V -/
def X7_look_l45 (N : Nat) (k2 : Nat) (k3 : Nat)   : Nat → Int32 → Int32 → Sg → Option (Sg)
  | 0, _, _, _ => none
  | n + 1, v4, v5, σ =>
    if 20 < v5 then (some σ) else (if inb v4 9 = true then (L132.getD v4.toNatClampNeg none).bind fun p10 => (if isRule ((gi σ 5 2).toNatClampNeg) = true then (X0_floating N k3 ((gi σ 5 2).toNatClampNeg) σ).bind fun r13 => (if isFl p10 = true then if inb v5 21 = true then bnS (wi r13.2 p10 v5.toNatClampNeg r13.1) fun σ16 => if inb v4 9 = true then (L132.getD v4.toNatClampNeg none).bind fun p20 => (if isFl p20 = true then if inb v5 21 = true then (X0_passHour N k3 (gi σ16 p20 v5.toNatClampNeg) σ16).bind fun r24 => (X7_look_l45 N k2 k3 n v4 (v5 + 1) r24.2) else none else none) else none else none else none) else none) else none)
set_option maxRecDepth 100000 in
set_option maxHeartbeats 4000000 in
theorem X7_look_l45_ok {E : Ev} {k2 : Nat} (hk2 : StAt SH0 k2) {k3 : Nat} (hk3 : StAt SH0 k3) {N : Nat}    : ∀ (n : Nat) (v4 : Int32) (v5 : Int32) (σ : Sg) (r : Sg), X7_look_l45 N k2 k3 n v4 v5 σ = some r → Gp E RX7 cX7_look none 6 (4) SH0 r (none) σ 45 [(0, .ref 128), (1, .ref 5), (3, .ref k3), (4, .int v4), (5, .int v5)] [] := by
  intro n
  induction n with
  | zero => intro v4 v5 σ r h; cases h
  | succ n ih =>
    intro v4 v5 σ r h Z C hE
    unfold X7_look_l45 at h
    refine r_iload (pc' := 47) C dX7_look_45 rfl 4 rfl ?_
    refine r_bipush (pc' := 49) C dX7_look_47 rfl kb_20 ?_
    refine r_icmp_gt (tgt := 93) (pc' := 52) C dX7_look_49 rfl rfl (fun c8 => ?_) (fun c8 => ?_)
    · rw [if_pos c8] at h
      have h := Option.some.inj h
      subst h
      exact r_vret C dX7_look_93 hE
    · rw [if_neg c8] at h
      refine r_aload_n (pc' := 53) C dX7_look_52 rfl 0 rfl ?_
      refine r_getR (pc' := 56) C flX7_23 sh_128 rfl dX7_look_53 rfl ?_
      refine r_iload (pc' := 58) C dX7_look_56 rfl 3 rfl ?_
      obtain ⟨q9, h⟩ := ck h
      obtain ⟨p10, e11, h⟩ := bd h
      refine r_aaldA (pc' := 59) (l := L132) C sh_132 (vin q9) e11 dX7_look_58 rfl ?_
      refine r_iload (pc' := 61) C dX7_look_59 rfl 4 rfl ?_
      refine r_aload_n (pc' := 62) C dX7_look_61 rfl 1 rfl ?_
      refine r_aload_n (pc' := 63) C dX7_look_62 rfl 2 rfl ?_
      refine r_aload_n (pc' := 64) C dX7_look_63 rfl 1 rfl ?_
      refine r_getD (pc' := 67) C flX7_42 sh_5 rfl dX7_look_64 rfl ?_
      obtain ⟨q12, h⟩ := ck h
      obtain ⟨r13, e14, h⟩ := bd h
      refine r_cV1 (pc' := 70) C (X0_floating_ok hk3 (ruof q12) e14) mlX7_48 ceX0_floating cvX0_floating sh_5 rfl rfl rfl (Nat.le_of_ble_eq_true rfl) rfl (Nat.le_of_ble_eq_true rfl) dX7_look_67 rfl (kk := ?_)
      obtain ⟨q18, h⟩ := ck h
      obtain ⟨q15, h⟩ := ck h
      obtain ⟨σ16, e17, h⟩ := bs h
      refine r_iast (pc' := 71) (σ1 := σ16) C (fl_at q18) (vin q15) dX7_look_70 rfl e17 ?_
      refine r_aload_n (pc' := 72) C dX7_look_71 rfl 1 rfl ?_
      refine r_aload_n (pc' := 73) C dX7_look_72 rfl 2 rfl ?_
      refine r_aload_n (pc' := 74) C dX7_look_73 rfl 0 rfl ?_
      refine r_getR (pc' := 77) C flX7_23 sh_128 rfl dX7_look_74 rfl ?_
      refine r_iload (pc' := 79) C dX7_look_77 rfl 3 rfl ?_
      obtain ⟨q19, h⟩ := ck h
      obtain ⟨p20, e21, h⟩ := bd h
      refine r_aaldA (pc' := 80) (l := L132) C sh_132 (vin q19) e21 dX7_look_79 rfl ?_
      refine r_iload (pc' := 82) C dX7_look_80 rfl 4 rfl ?_
      obtain ⟨q23, h⟩ := ck h
      obtain ⟨q22, h⟩ := ck h
      refine r_iald (pc' := 83) C (fl_at q23) (vin q22) dX7_look_82 rfl ?_
      obtain ⟨r24, e25, h⟩ := bd h
      refine r_cV1 (pc' := 86) C (X0_passHour_ok hk3 e25) mlX7_51 ceX0_passHour cvX0_passHour sh_5 rfl rfl rfl (Nat.le_of_ble_eq_true rfl) rfl (Nat.le_of_ble_eq_true rfl) dX7_look_83 rfl (kk := ?_)
      refine r_pop (pc' := 87) C dX7_look_86 rfl rfl ?_
      refine r_iinc (pc' := 90) (v := v5 + 1) (lv2 := [(5, .int (v5 + 1)), (0, .ref 128), (1, .ref 5), (3, .ref k3), (4, .int v4)]) C dX7_look_87 rfl 4 rfl rfl (Nat.le_of_ble_eq_true rfl) rfl ?_
      refine r_goto (tgt := 45) C dX7_look_90 rfl ?_
      refine r_sub [1, 2, 3, 4, 0] rfl ?_
      exact ih _ _ _ _ h Z C hE
def X7_look (N : Nat) (k2 : Nat) (k3 : Nat) (v4 : Int32) (σ : Sg) : Option (Sg) :=
  if v4 < 0 then (some σ) else (if v4 ≤ 8 then (bnS (wi σ 128 5 v4) fun σ3 => (X5_become N k3 k2 σ3).bind fun r5 => (if 8 ≤ v4 then (X7_look_l45 N k2 k3 N v4 0 r5) else (if inb v4 8 = true then if inb v4 8 = true then bnS (wi r5 (k3 + 1) v4.toNatClampNeg ((gi r5 (k3 + 1) v4.toNatClampNeg) + 1)) fun σ28 => X7_look_l45 N k2 k3 N v4 0 σ28 else none else none))) else (some σ))
set_option maxRecDepth 100000 in
set_option maxHeartbeats 4000000 in
theorem X7_look_ok {E : Ev} {k2 : Nat} (hk2 : StAt SH0 k2) {k3 : Nat} (hk3 : StAt SH0 k3) {N : Nat} {v4 : Int32} {σ : Sg} {r : Sg} (h : X7_look N k2 k3 v4 σ = some r) : Cm E (4) yX7_look cX7_look 6 none [.ref 128, .ref 5, .ref k2, .ref k3, .int v4] SH0 SH0 σ r (none) 0 0 := by
  refine Cm.intro (by decide +kernel) (Nat.le_of_ble_eq_true rfl) (fun _ h => by obtain ⟨_, _, _, _, _, _, h⟩ := h; exact h) (fun Z C hE => ?_)
  show Wm E Z 0 0 SH0 σ 0 [(0, .ref 128), (1, .ref 5), (2, .ref k2), (3, .ref k3), (4, .int v4)] []
  unfold X7_look at h
  refine r_iload (pc' := 2) C dX7_look_0 rfl 4 rfl ?_
  refine r_if_lt (tgt := 12) (pc' := 5) C dX7_look_2 rfl rfl (fun c1 => ?_) (fun c1 => ?_)
  · rw [if_pos c1] at h
    have h := Option.some.inj h
    subst h
    exact r_vret C dX7_look_12 hE
  · rw [if_neg c1] at h
    refine r_iload (pc' := 7) C dX7_look_5 rfl 4 rfl ?_
    refine r_bipush (pc' := 9) C dX7_look_7 rfl kb_8 ?_
    refine r_icmp_le (tgt := 13) (pc' := 12) C dX7_look_9 rfl rfl (fun c2 => ?_) (fun c2 => ?_)
    · rw [if_pos c2] at h
      refine r_aload_n (pc' := 14) C dX7_look_13 rfl 0 rfl ?_
      refine r_iload (pc' := 16) C dX7_look_14 rfl 4 rfl ?_
      obtain ⟨σ3, e4, h⟩ := bs h
      refine r_putI (pc' := 19) (σ1 := σ3) C fpX7_30 sh_128 rfl rfl rfl dX7_look_16 rfl e4 ?_
      refine r_aload_n (pc' := 20) C dX7_look_19 rfl 3 rfl ?_
      refine r_aload_n (pc' := 21) C dX7_look_20 rfl 2 rfl ?_
      obtain ⟨r5, e6, h⟩ := bd h
      refine r_cV0 (pc' := 24) C (X5_become_ok hk3 hk2 e6) mlX7_33 ceX5_become cvX5_become (st0 hk3) rfl rfl rfl (Nat.le_of_ble_eq_true rfl) rfl (Nat.le_of_ble_eq_true rfl) dX7_look_21 rfl (kk := ?_)
      refine r_iload (pc' := 26) C dX7_look_24 rfl 4 rfl ?_
      refine r_bipush (pc' := 28) C dX7_look_26 rfl kb_8 ?_
      refine r_icmp_ge (tgt := 42) (pc' := 31) C dX7_look_28 rfl rfl (fun c7 => ?_) (fun c7 => ?_)
      · rw [if_pos c7] at h
        refine r_iconst (pc' := 43) C dX7_look_42 rfl kc_0 ?_
        refine r_istore (pc' := 45) (lv2 := [(5, .int 0), (0, .ref 128), (1, .ref 5), (2, .ref k2), (3, .ref k3), (4, .int v4)]) C dX7_look_43 rfl (Nat.le_of_ble_eq_true rfl) rfl ?_
        refine r_sub [1, 2, 4, 5, 0] rfl ?_
        exact X7_look_l45_ok hk2 hk3 N _ _ _ _ h Z C hE
      · rw [if_neg c7] at h
        refine r_aload_n (pc' := 32) C dX7_look_31 rfl 3 rfl ?_
        refine r_getR (pc' := 35) C flX7_39 (st0 hk3) rfl dX7_look_32 rfl ?_
        refine r_iload (pc' := 37) C dX7_look_35 rfl 4 rfl ?_
        refine r_dup2 (pc' := 38) C dX7_look_37 rfl rfl rfl ?_
        obtain ⟨q26, h⟩ := ck h
        refine r_iald (pc' := 39) C (st1 hk3) (vin q26) dX7_look_38 rfl ?_
        refine r_iconst (pc' := 40) C dX7_look_39 rfl kc_1 ?_
        refine r_iadd (pc' := 41) C dX7_look_40 rfl ?_
        obtain ⟨q27, h⟩ := ck h
        obtain ⟨σ28, e29, h⟩ := bs h
        refine r_iast (pc' := 42) (σ1 := σ28) C (st1 hk3) (vin q27) dX7_look_41 rfl e29 ?_
        refine r_iconst (pc' := 43) C dX7_look_42 rfl kc_0 ?_
        refine r_istore (pc' := 45) (lv2 := [(5, .int 0), (0, .ref 128), (1, .ref 5), (2, .ref k2), (3, .ref k3), (4, .int v4)]) C dX7_look_43 rfl (Nat.le_of_ble_eq_true rfl) rfl ?_
        refine r_sub [1, 2, 4, 5, 0] rfl ?_
        exact X7_look_l45_ok hk2 hk3 N _ _ _ _ h Z C hE
    · rw [if_neg c2] at h
      have h := Option.some.inj h
      subst h
      exact r_vret C dX7_look_12 hE

/-! BorrowedWeight$Watch.agrees()Z -/
def X7_agrees_l2 (N : Nat)   (σ : Sg) : Nat → Int32 → Option (Int32)
  | 0, _ => none
  | n + 1, v1 =>
    if (gi σ 128 3) ≤ v1 then (some 1) else (if inb (gi σ 128 5) 9 = true then (L132.getD (gi σ 128 5).toNatClampNeg none).bind fun p3 => (if inb v1 10 = true then if isFl p3 = true then if inb (gi σ 130 v1.toNatClampNeg) 21 = true then if inb v1 10 = true then if inb v1 10 = true then if (((gi σ p3 (gi σ 130 v1.toNatClampNeg).toNatClampNeg) >>> ((gi σ 129 v1.toNatClampNeg) &&& 31)) &&& 1) = (gi σ 131 v1.toNatClampNeg) then (X7_agrees_l2 N σ n (v1 + 1)) else (some 0) else none else none else none else none else none) else none)
set_option maxRecDepth 100000 in
set_option maxHeartbeats 4000000 in
theorem X7_agrees_l2_ok {E : Ev}  {N : Nat}  {σ : Sg}  : ∀ (n : Nat) (v1 : Int32) (r : Int32), X7_agrees_l2 N σ n v1 = some r → Gp E RX7 cX7_agrees (some .boolean) 3 (0) SH0 σ (some (.int r)) σ 2 [(0, .ref 128), (1, .int v1)] [] := by
  intro n
  induction n with
  | zero => intro v1 r h; cases h
  | succ n ih =>
    intro v1 r h Z C hE
    unfold X7_agrees_l2 at h
    refine r_iload_n (pc' := 3) C dX7_agrees_2 rfl 1 rfl ?_
    refine r_aload_n (pc' := 4) C dX7_agrees_3 rfl 0 rfl ?_
    refine r_getI (pc' := 7) C flX7_26 sh_128 rfl dX7_agrees_4 rfl ?_
    refine r_icmp_ge (tgt := 54) (pc' := 10) C dX7_agrees_7 rfl rfl (fun c1 => ?_) (fun c1 => ?_)
    · rw [if_pos c1] at h
      refine r_iconst (pc' := 55) C dX7_agrees_54 rfl kc_1 ?_
      have h := Option.some.inj h
      subst h
      exact r_ret C rfl dX7_agrees_55 hE
    · rw [if_neg c1] at h
      refine r_aload_n (pc' := 11) C dX7_agrees_10 rfl 0 rfl ?_
      refine r_getR (pc' := 14) C flX7_23 sh_128 rfl dX7_agrees_11 rfl ?_
      refine r_aload_n (pc' := 15) C dX7_agrees_14 rfl 0 rfl ?_
      refine r_getI (pc' := 18) C flX7_30 sh_128 rfl dX7_agrees_15 rfl ?_
      obtain ⟨q2, h⟩ := ck h
      obtain ⟨p3, e4, h⟩ := bd h
      refine r_aaldA (pc' := 19) (l := L132) C sh_132 (vin q2) e4 dX7_agrees_18 rfl ?_
      refine r_aload_n (pc' := 20) C dX7_agrees_19 rfl 0 rfl ?_
      refine r_getR (pc' := 23) C flX7_15 sh_128 rfl dX7_agrees_20 rfl ?_
      refine r_iload_n (pc' := 24) C dX7_agrees_23 rfl 1 rfl ?_
      obtain ⟨q5, h⟩ := ck h
      refine r_iald (pc' := 25) C sh_130 (vin q5) dX7_agrees_24 rfl ?_
      obtain ⟨q7, h⟩ := ck h
      obtain ⟨q6, h⟩ := ck h
      refine r_iald (pc' := 26) C (fl_at q7) (vin q6) dX7_agrees_25 rfl ?_
      refine r_aload_n (pc' := 27) C dX7_agrees_26 rfl 0 rfl ?_
      refine r_getR (pc' := 30) C flX7_11 sh_128 rfl dX7_agrees_27 rfl ?_
      refine r_iload_n (pc' := 31) C dX7_agrees_30 rfl 1 rfl ?_
      obtain ⟨q8, h⟩ := ck h
      refine r_iald (pc' := 32) C sh_129 (vin q8) dX7_agrees_31 rfl ?_
      refine r_ishr (pc' := 33) C dX7_agrees_32 rfl ?_
      refine r_iconst (pc' := 34) C dX7_agrees_33 rfl kc_1 ?_
      refine r_iand (pc' := 35) C dX7_agrees_34 rfl ?_
      refine r_istore_n (pc' := 36) (lv2 := [(2, .int (((gi σ p3 (gi σ 130 v1.toNatClampNeg).toNatClampNeg) >>> ((gi σ 129 v1.toNatClampNeg) &&& 31)) &&& 1)), (0, .ref 128), (1, .int v1)]) C dX7_agrees_35 rfl rfl (Nat.le_of_ble_eq_true rfl) rfl ?_
      refine r_iload_n (pc' := 37) C dX7_agrees_36 rfl 0 rfl ?_
      refine r_aload_n (pc' := 38) C dX7_agrees_37 rfl 1 rfl ?_
      refine r_getR (pc' := 41) C flX7_18 sh_128 rfl dX7_agrees_38 rfl ?_
      refine r_iload_n (pc' := 42) C dX7_agrees_41 rfl 2 rfl ?_
      obtain ⟨q9, h⟩ := ck h
      refine r_iald (pc' := 43) C sh_131 (vin q9) dX7_agrees_42 rfl ?_
      refine r_icmp_eq (tgt := 48) (pc' := 46) C dX7_agrees_43 rfl rfl (fun c10 => ?_) (fun c10 => ?_)
      · rw [if_pos c10] at h
        refine r_iinc (pc' := 51) (v := v1 + 1) (lv2 := [(1, .int (v1 + 1)), (2, .int (((gi σ p3 (gi σ 130 v1.toNatClampNeg).toNatClampNeg) >>> ((gi σ 129 v1.toNatClampNeg) &&& 31)) &&& 1)), (0, .ref 128)]) C dX7_agrees_48 rfl 2 rfl rfl (Nat.le_of_ble_eq_true rfl) rfl ?_
        refine r_goto (tgt := 2) C dX7_agrees_51 rfl ?_
        refine r_sub [2, 0] rfl ?_
        exact ih _ _ h Z C hE
      · rw [if_neg c10] at h
        refine r_iconst (pc' := 47) C dX7_agrees_46 rfl kc_0 ?_
        have h := Option.some.inj h
        subst h
        exact r_ret C rfl dX7_agrees_47 hE
def X7_agrees (N : Nat)   (σ : Sg) : Option (Int32) :=
  X7_agrees_l2 N σ N 0
set_option maxRecDepth 100000 in
set_option maxHeartbeats 4000000 in
theorem X7_agrees_ok {E : Ev}  {N : Nat}  {σ : Sg} {r : Int32} (h : X7_agrees N   σ = some r) : Cm E (0) yX7_agrees cX7_agrees 3 (some .boolean) [.ref 128] SH0 SH0 σ σ (some (.int r)) 0 0 := by
  refine Cm.intro (by decide +kernel) (Nat.le_of_ble_eq_true rfl) (fun _ h => by obtain ⟨_, _, _, _, _, _, h⟩ := h; exact h) (fun Z C hE => ?_)
  show Wm E Z 0 0 SH0 σ 0 [(0, .ref 128)] []
  unfold X7_agrees at h
  refine r_iconst (pc' := 1) C dX7_agrees_0 rfl kc_0 ?_
  refine r_istore_n (pc' := 2) (lv2 := [(1, .int 0), (0, .ref 128)]) C dX7_agrees_1 rfl rfl (Nat.le_of_ble_eq_true rfl) rfl ?_
  refine r_sub [1, 0] rfl ?_
  exact X7_agrees_l2_ok  N _ _ h Z C hE

/-! BorrowedWeight.fittingThings()I -/
def X8_fittingThings_l4 (N : Nat)    : Nat → Int32 → Int32 → Sg → Option (Int32 × Sg)
  | 0, _, _, _ => none
  | n + 1, v1, v2, σ =>
    if (gi σ 5 1) ≤ v2 then (some (v1, σ)) else ((X5_isGone N 19 v2 σ).bind fun r2 => (if r2 = 0 then ((X7_look N 19 24 v2 σ).bind fun r5 => ((X7_agrees N r5).bind fun r7 => (if r7 = 0 then (X8_fittingThings_l4 N n v1 (v2 + 1) r5) else (X8_fittingThings_l4 N n (v1 ||| (1 <<< (v2 &&& 31))) (v2 + 1) r5)))) else (X8_fittingThings_l4 N n v1 (v2 + 1) σ)))
set_option maxRecDepth 100000 in
set_option maxHeartbeats 4000000 in
theorem X8_fittingThings_l4_ok {E : Ev}  {N : Nat}    : ∀ (n : Nat) (v1 : Int32) (v2 : Int32) (σ : Sg) (r : Int32 × Sg), X8_fittingThings_l4 N n v1 v2 σ = some r → Gp E RX8 cX8_fittingThings (some .int) 3 (5) SH0 r.2 (some (.int r.1)) σ 4 [(0, .ref 0), (1, .int v1), (2, .int v2)] [] := by
  intro n
  induction n with
  | zero => intro v1 v2 σ r h; cases h
  | succ n ih =>
    intro v1 v2 σ r h Z C hE
    unfold X8_fittingThings_l4 at h
    refine r_iload_n (pc' := 5) C dX8_fittingThings_4 rfl 2 rfl ?_
    refine r_aload_n (pc' := 6) C dX8_fittingThings_5 rfl 0 rfl ?_
    refine r_getR (pc' := 9) C flX8_26 sh_0 rfl dX8_fittingThings_6 rfl ?_
    refine r_getI (pc' := 12) C flX8_265 sh_5 rfl dX8_fittingThings_9 rfl ?_
    refine r_icmp_ge (tgt := 68) (pc' := 15) C dX8_fittingThings_12 rfl rfl (fun c1 => ?_) (fun c1 => ?_)
    · rw [if_pos c1] at h
      refine r_iload_n (pc' := 69) C dX8_fittingThings_68 rfl 1 rfl ?_
      have h := Option.some.inj h
      subst h
      exact r_ret C rfl dX8_fittingThings_69 hE
    · rw [if_neg c1] at h
      refine r_aload_n (pc' := 16) C dX8_fittingThings_15 rfl 0 rfl ?_
      refine r_getR (pc' := 19) C flX8_33 sh_0 rfl dX8_fittingThings_16 rfl ?_
      refine r_iload_n (pc' := 20) C dX8_fittingThings_19 rfl 2 rfl ?_
      obtain ⟨r2, e3, h⟩ := bd h
      refine r_cV1 (pc' := 23) C (X5_isGone_ok stc_19 e3) mlX8_160 ceX5_isGone cvX5_isGone sh_19 rfl rfl rfl (Nat.le_of_ble_eq_true rfl) rfl (Nat.le_of_ble_eq_true rfl) dX8_fittingThings_20 rfl (kk := ?_)
      refine r_if_ne (tgt := 62) (pc' := 26) C dX8_fittingThings_23 rfl rfl (fun c4 => ?_) (fun c4 => ?_)
      · rw [if_neg c4] at h
        refine r_iinc (pc' := 65) (v := v2 + 1) (lv2 := [(2, .int (v2 + 1)), (0, .ref 0), (1, .int v1)]) C dX8_fittingThings_62 rfl 2 rfl rfl (Nat.le_of_ble_eq_true rfl) rfl ?_
        refine r_goto (tgt := 4) C dX8_fittingThings_65 rfl ?_
        refine r_sub [1, 2, 0] rfl ?_
        exact ih _ _ _ _ h Z C hE
      · rw [if_pos c4] at h
        refine r_aload_n (pc' := 27) C dX8_fittingThings_26 rfl 0 rfl ?_
        refine r_getR (pc' := 30) C flX8_57 sh_0 rfl dX8_fittingThings_27 rfl ?_
        refine r_aload_n (pc' := 31) C dX8_fittingThings_30 rfl 0 rfl ?_
        refine r_getR (pc' := 34) C flX8_26 sh_0 rfl dX8_fittingThings_31 rfl ?_
        refine r_aload_n (pc' := 35) C dX8_fittingThings_34 rfl 0 rfl ?_
        refine r_getR (pc' := 38) C flX8_33 sh_0 rfl dX8_fittingThings_35 rfl ?_
        refine r_aload_n (pc' := 39) C dX8_fittingThings_38 rfl 0 rfl ?_
        refine r_getR (pc' := 42) C flX8_37 sh_0 rfl dX8_fittingThings_39 rfl ?_
        refine r_iload_n (pc' := 43) C dX8_fittingThings_42 rfl 2 rfl ?_
        obtain ⟨r5, e6, h⟩ := bd h
        refine r_cV0 (pc' := 46) C (X7_look_ok stc_19 stc_24 e6) mlX8_340 ceX7_look cvX7_look sh_128 rfl rfl rfl (Nat.le_of_ble_eq_true rfl) rfl (Nat.le_of_ble_eq_true rfl) dX8_fittingThings_43 rfl (kk := ?_)
        refine r_aload_n (pc' := 47) C dX8_fittingThings_46 rfl 0 rfl ?_
        refine r_getR (pc' := 50) C flX8_57 sh_0 rfl dX8_fittingThings_47 rfl ?_
        obtain ⟨r7, e8, h⟩ := bd h
        refine r_cV1 (pc' := 53) C (X7_agrees_ok  e8) mlX8_344 ceX7_agrees cvX7_agrees sh_128 rfl rfl rfl (Nat.le_of_ble_eq_true rfl) rfl (Nat.le_of_ble_eq_true rfl) dX8_fittingThings_50 rfl (kk := ?_)
        refine r_if_eq (tgt := 62) (pc' := 56) C dX8_fittingThings_53 rfl rfl (fun c9 => ?_) (fun c9 => ?_)
        · rw [if_pos c9] at h
          refine r_iinc (pc' := 65) (v := v2 + 1) (lv2 := [(2, .int (v2 + 1)), (0, .ref 0), (1, .int v1)]) C dX8_fittingThings_62 rfl 2 rfl rfl (Nat.le_of_ble_eq_true rfl) rfl ?_
          refine r_goto (tgt := 4) C dX8_fittingThings_65 rfl ?_
          refine r_sub [1, 2, 0] rfl ?_
          exact ih _ _ _ _ h Z C hE
        · rw [if_neg c9] at h
          refine r_iload_n (pc' := 57) C dX8_fittingThings_56 rfl 1 rfl ?_
          refine r_iconst (pc' := 58) C dX8_fittingThings_57 rfl kc_1 ?_
          refine r_iload_n (pc' := 59) C dX8_fittingThings_58 rfl 2 rfl ?_
          refine r_ishl (pc' := 60) C dX8_fittingThings_59 rfl ?_
          refine r_ior (pc' := 61) C dX8_fittingThings_60 rfl ?_
          refine r_istore_n (pc' := 62) (lv2 := [(1, .int (v1 ||| (1 <<< (v2 &&& 31)))), (0, .ref 0), (2, .int v2)]) C dX8_fittingThings_61 rfl rfl (Nat.le_of_ble_eq_true rfl) rfl ?_
          refine r_iinc (pc' := 65) (v := v2 + 1) (lv2 := [(2, .int (v2 + 1)), (1, .int (v1 ||| (1 <<< (v2 &&& 31)))), (0, .ref 0)]) C dX8_fittingThings_62 rfl 2 rfl rfl (Nat.le_of_ble_eq_true rfl) rfl ?_
          refine r_goto (tgt := 4) C dX8_fittingThings_65 rfl ?_
          refine r_sub [2, 1, 0] rfl ?_
          exact ih _ _ _ _ h Z C hE
def X8_fittingThings (N : Nat)   (σ : Sg) : Option (Int32 × Sg) :=
  X8_fittingThings_l4 N N 0 0 σ
set_option maxRecDepth 100000 in
set_option maxHeartbeats 4000000 in
theorem X8_fittingThings_ok {E : Ev}  {N : Nat}  {σ : Sg} {r : Int32 × Sg} (h : X8_fittingThings N   σ = some r) : Cm E (5) yX8_fittingThings cX8_fittingThings 3 (some .int) [.ref 0] SH0 SH0 σ r.2 (some (.int r.1)) 0 0 := by
  refine Cm.intro (by decide +kernel) (Nat.le_of_ble_eq_true rfl) (fun _ h => by obtain ⟨_, _, _, _, _, _, h⟩ := h; exact h) (fun Z C hE => ?_)
  show Wm E Z 0 0 SH0 σ 0 [(0, .ref 0)] []
  unfold X8_fittingThings at h
  refine r_iconst (pc' := 1) C dX8_fittingThings_0 rfl kc_0 ?_
  refine r_istore_n (pc' := 2) (lv2 := [(1, .int 0), (0, .ref 0)]) C dX8_fittingThings_1 rfl rfl (Nat.le_of_ble_eq_true rfl) rfl ?_
  refine r_iconst (pc' := 3) C dX8_fittingThings_2 rfl kc_0 ?_
  refine r_istore_n (pc' := 4) (lv2 := [(2, .int 0), (1, .int 0), (0, .ref 0)]) C dX8_fittingThings_3 rfl rfl (Nat.le_of_ble_eq_true rfl) rfl ?_
  refine r_sub [2, 1, 0] rfl ?_
  exact X8_fittingThings_l4_ok  N _ _ _ _ h Z C hE

/-! BorrowedWeight.fits()I -/
def X8_fits (N : Nat)   (σ : Sg) : Option (Int32 × Sg) :=
  (X8_fittingThings N σ).bind fun r1 => ((X7_look N 19 24 8 r1.2).bind fun r3 => ((J6_bitCount_0f7a4 N r1.1 r3).bind fun r5 => ((X7_agrees N r3).bind fun r7 => (if r7 = 0 then ((X2_tell_ N r5.toInt64 0 r3).bind fun r10 => (some (r1.1, r10))) else ((X2_tell_ N r5.toInt64 1 r3).bind fun r12 => (some (r1.1, r12)))))))
set_option maxRecDepth 100000 in
set_option maxHeartbeats 4000000 in
theorem X8_fits_ok {E : Ev}  {N : Nat}  {σ : Sg} {r : Int32 × Sg} (h : X8_fits N   σ = some r) : Cm E (6) yX8_fits cX8_fits 2 (some .int) [.ref 0] SH0 SH0 σ r.2 (some (.int r.1)) 0 0 := by
  refine Cm.intro (by decide +kernel) (Nat.le_of_ble_eq_true rfl) (fun _ h => by obtain ⟨_, _, _, _, _, _, h⟩ := h; exact h) (fun Z C hE => ?_)
  show Wm E Z 0 0 SH0 σ 0 [(0, .ref 0)] []
  unfold X8_fits at h
  refine r_aload_n (pc' := 1) C dX8_fits_0 rfl 0 rfl ?_
  obtain ⟨r1, e2, h⟩ := bd h
  refine r_cV1 (pc' := 4) C (X8_fittingThings_ok  e2) mlX8_337 ceX8_fittingThings cvX8_fittingThings sh_0 rfl rfl rfl (Nat.le_of_ble_eq_true rfl) rfl (Nat.le_of_ble_eq_true rfl) dX8_fits_1 rfl (kk := ?_)
  refine r_istore_n (pc' := 5) (lv2 := [(1, .int r1.1), (0, .ref 0)]) C dX8_fits_4 rfl rfl (Nat.le_of_ble_eq_true rfl) rfl ?_
  refine r_aload_n (pc' := 6) C dX8_fits_5 rfl 1 rfl ?_
  refine r_getR (pc' := 9) C flX8_57 sh_0 rfl dX8_fits_6 rfl ?_
  refine r_aload_n (pc' := 10) C dX8_fits_9 rfl 1 rfl ?_
  refine r_getR (pc' := 13) C flX8_26 sh_0 rfl dX8_fits_10 rfl ?_
  refine r_aload_n (pc' := 14) C dX8_fits_13 rfl 1 rfl ?_
  refine r_getR (pc' := 17) C flX8_33 sh_0 rfl dX8_fits_14 rfl ?_
  refine r_aload_n (pc' := 18) C dX8_fits_17 rfl 1 rfl ?_
  refine r_getR (pc' := 21) C flX8_37 sh_0 rfl dX8_fits_18 rfl ?_
  refine r_bipush (pc' := 23) C dX8_fits_21 rfl kb_8 ?_
  obtain ⟨r3, e4, h⟩ := bd h
  refine r_cV0 (pc' := 26) C (X7_look_ok stc_19 stc_24 e4) mlX8_340 ceX7_look cvX7_look sh_128 rfl rfl rfl (Nat.le_of_ble_eq_true rfl) rfl (Nat.le_of_ble_eq_true rfl) dX8_fits_23 rfl (kk := ?_)
  refine r_aload_n (pc' := 27) C dX8_fits_26 rfl 1 rfl ?_
  refine r_getR (pc' := 30) C flX8_19 sh_0 rfl dX8_fits_27 rfl ?_
  refine r_iload_n (pc' := 31) C dX8_fits_30 rfl 0 rfl ?_
  obtain ⟨r5, e6, h⟩ := bd h
  refine r_cS1 (pc' := 34) C (J6_bitCount_0f7a4_ok  e6) mlX8_189 ceJ6_bitCount_0f7a4 csJ6_bitCount_0f7a4 rfl (Nat.le_of_ble_eq_true rfl) rfl (Nat.le_of_ble_eq_true rfl) dX8_fits_31 rfl (kk := ?_)
  refine r_i2l (pc' := 35) C dX8_fits_34 rfl rfl ?_
  refine r_aload_n (pc' := 36) C dX8_fits_35 rfl 1 rfl ?_
  refine r_getR (pc' := 39) C flX8_57 sh_0 rfl dX8_fits_36 rfl ?_
  obtain ⟨r7, e8, h⟩ := bd h
  refine r_cV1 (pc' := 42) C (X7_agrees_ok  e8) mlX8_344 ceX7_agrees cvX7_agrees sh_128 rfl rfl rfl (Nat.le_of_ble_eq_true rfl) rfl (Nat.le_of_ble_eq_true rfl) dX8_fits_39 rfl (kk := ?_)
  refine r_if_eq (tgt := 49) (pc' := 45) C dX8_fits_42 rfl rfl (fun c9 => ?_) (fun c9 => ?_)
  · rw [if_pos c9] at h
    refine r_lconst (pc' := 50) C dX8_fits_49 rfl kl_0 ?_
    obtain ⟨r10, e11, h⟩ := bd h
    refine r_cV0 (pc' := 53) C (X2_tell__ok  e11) mlX8_198 ceX2_tell_ cvX2_tell_ sh_3 rfl rfl rfl (Nat.le_of_ble_eq_true rfl) rfl (Nat.le_of_ble_eq_true rfl) dX8_fits_50 rfl (kk := ?_)
    refine r_iload_n (pc' := 54) C dX8_fits_53 rfl 0 rfl ?_
    have h := Option.some.inj h
    subst h
    exact r_ret C rfl dX8_fits_54 hE
  · rw [if_neg c9] at h
    refine r_lconst (pc' := 46) C dX8_fits_45 rfl kl_1 ?_
    refine r_goto (tgt := 50) C dX8_fits_46 rfl ?_
    obtain ⟨r12, e13, h⟩ := bd h
    refine r_cV0 (pc' := 53) C (X2_tell__ok  e13) mlX8_198 ceX2_tell_ cvX2_tell_ sh_3 rfl rfl rfl (Nat.le_of_ble_eq_true rfl) rfl (Nat.le_of_ble_eq_true rfl) dX8_fits_50 rfl (kk := ?_)
    refine r_iload_n (pc' := 54) C dX8_fits_53 rfl 0 rfl ?_
    have h := Option.some.inj h
    subst h
    exact r_ret C rfl dX8_fits_54 hE

/-! BorrowedWeight$Watch.countFloating(III)I -/
def X7_countFloating_l6 (N : Nat)   (σ : Sg) : Nat → Int32 → Int32 → Int32 → Int32 → Int32 → Option (Int32)
  | 0, _, _, _, _, _ => none
  | n + 1, v1, v2, v3, v4, v5 =>
    if 8 ≤ v5 then (some v4) else (if ((v1 >>> (v5 &&& 31)) &&& 1) = 1 then (if inb v5 9 = true then (L132.getD v5.toNatClampNeg none).bind fun p4 => (if isFl p4 = true then if inb v3 21 = true then X7_countFloating_l6 N σ n v1 v2 v3 (v4 + (((gi σ p4 v3.toNatClampNeg) >>> (v2 &&& 31)) &&& 1)) (v5 + 1) else none else none) else none) else (X7_countFloating_l6 N σ n v1 v2 v3 v4 (v5 + 1)))
set_option maxRecDepth 100000 in
set_option maxHeartbeats 4000000 in
theorem X7_countFloating_l6_ok {E : Ev}  {N : Nat}  {σ : Sg}  : ∀ (n : Nat) (v1 : Int32) (v2 : Int32) (v3 : Int32) (v4 : Int32) (v5 : Int32) (r : Int32), X7_countFloating_l6 N σ n v1 v2 v3 v4 v5 = some r → Gp E RX7 cX7_countFloating (some .int) 6 (0) SH0 σ (some (.int r)) σ 6 [(0, .ref 128), (1, .int v1), (2, .int v2), (3, .int v3), (4, .int v4), (5, .int v5)] [] := by
  intro n
  induction n with
  | zero => intro v1 v2 v3 v4 v5 r h; cases h
  | succ n ih =>
    intro v1 v2 v3 v4 v5 r h Z C hE
    unfold X7_countFloating_l6 at h
    refine r_iload (pc' := 8) C dX7_countFloating_6 rfl 5 rfl ?_
    refine r_bipush (pc' := 10) C dX7_countFloating_8 rfl kb_8 ?_
    refine r_icmp_ge (tgt := 47) (pc' := 13) C dX7_countFloating_10 rfl rfl (fun c1 => ?_) (fun c1 => ?_)
    · rw [if_pos c1] at h
      refine r_iload (pc' := 49) C dX7_countFloating_47 rfl 4 rfl ?_
      have h := Option.some.inj h
      subst h
      exact r_ret C rfl dX7_countFloating_49 hE
    · rw [if_neg c1] at h
      refine r_iload_n (pc' := 14) C dX7_countFloating_13 rfl 1 rfl ?_
      refine r_iload (pc' := 16) C dX7_countFloating_14 rfl 5 rfl ?_
      refine r_ishr (pc' := 17) C dX7_countFloating_16 rfl ?_
      refine r_iconst (pc' := 18) C dX7_countFloating_17 rfl kc_1 ?_
      refine r_iand (pc' := 19) C dX7_countFloating_18 rfl ?_
      refine r_iconst (pc' := 20) C dX7_countFloating_19 rfl kc_1 ?_
      refine r_icmp_ne (tgt := 41) (pc' := 23) C dX7_countFloating_20 rfl rfl (fun c2 => ?_) (fun c2 => ?_)
      · rw [if_neg c2] at h
        refine r_iinc (pc' := 44) (v := v5 + 1) (lv2 := [(5, .int (v5 + 1)), (0, .ref 128), (1, .int v1), (2, .int v2), (3, .int v3), (4, .int v4)]) C dX7_countFloating_41 rfl 5 rfl rfl (Nat.le_of_ble_eq_true rfl) rfl ?_
        refine r_goto (tgt := 6) C dX7_countFloating_44 rfl ?_
        refine r_sub [1, 2, 3, 4, 5, 0] rfl ?_
        exact ih _ _ _ _ _ _ h Z C hE
      · rw [if_pos c2] at h
        refine r_iload (pc' := 25) C dX7_countFloating_23 rfl 4 rfl ?_
        refine r_aload_n (pc' := 26) C dX7_countFloating_25 rfl 0 rfl ?_
        refine r_getR (pc' := 29) C flX7_23 sh_128 rfl dX7_countFloating_26 rfl ?_
        refine r_iload (pc' := 31) C dX7_countFloating_29 rfl 5 rfl ?_
        obtain ⟨q3, h⟩ := ck h
        obtain ⟨p4, e5, h⟩ := bd h
        refine r_aaldA (pc' := 32) (l := L132) C sh_132 (vin q3) e5 dX7_countFloating_31 rfl ?_
        refine r_iload_n (pc' := 33) C dX7_countFloating_32 rfl 3 rfl ?_
        obtain ⟨q7, h⟩ := ck h
        obtain ⟨q6, h⟩ := ck h
        refine r_iald (pc' := 34) C (fl_at q7) (vin q6) dX7_countFloating_33 rfl ?_
        refine r_iload_n (pc' := 35) C dX7_countFloating_34 rfl 2 rfl ?_
        refine r_ishr (pc' := 36) C dX7_countFloating_35 rfl ?_
        refine r_iconst (pc' := 37) C dX7_countFloating_36 rfl kc_1 ?_
        refine r_iand (pc' := 38) C dX7_countFloating_37 rfl ?_
        refine r_iadd (pc' := 39) C dX7_countFloating_38 rfl ?_
        refine r_istore (pc' := 41) (lv2 := [(4, .int (v4 + (((gi σ p4 v3.toNatClampNeg) >>> (v2 &&& 31)) &&& 1))), (0, .ref 128), (1, .int v1), (2, .int v2), (3, .int v3), (5, .int v5)]) C dX7_countFloating_39 rfl (Nat.le_of_ble_eq_true rfl) rfl ?_
        refine r_iinc (pc' := 44) (v := v5 + 1) (lv2 := [(5, .int (v5 + 1)), (4, .int (v4 + (((gi σ p4 v3.toNatClampNeg) >>> (v2 &&& 31)) &&& 1))), (0, .ref 128), (1, .int v1), (2, .int v2), (3, .int v3)]) C dX7_countFloating_41 rfl 5 rfl rfl (Nat.le_of_ble_eq_true rfl) rfl ?_
        refine r_goto (tgt := 6) C dX7_countFloating_44 rfl ?_
        refine r_sub [2, 3, 4, 5, 1, 0] rfl ?_
        exact ih _ _ _ _ _ _ h Z C hE
def X7_countFloating (N : Nat)  (v1 : Int32) (v2 : Int32) (v3 : Int32) (σ : Sg) : Option (Int32) :=
  X7_countFloating_l6 N σ N v1 v2 v3 0 0
set_option maxRecDepth 100000 in
set_option maxHeartbeats 4000000 in
theorem X7_countFloating_ok {E : Ev}  {N : Nat} {v1 : Int32} {v2 : Int32} {v3 : Int32} {σ : Sg} {r : Int32} (h : X7_countFloating N  v1 v2 v3 σ = some r) : Cm E (0) yX7_countFloating cX7_countFloating 6 (some .int) [.ref 128, .int v1, .int v2, .int v3] SH0 SH0 σ σ (some (.int r)) 0 0 := by
  refine Cm.intro (by decide +kernel) (Nat.le_of_ble_eq_true rfl) (fun _ h => by obtain ⟨_, _, _, _, _, _, h⟩ := h; exact h) (fun Z C hE => ?_)
  show Wm E Z 0 0 SH0 σ 0 [(0, .ref 128), (1, .int v1), (2, .int v2), (3, .int v3)] []
  unfold X7_countFloating at h
  refine r_iconst (pc' := 1) C dX7_countFloating_0 rfl kc_0 ?_
  refine r_istore (pc' := 3) (lv2 := [(4, .int 0), (0, .ref 128), (1, .int v1), (2, .int v2), (3, .int v3)]) C dX7_countFloating_1 rfl (Nat.le_of_ble_eq_true rfl) rfl ?_
  refine r_iconst (pc' := 4) C dX7_countFloating_3 rfl kc_0 ?_
  refine r_istore (pc' := 6) (lv2 := [(5, .int 0), (4, .int 0), (0, .ref 128), (1, .int v1), (2, .int v2), (3, .int v3)]) C dX7_countFloating_4 rfl (Nat.le_of_ble_eq_true rfl) rfl ?_
  refine r_sub [2, 3, 4, 5, 1, 0] rfl ?_
  exact X7_countFloating_l6_ok  N _ _ _ _ _ _ h Z C hE

/-! BorrowedWeight.looks()I -/
def X8_looks_l41 (N : Nat)  (k98 : Int32 → Int32 → Int32 → Int32 → Int32 → Sg → Option (Int32 × Sg))  : Nat → Int32 → Int32 → Int32 → Int32 → Int32 → Int32 → Sg → Option (Int32 × Sg)
  | 0, _, _, _, _, _, _, _ => none
  | n + 1, v1, v2, v3, v4, v5, v6, σ =>
    if 20 < v6 then (k98 v1 v2 v3 v4 v5 σ) else ((X7_countFloating N v1 v5 v6 σ).bind fun r10 => ((J9_max_7cf53 N r10 (v2 - r10) σ).bind fun r12 => (if v3 ≤ r12 then (X8_looks_l41 N k98 n v1 v2 v3 v4 v5 (v6 + 1) σ) else (X8_looks_l41 N k98 n v1 v2 r12 ((v5 * 21) + v6) v5 (v6 + 1) σ))))
set_option maxRecDepth 100000 in
set_option maxHeartbeats 4000000 in
theorem X8_looks_l41_ok {E : Ev}  {N : Nat} {k98 : Int32 → Int32 → Int32 → Int32 → Int32 → Sg → Option (Int32 × Sg)}  (hk98 : ∀ (v1 : Int32) (v2 : Int32) (v3 : Int32) (v4 : Int32) (v5 : Int32) (σ : Sg) (r : Int32 × Sg), k98 v1 v2 v3 v4 v5 σ = some r → Gp E RX8 cX8_looks (some .int) 9 (6) SH0 r.2 (some (.int r.1)) σ 98 [(0, .ref 0), (1, .int v1), (2, .int v2), (3, .int v3), (4, .int v4), (5, .int v5)] []) : ∀ (n : Nat) (v1 : Int32) (v2 : Int32) (v3 : Int32) (v4 : Int32) (v5 : Int32) (v6 : Int32) (σ : Sg) (r : Int32 × Sg), X8_looks_l41 N k98 n v1 v2 v3 v4 v5 v6 σ = some r → Gp E RX8 cX8_looks (some .int) 9 (6) SH0 r.2 (some (.int r.1)) σ 41 [(0, .ref 0), (1, .int v1), (2, .int v2), (3, .int v3), (4, .int v4), (5, .int v5), (6, .int v6)] [] := by
  intro n
  induction n with
  | zero => intro v1 v2 v3 v4 v5 v6 σ r h; cases h
  | succ n ih =>
    intro v1 v2 v3 v4 v5 v6 σ r h Z C hE
    unfold X8_looks_l41 at h
    refine r_iload (pc' := 43) C dX8_looks_41 rfl 6 rfl ?_
    refine r_bipush (pc' := 45) C dX8_looks_43 rfl kb_20 ?_
    refine r_icmp_gt (tgt := 98) (pc' := 48) C dX8_looks_45 rfl rfl (fun c9 => ?_) (fun c9 => ?_)
    · rw [if_pos c9] at h
      refine r_sub [0, 1, 2, 3, 4, 5] rfl ?_
      exact hk98 _ _ _ _ _ _ _ h Z C hE
    · rw [if_neg c9] at h
      refine r_aload_n (pc' := 49) C dX8_looks_48 rfl 0 rfl ?_
      refine r_getR (pc' := 52) C flX8_57 sh_0 rfl dX8_looks_49 rfl ?_
      refine r_iload_n (pc' := 53) C dX8_looks_52 rfl 1 rfl ?_
      refine r_iload (pc' := 55) C dX8_looks_53 rfl 5 rfl ?_
      refine r_iload (pc' := 57) C dX8_looks_55 rfl 6 rfl ?_
      obtain ⟨r10, e11, h⟩ := bd h
      refine r_cV1 (pc' := 60) C (X7_countFloating_ok  e11) mlX8_348 ceX7_countFloating cvX7_countFloating sh_128 rfl rfl rfl (Nat.le_of_ble_eq_true rfl) rfl (Nat.le_of_ble_eq_true rfl) dX8_looks_57 rfl (kk := ?_)
      refine r_istore (pc' := 62) (lv2 := [(7, .int r10), (0, .ref 0), (1, .int v1), (2, .int v2), (3, .int v3), (4, .int v4), (5, .int v5), (6, .int v6)]) C dX8_looks_60 rfl (Nat.le_of_ble_eq_true rfl) rfl ?_
      refine r_iload (pc' := 64) C dX8_looks_62 rfl 0 rfl ?_
      refine r_iload_n (pc' := 65) C dX8_looks_64 rfl 3 rfl ?_
      refine r_iload (pc' := 67) C dX8_looks_65 rfl 0 rfl ?_
      refine r_isub (pc' := 68) C dX8_looks_67 rfl ?_
      obtain ⟨r12, e13, h⟩ := bd h
      refine r_cS1 (pc' := 71) C (J9_max_7cf53_ok  e13) mlX8_351 ceJ9_max_7cf53 csJ9_max_7cf53 rfl (Nat.le_of_ble_eq_true rfl) rfl (Nat.le_of_ble_eq_true rfl) dX8_looks_68 rfl (kk := ?_)
      refine r_istore (pc' := 73) (lv2 := [(8, .int r12), (7, .int r10), (0, .ref 0), (1, .int v1), (2, .int v2), (3, .int v3), (4, .int v4), (5, .int v5), (6, .int v6)]) C dX8_looks_71 rfl (Nat.le_of_ble_eq_true rfl) rfl ?_
      refine r_iload (pc' := 75) C dX8_looks_73 rfl 0 rfl ?_
      refine r_iload_n (pc' := 76) C dX8_looks_75 rfl 5 rfl ?_
      refine r_icmp_ge (tgt := 92) (pc' := 79) C dX8_looks_76 rfl rfl (fun c14 => ?_) (fun c14 => ?_)
      · rw [if_pos c14] at h
        refine r_iinc (pc' := 95) (v := v6 + 1) (lv2 := [(6, .int (v6 + 1)), (8, .int r12), (7, .int r10), (0, .ref 0), (1, .int v1), (2, .int v2), (3, .int v3), (4, .int v4), (5, .int v5)]) C dX8_looks_92 rfl 8 rfl rfl (Nat.le_of_ble_eq_true rfl) rfl ?_
        refine r_goto (tgt := 41) C dX8_looks_95 rfl ?_
        refine r_sub [3, 4, 5, 6, 7, 8, 0] rfl ?_
        exact ih _ _ _ _ _ _ _ _ h Z C hE
      · rw [if_neg c14] at h
        refine r_iload (pc' := 81) C dX8_looks_79 rfl 0 rfl ?_
        refine r_istore_n (pc' := 82) (lv2 := [(3, .int r12), (8, .int r12), (7, .int r10), (0, .ref 0), (1, .int v1), (2, .int v2), (4, .int v4), (5, .int v5), (6, .int v6)]) C dX8_looks_81 rfl rfl (Nat.le_of_ble_eq_true rfl) rfl ?_
        refine r_iload (pc' := 84) C dX8_looks_82 rfl 7 rfl ?_
        refine r_bipush (pc' := 86) C dX8_looks_84 rfl kb_21 ?_
        refine r_imul (pc' := 87) C dX8_looks_86 rfl ?_
        refine r_iload (pc' := 89) C dX8_looks_87 rfl 8 rfl ?_
        refine r_iadd (pc' := 90) C dX8_looks_89 rfl ?_
        refine r_istore (pc' := 92) (lv2 := [(4, .int ((v5 * 21) + v6)), (3, .int r12), (8, .int r12), (7, .int r10), (0, .ref 0), (1, .int v1), (2, .int v2), (5, .int v5), (6, .int v6)]) C dX8_looks_90 rfl (Nat.le_of_ble_eq_true rfl) rfl ?_
        refine r_iinc (pc' := 95) (v := v6 + 1) (lv2 := [(6, .int (v6 + 1)), (4, .int ((v5 * 21) + v6)), (3, .int r12), (8, .int r12), (7, .int r10), (0, .ref 0), (1, .int v1), (2, .int v2), (5, .int v5)]) C dX8_looks_92 rfl 8 rfl rfl (Nat.le_of_ble_eq_true rfl) rfl ?_
        refine r_goto (tgt := 41) C dX8_looks_95 rfl ?_
        refine r_sub [5, 6, 7, 2, 1, 8, 0] rfl ?_
        exact ih _ _ _ _ _ _ _ _ h Z C hE
def X8_looks_j98 (N : Nat)  (kr : Int32 → Int32 → Int32 → Int32 → Int32 → Sg → Option (Int32 × Sg)) (v1 : Int32) (v2 : Int32) (v3 : Int32) (v4 : Int32) (v5 : Int32) (σ : Sg) : Option (Int32 × Sg) :=
  kr v1 v2 v3 v4 (v5 + 1) σ
set_option maxRecDepth 100000 in
set_option maxHeartbeats 4000000 in
theorem X8_looks_j98_ok {E : Ev}  {N : Nat} {kr : Int32 → Int32 → Int32 → Int32 → Int32 → Sg → Option (Int32 × Sg)}  (hkr : ∀ (v1 : Int32) (v2 : Int32) (v3 : Int32) (v4 : Int32) (v5 : Int32) (σ : Sg) (r : Int32 × Sg), kr v1 v2 v3 v4 v5 σ = some r → Gp E RX8 cX8_looks (some .int) 9 (6) SH0 r.2 (some (.int r.1)) σ 26 [(0, .ref 0), (1, .int v1), (2, .int v2), (3, .int v3), (4, .int v4), (5, .int v5)] []) {v1 : Int32} {v2 : Int32} {v3 : Int32} {v4 : Int32} {v5 : Int32} {σ : Sg} {r : Int32 × Sg} (h : X8_looks_j98 N  kr v1 v2 v3 v4 v5 σ = some r) : Gp E RX8 cX8_looks (some .int) 9 (6) SH0 r.2 (some (.int r.1)) σ 98 [(0, .ref 0), (1, .int v1), (2, .int v2), (3, .int v3), (4, .int v4), (5, .int v5)] [] := by
  intro Z C hE
  unfold X8_looks_j98 at h
  refine r_iinc (pc' := 101) (v := v5 + 1) (lv2 := [(5, .int (v5 + 1)), (0, .ref 0), (1, .int v1), (2, .int v2), (3, .int v3), (4, .int v4)]) C dX8_looks_98 rfl 5 rfl rfl (Nat.le_of_ble_eq_true rfl) rfl ?_
  refine r_goto (tgt := 26) C dX8_looks_101 rfl ?_
  refine r_sub [1, 2, 3, 4, 5, 0] rfl ?_
  exact hkr _ _ _ _ _ _ _ h Z C hE
def X8_looks_l26 (N : Nat)    : Nat → Int32 → Int32 → Int32 → Int32 → Int32 → Sg → Option (Int32 × Sg)
  | 0, _, _, _, _, _, _ => none
  | n + 1, v1, v2, v3, v4, v5, σ =>
    if (gi σ 5 1) ≤ v5 then ((X2_tell N v3.toInt64 σ).bind fun r7 => (some (v4, r7))) else (X8_looks_l41 N (fun v1 v2 v3 v4 v5 σ => X8_looks_j98 N (fun v1 v2 v3 v4 v5 σ => X8_looks_l26 N n v1 v2 v3 v4 v5 σ) v1 v2 v3 v4 v5 σ) N v1 v2 v3 v4 v5 0 σ)
set_option maxRecDepth 100000 in
set_option maxHeartbeats 4000000 in
theorem X8_looks_l26_ok {E : Ev}  {N : Nat}    : ∀ (n : Nat) (v1 : Int32) (v2 : Int32) (v3 : Int32) (v4 : Int32) (v5 : Int32) (σ : Sg) (r : Int32 × Sg), X8_looks_l26 N n v1 v2 v3 v4 v5 σ = some r → Gp E RX8 cX8_looks (some .int) 9 (6) SH0 r.2 (some (.int r.1)) σ 26 [(0, .ref 0), (1, .int v1), (2, .int v2), (3, .int v3), (4, .int v4), (5, .int v5)] [] := by
  intro n
  induction n with
  | zero => intro v1 v2 v3 v4 v5 σ r h; cases h
  | succ n ih =>
    intro v1 v2 v3 v4 v5 σ r h Z C hE
    unfold X8_looks_l26 at h
    refine r_iload (pc' := 28) C dX8_looks_26 rfl 5 rfl ?_
    refine r_aload_n (pc' := 29) C dX8_looks_28 rfl 0 rfl ?_
    refine r_getR (pc' := 32) C flX8_26 sh_0 rfl dX8_looks_29 rfl ?_
    refine r_getI (pc' := 35) C flX8_265 sh_5 rfl dX8_looks_32 rfl ?_
    refine r_icmp_ge (tgt := 104) (pc' := 38) C dX8_looks_35 rfl rfl (fun c6 => ?_) (fun c6 => ?_)
    · rw [if_pos c6] at h
      refine r_aload_n (pc' := 105) C dX8_looks_104 rfl 0 rfl ?_
      refine r_getR (pc' := 108) C flX8_19 sh_0 rfl dX8_looks_105 rfl ?_
      refine r_iload_n (pc' := 109) C dX8_looks_108 rfl 3 rfl ?_
      refine r_i2l (pc' := 110) C dX8_looks_109 rfl rfl ?_
      obtain ⟨r7, e8, h⟩ := bd h
      refine r_cV0 (pc' := 113) C (X2_tell_ok  e8) mlX8_261 ceX2_tell cvX2_tell sh_3 rfl rfl rfl (Nat.le_of_ble_eq_true rfl) rfl (Nat.le_of_ble_eq_true rfl) dX8_looks_110 rfl (kk := ?_)
      refine r_iload (pc' := 115) C dX8_looks_113 rfl 4 rfl ?_
      have h := Option.some.inj h
      subst h
      exact r_ret C rfl dX8_looks_115 hE
    · rw [if_neg c6] at h
      refine r_iconst (pc' := 39) C dX8_looks_38 rfl kc_0 ?_
      refine r_istore (pc' := 41) (lv2 := [(6, .int 0), (0, .ref 0), (1, .int v1), (2, .int v2), (3, .int v3), (4, .int v4), (5, .int v5)]) C dX8_looks_39 rfl (Nat.le_of_ble_eq_true rfl) rfl ?_
      refine r_sub [1, 2, 3, 4, 5, 6, 0] rfl ?_
      exact X8_looks_l41_ok  (fun _ _ _ _ _ _ _ h Z C hE => by exact X8_looks_j98_ok  ih h Z C hE) N _ _ _ _ _ _ _ _ h Z C hE
def X8_looks (N : Nat)   (σ : Sg) : Option (Int32 × Sg) :=
  (X8_fittingThings N σ).bind fun r1 => ((J6_bitCount_0f7a4 N r1.1 r1.2).bind fun r3 => (if r3 = 0 then (some ((-2), r1.2)) else (X8_looks_l26 N N r1.1 r3 9 0 0 r1.2)))
set_option maxRecDepth 100000 in
set_option maxHeartbeats 4000000 in
theorem X8_looks_ok {E : Ev}  {N : Nat}  {σ : Sg} {r : Int32 × Sg} (h : X8_looks N   σ = some r) : Cm E (6) yX8_looks cX8_looks 9 (some .int) [.ref 0] SH0 SH0 σ r.2 (some (.int r.1)) 0 0 := by
  refine Cm.intro (by decide +kernel) (Nat.le_of_ble_eq_true rfl) (fun _ h => by obtain ⟨_, _, _, _, _, _, h⟩ := h; exact h) (fun Z C hE => ?_)
  show Wm E Z 0 0 SH0 σ 0 [(0, .ref 0)] []
  unfold X8_looks at h
  refine r_aload_n (pc' := 1) C dX8_looks_0 rfl 0 rfl ?_
  obtain ⟨r1, e2, h⟩ := bd h
  refine r_cV1 (pc' := 4) C (X8_fittingThings_ok  e2) mlX8_337 ceX8_fittingThings cvX8_fittingThings sh_0 rfl rfl rfl (Nat.le_of_ble_eq_true rfl) rfl (Nat.le_of_ble_eq_true rfl) dX8_looks_1 rfl (kk := ?_)
  refine r_istore_n (pc' := 5) (lv2 := [(1, .int r1.1), (0, .ref 0)]) C dX8_looks_4 rfl rfl (Nat.le_of_ble_eq_true rfl) rfl ?_
  refine r_iload_n (pc' := 6) C dX8_looks_5 rfl 0 rfl ?_
  obtain ⟨r3, e4, h⟩ := bd h
  refine r_cS1 (pc' := 9) C (J6_bitCount_0f7a4_ok  e4) mlX8_189 ceJ6_bitCount_0f7a4 csJ6_bitCount_0f7a4 rfl (Nat.le_of_ble_eq_true rfl) rfl (Nat.le_of_ble_eq_true rfl) dX8_looks_6 rfl (kk := ?_)
  refine r_istore_n (pc' := 10) (lv2 := [(2, .int r3), (1, .int r1.1), (0, .ref 0)]) C dX8_looks_9 rfl rfl (Nat.le_of_ble_eq_true rfl) rfl ?_
  refine r_iload_n (pc' := 11) C dX8_looks_10 rfl 0 rfl ?_
  refine r_if_ne (tgt := 17) (pc' := 14) C dX8_looks_11 rfl rfl (fun c5 => ?_) (fun c5 => ?_)
  · rw [if_neg c5] at h
    refine r_bipush (pc' := 19) C dX8_looks_17 rfl kb_9 ?_
    refine r_istore_n (pc' := 20) (lv2 := [(3, .int 9), (2, .int r3), (1, .int r1.1), (0, .ref 0)]) C dX8_looks_19 rfl rfl (Nat.le_of_ble_eq_true rfl) rfl ?_
    refine r_iconst (pc' := 21) C dX8_looks_20 rfl kc_0 ?_
    refine r_istore (pc' := 23) (lv2 := [(4, .int 0), (3, .int 9), (2, .int r3), (1, .int r1.1), (0, .ref 0)]) C dX8_looks_21 rfl (Nat.le_of_ble_eq_true rfl) rfl ?_
    refine r_iconst (pc' := 24) C dX8_looks_23 rfl kc_0 ?_
    refine r_istore (pc' := 26) (lv2 := [(5, .int 0), (4, .int 0), (3, .int 9), (2, .int r3), (1, .int r1.1), (0, .ref 0)]) C dX8_looks_24 rfl (Nat.le_of_ble_eq_true rfl) rfl ?_
    refine r_sub [5, 4, 3, 2, 1, 0] rfl ?_
    exact X8_looks_l26_ok  N _ _ _ _ _ _ _ h Z C hE
  · rw [if_pos c5] at h
    refine r_bipush (pc' := 16) C dX8_looks_14 rfl kb_m2 ?_
    have h := Option.some.inj h
    subst h
    exact r_ret C rfl dX8_looks_16 hE

/-! BorrowedWeight.isFewer(II)Z -/
def X8_isFewer (N : Nat)  (v0 : Int32) (v1 : Int32) (σ : Sg) : Option (Int32) :=
  if v1 < 0 then (some 1) else ((J6_bitCount_0f7a4 N v0 σ).bind fun r2 => ((J6_bitCount_0f7a4 N v1 σ).bind fun r4 => (if r4 ≤ r2 then (some 0) else (some 1))))
set_option maxRecDepth 100000 in
set_option maxHeartbeats 4000000 in
theorem X8_isFewer_ok {E : Ev}  {N : Nat} {v0 : Int32} {v1 : Int32} {σ : Sg} {r : Int32} (h : X8_isFewer N  v0 v1 σ = some r) : Cm E (1) yX8_isFewer cX8_isFewer 2 (some .boolean) [.int v0, .int v1] SH0 SH0 σ σ (some (.int r)) 0 0 := by
  refine Cm.intro (by decide +kernel) (Nat.le_of_ble_eq_true rfl) (fun _ h => by obtain ⟨_, _, _, _, _, _, h⟩ := h; exact h) (fun Z C hE => ?_)
  show Wm E Z 0 0 SH0 σ 0 [(0, .int v0), (1, .int v1)] []
  unfold X8_isFewer at h
  refine r_iload_n (pc' := 1) C dX8_isFewer_0 rfl 1 rfl ?_
  refine r_if_lt (tgt := 15) (pc' := 4) C dX8_isFewer_1 rfl rfl (fun c1 => ?_) (fun c1 => ?_)
  · rw [if_pos c1] at h
    refine r_iconst (pc' := 16) C dX8_isFewer_15 rfl kc_1 ?_
    refine r_goto (tgt := 20) C dX8_isFewer_16 rfl ?_
    have h := Option.some.inj h
    subst h
    exact r_ret C rfl dX8_isFewer_20 hE
  · rw [if_neg c1] at h
    refine r_iload_n (pc' := 5) C dX8_isFewer_4 rfl 0 rfl ?_
    obtain ⟨r2, e3, h⟩ := bd h
    refine r_cS1 (pc' := 8) C (J6_bitCount_0f7a4_ok  e3) mlX8_189 ceJ6_bitCount_0f7a4 csJ6_bitCount_0f7a4 rfl (Nat.le_of_ble_eq_true rfl) rfl (Nat.le_of_ble_eq_true rfl) dX8_isFewer_5 rfl (kk := ?_)
    refine r_iload_n (pc' := 9) C dX8_isFewer_8 rfl 1 rfl ?_
    obtain ⟨r4, e5, h⟩ := bd h
    refine r_cS1 (pc' := 12) C (J6_bitCount_0f7a4_ok  e5) mlX8_189 ceJ6_bitCount_0f7a4 csJ6_bitCount_0f7a4 rfl (Nat.le_of_ble_eq_true rfl) rfl (Nat.le_of_ble_eq_true rfl) dX8_isFewer_9 rfl (kk := ?_)
    refine r_icmp_ge (tgt := 19) (pc' := 15) C dX8_isFewer_12 rfl rfl (fun c6 => ?_) (fun c6 => ?_)
    · rw [if_pos c6] at h
      refine r_iconst (pc' := 20) C dX8_isFewer_19 rfl kc_0 ?_
      have h := Option.some.inj h
      subst h
      exact r_ret C rfl dX8_isFewer_20 hE
    · rw [if_neg c6] at h
      refine r_iconst (pc' := 16) C dX8_isFewer_15 rfl kc_1 ?_
      refine r_goto (tgt := 20) C dX8_isFewer_16 rfl ?_
      have h := Option.some.inj h
      subst h
      exact r_ret C rfl dX8_isFewer_20 hE

/-! BorrowedWeight.lifts(I)I -/
def X8_lifts_l17 (N : Nat)  (k56 : Int32 → Sg → Option (Int32 × Sg))  : Nat → Int32 → Int32 → Int32 → Sg → Option (Int32 × Sg)
  | 0, _, _, _, _ => none
  | n + 1, v1, v2, v3, σ =>
    (X0_everything N σ).bind fun r3 => (if r3 < v3 then (k56 v2 σ) else ((X5_stonesOf N 19 v3 σ).bind fun r6 => (if r6 < v1 then (X8_lifts_l17 N k56 n v1 v2 (v3 + 1) σ) else ((X8_isFewer N v3 v2 σ).bind fun r9 => (if r9 = 0 then (X8_lifts_l17 N k56 n v1 v2 (v3 + 1) σ) else (X8_lifts_l17 N k56 n v1 v3 (v3 + 1) σ))))))
set_option maxRecDepth 100000 in
set_option maxHeartbeats 4000000 in
theorem X8_lifts_l17_ok {E : Ev}  {N : Nat} {k56 : Int32 → Sg → Option (Int32 × Sg)}  (hk56 : ∀ (v2 : Int32) (σ : Sg) (r : Int32 × Sg), k56 v2 σ = some r → Gp E RX8 cX8_lifts (some .int) 4 (2) SH0 r.2 (some (.int r.1)) σ 56 [(0, .ref 0), (2, .int v2)] []) : ∀ (n : Nat) (v1 : Int32) (v2 : Int32) (v3 : Int32) (σ : Sg) (r : Int32 × Sg), X8_lifts_l17 N k56 n v1 v2 v3 σ = some r → Gp E RX8 cX8_lifts (some .int) 4 (2) SH0 r.2 (some (.int r.1)) σ 17 [(0, .ref 0), (1, .int v1), (2, .int v2), (3, .int v3)] [] := by
  intro n
  induction n with
  | zero => intro v1 v2 v3 σ r h; cases h
  | succ n ih =>
    intro v1 v2 v3 σ r h Z C hE
    unfold X8_lifts_l17 at h
    refine r_iload_n (pc' := 18) C dX8_lifts_17 rfl 3 rfl ?_
    refine r_aload_n (pc' := 19) C dX8_lifts_18 rfl 0 rfl ?_
    refine r_getR (pc' := 22) C flX8_26 sh_0 rfl dX8_lifts_19 rfl ?_
    obtain ⟨r3, e4, h⟩ := bd h
    refine r_cV1 (pc' := 25) C (X0_everything_ok  e4) mlX8_270 ceX0_everything cvX0_everything sh_5 rfl rfl rfl (Nat.le_of_ble_eq_true rfl) rfl (Nat.le_of_ble_eq_true rfl) dX8_lifts_22 rfl (kk := ?_)
    refine r_icmp_gt (tgt := 56) (pc' := 28) C dX8_lifts_25 rfl rfl (fun c5 => ?_) (fun c5 => ?_)
    · rw [if_pos c5] at h
      refine r_sub [0, 2] rfl ?_
      exact hk56 _ _ _ h Z C hE
    · rw [if_neg c5] at h
      refine r_aload_n (pc' := 29) C dX8_lifts_28 rfl 0 rfl ?_
      refine r_getR (pc' := 32) C flX8_33 sh_0 rfl dX8_lifts_29 rfl ?_
      refine r_iload_n (pc' := 33) C dX8_lifts_32 rfl 3 rfl ?_
      obtain ⟨r6, e7, h⟩ := bd h
      refine r_cV1 (pc' := 36) C (X5_stonesOf_ok stc_19 e7) mlX8_252 ceX5_stonesOf cvX5_stonesOf sh_19 rfl rfl rfl (Nat.le_of_ble_eq_true rfl) rfl (Nat.le_of_ble_eq_true rfl) dX8_lifts_33 rfl (kk := ?_)
      refine r_iload_n (pc' := 37) C dX8_lifts_36 rfl 1 rfl ?_
      refine r_icmp_lt (tgt := 50) (pc' := 40) C dX8_lifts_37 rfl rfl (fun c8 => ?_) (fun c8 => ?_)
      · rw [if_pos c8] at h
        refine r_iinc (pc' := 53) (v := v3 + 1) (lv2 := [(3, .int (v3 + 1)), (0, .ref 0), (1, .int v1), (2, .int v2)]) C dX8_lifts_50 rfl 3 rfl rfl (Nat.le_of_ble_eq_true rfl) rfl ?_
        refine r_goto (tgt := 17) C dX8_lifts_53 rfl ?_
        refine r_sub [1, 2, 3, 0] rfl ?_
        exact ih _ _ _ _ _ h Z C hE
      · rw [if_neg c8] at h
        refine r_iload_n (pc' := 41) C dX8_lifts_40 rfl 3 rfl ?_
        refine r_iload_n (pc' := 42) C dX8_lifts_41 rfl 2 rfl ?_
        obtain ⟨r9, e10, h⟩ := bd h
        refine r_cS1 (pc' := 45) C (X8_isFewer_ok  e10) mlX8_354 ceX8_isFewer csX8_isFewer rfl (Nat.le_of_ble_eq_true rfl) rfl (Nat.le_of_ble_eq_true rfl) dX8_lifts_42 rfl (kk := ?_)
        refine r_if_eq (tgt := 50) (pc' := 48) C dX8_lifts_45 rfl rfl (fun c11 => ?_) (fun c11 => ?_)
        · rw [if_pos c11] at h
          refine r_iinc (pc' := 53) (v := v3 + 1) (lv2 := [(3, .int (v3 + 1)), (0, .ref 0), (1, .int v1), (2, .int v2)]) C dX8_lifts_50 rfl 3 rfl rfl (Nat.le_of_ble_eq_true rfl) rfl ?_
          refine r_goto (tgt := 17) C dX8_lifts_53 rfl ?_
          refine r_sub [1, 2, 3, 0] rfl ?_
          exact ih _ _ _ _ _ h Z C hE
        · rw [if_neg c11] at h
          refine r_iload_n (pc' := 49) C dX8_lifts_48 rfl 3 rfl ?_
          refine r_istore_n (pc' := 50) (lv2 := [(2, .int v3), (0, .ref 0), (1, .int v1), (3, .int v3)]) C dX8_lifts_49 rfl rfl (Nat.le_of_ble_eq_true rfl) rfl ?_
          refine r_iinc (pc' := 53) (v := v3 + 1) (lv2 := [(3, .int (v3 + 1)), (2, .int v3), (0, .ref 0), (1, .int v1)]) C dX8_lifts_50 rfl 3 rfl rfl (Nat.le_of_ble_eq_true rfl) rfl ?_
          refine r_goto (tgt := 17) C dX8_lifts_53 rfl ?_
          refine r_sub [2, 3, 1, 0] rfl ?_
          exact ih _ _ _ _ _ h Z C hE
def X8_lifts_j56 (N : Nat)   (v2 : Int32) (σ : Sg) : Option (Int32 × Sg) :=
  if 0 ≤ v2 then ((X2_tell N v2.toInt64 σ).bind fun r13 => ((J6_bitCount_0f7a4 N v2 r13).bind fun r15 => (some (r15, r13)))) else (some ((-2), σ))
set_option maxRecDepth 100000 in
set_option maxHeartbeats 4000000 in
theorem X8_lifts_j56_ok {E : Ev}  {N : Nat}    {v2 : Int32} {σ : Sg} {r : Int32 × Sg} (h : X8_lifts_j56 N   v2 σ = some r) : Gp E RX8 cX8_lifts (some .int) 4 (2) SH0 r.2 (some (.int r.1)) σ 56 [(0, .ref 0), (2, .int v2)] [] := by
  intro Z C hE
  unfold X8_lifts_j56 at h
  refine r_iload_n (pc' := 57) C dX8_lifts_56 rfl 1 rfl ?_
  refine r_if_ge (tgt := 63) (pc' := 60) C dX8_lifts_57 rfl rfl (fun c12 => ?_) (fun c12 => ?_)
  · rw [if_pos c12] at h
    refine r_aload_n (pc' := 64) C dX8_lifts_63 rfl 0 rfl ?_
    refine r_getR (pc' := 67) C flX8_19 sh_0 rfl dX8_lifts_64 rfl ?_
    refine r_iload_n (pc' := 68) C dX8_lifts_67 rfl 1 rfl ?_
    refine r_i2l (pc' := 69) C dX8_lifts_68 rfl rfl ?_
    obtain ⟨r13, e14, h⟩ := bd h
    refine r_cV0 (pc' := 72) C (X2_tell_ok  e14) mlX8_261 ceX2_tell cvX2_tell sh_3 rfl rfl rfl (Nat.le_of_ble_eq_true rfl) rfl (Nat.le_of_ble_eq_true rfl) dX8_lifts_69 rfl (kk := ?_)
    refine r_iload_n (pc' := 73) C dX8_lifts_72 rfl 1 rfl ?_
    obtain ⟨r15, e16, h⟩ := bd h
    refine r_cS1 (pc' := 76) C (J6_bitCount_0f7a4_ok  e16) mlX8_189 ceJ6_bitCount_0f7a4 csJ6_bitCount_0f7a4 rfl (Nat.le_of_ble_eq_true rfl) rfl (Nat.le_of_ble_eq_true rfl) dX8_lifts_73 rfl (kk := ?_)
    have h := Option.some.inj h
    subst h
    exact r_ret C rfl dX8_lifts_76 hE
  · rw [if_neg c12] at h
    refine r_bipush (pc' := 62) C dX8_lifts_60 rfl kb_m2 ?_
    have h := Option.some.inj h
    subst h
    exact r_ret C rfl dX8_lifts_62 hE
def X8_lifts (N : Nat)  (v1 : Int32) (σ : Sg) : Option (Int32 × Sg) :=
  if v1 < 1 then (some ((-1), σ)) else (if v1 ≤ 72 then (X8_lifts_l17 N (fun v2 σ => X8_lifts_j56 N v2 σ) N v1 (-1) 0 σ) else (some ((-1), σ)))
set_option maxRecDepth 100000 in
set_option maxHeartbeats 4000000 in
theorem X8_lifts_ok {E : Ev}  {N : Nat} {v1 : Int32} {σ : Sg} {r : Int32 × Sg} (h : X8_lifts N  v1 σ = some r) : Cm E (2) yX8_lifts cX8_lifts 4 (some .int) [.ref 0, .int v1] SH0 SH0 σ r.2 (some (.int r.1)) 0 0 := by
  refine Cm.intro (by decide +kernel) (Nat.le_of_ble_eq_true rfl) (fun _ h => by obtain ⟨_, _, _, _, _, _, h⟩ := h; exact h) (fun Z C hE => ?_)
  show Wm E Z 0 0 SH0 σ 0 [(0, .ref 0), (1, .int v1)] []
  unfold X8_lifts at h
  refine r_iload_n (pc' := 1) C dX8_lifts_0 rfl 1 rfl ?_
  refine r_iconst (pc' := 2) C dX8_lifts_1 rfl kc_1 ?_
  refine r_icmp_lt (tgt := 11) (pc' := 5) C dX8_lifts_2 rfl rfl (fun c1 => ?_) (fun c1 => ?_)
  · rw [if_pos c1] at h
    refine r_iconst (pc' := 12) C dX8_lifts_11 rfl kc_m1 ?_
    have h := Option.some.inj h
    subst h
    exact r_ret C rfl dX8_lifts_12 hE
  · rw [if_neg c1] at h
    refine r_iload_n (pc' := 6) C dX8_lifts_5 rfl 1 rfl ?_
    refine r_bipush (pc' := 8) C dX8_lifts_6 rfl kb_72 ?_
    refine r_icmp_le (tgt := 13) (pc' := 11) C dX8_lifts_8 rfl rfl (fun c2 => ?_) (fun c2 => ?_)
    · rw [if_pos c2] at h
      refine r_iconst (pc' := 14) C dX8_lifts_13 rfl kc_m1 ?_
      refine r_istore_n (pc' := 15) (lv2 := [(2, .int (-1)), (0, .ref 0), (1, .int v1)]) C dX8_lifts_14 rfl rfl (Nat.le_of_ble_eq_true rfl) rfl ?_
      refine r_iconst (pc' := 16) C dX8_lifts_15 rfl kc_0 ?_
      refine r_istore_n (pc' := 17) (lv2 := [(3, .int 0), (2, .int (-1)), (0, .ref 0), (1, .int v1)]) C dX8_lifts_16 rfl rfl (Nat.le_of_ble_eq_true rfl) rfl ?_
      refine r_sub [2, 3, 1, 0] rfl ?_
      exact X8_lifts_l17_ok  (fun _ _ _ h Z C hE => by exact X8_lifts_j56_ok  h Z C hE) N _ _ _ _ _ h Z C hE
    · rw [if_neg c2] at h
      refine r_iconst (pc' := 12) C dX8_lifts_11 rfl kc_m1 ?_
      have h := Option.some.inj h
      subst h
      exact r_ret C rfl dX8_lifts_12 hE

/-! BorrowedWeight.just(I)I -/
def X8_just_l19 (N : Nat)  (k65 : Int32 → Int32 → Sg → Option (Int32 × Sg))  : Nat → Int32 → Int32 → Int32 → Int32 → Sg → Option (Int32 × Sg)
  | 0, _, _, _, _, _ => none
  | n + 1, v1, v2, v3, v4, σ =>
    (X0_everything N σ).bind fun r3 => (if r3 < v4 then (k65 v2 v3 σ) else ((X5_stonesOf N 19 v4 σ).bind fun r6 => (if r6 = v1 then ((X8_isFewer N v4 v2 σ).bind fun r9 => (if r9 = 0 then (X8_just_l19 N k65 n v1 v2 (v3 + 1) (v4 + 1) σ) else (X8_just_l19 N k65 n v1 v4 (v3 + 1) (v4 + 1) σ))) else (X8_just_l19 N k65 n v1 v2 v3 (v4 + 1) σ))))
set_option maxRecDepth 100000 in
set_option maxHeartbeats 4000000 in
theorem X8_just_l19_ok {E : Ev}  {N : Nat} {k65 : Int32 → Int32 → Sg → Option (Int32 × Sg)}  (hk65 : ∀ (v2 : Int32) (v3 : Int32) (σ : Sg) (r : Int32 × Sg), k65 v2 v3 σ = some r → Gp E RX8 cX8_just (some .int) 5 (2) SH0 r.2 (some (.int r.1)) σ 65 [(0, .ref 0), (2, .int v2), (3, .int v3)] []) : ∀ (n : Nat) (v1 : Int32) (v2 : Int32) (v3 : Int32) (v4 : Int32) (σ : Sg) (r : Int32 × Sg), X8_just_l19 N k65 n v1 v2 v3 v4 σ = some r → Gp E RX8 cX8_just (some .int) 5 (2) SH0 r.2 (some (.int r.1)) σ 19 [(0, .ref 0), (1, .int v1), (2, .int v2), (3, .int v3), (4, .int v4)] [] := by
  intro n
  induction n with
  | zero => intro v1 v2 v3 v4 σ r h; cases h
  | succ n ih =>
    intro v1 v2 v3 v4 σ r h Z C hE
    unfold X8_just_l19 at h
    refine r_iload (pc' := 21) C dX8_just_19 rfl 4 rfl ?_
    refine r_aload_n (pc' := 22) C dX8_just_21 rfl 0 rfl ?_
    refine r_getR (pc' := 25) C flX8_26 sh_0 rfl dX8_just_22 rfl ?_
    obtain ⟨r3, e4, h⟩ := bd h
    refine r_cV1 (pc' := 28) C (X0_everything_ok  e4) mlX8_270 ceX0_everything cvX0_everything sh_5 rfl rfl rfl (Nat.le_of_ble_eq_true rfl) rfl (Nat.le_of_ble_eq_true rfl) dX8_just_25 rfl (kk := ?_)
    refine r_icmp_gt (tgt := 65) (pc' := 31) C dX8_just_28 rfl rfl (fun c5 => ?_) (fun c5 => ?_)
    · rw [if_pos c5] at h
      refine r_sub [0, 2, 3] rfl ?_
      exact hk65 _ _ _ _ h Z C hE
    · rw [if_neg c5] at h
      refine r_aload_n (pc' := 32) C dX8_just_31 rfl 0 rfl ?_
      refine r_getR (pc' := 35) C flX8_33 sh_0 rfl dX8_just_32 rfl ?_
      refine r_iload (pc' := 37) C dX8_just_35 rfl 4 rfl ?_
      obtain ⟨r6, e7, h⟩ := bd h
      refine r_cV1 (pc' := 40) C (X5_stonesOf_ok stc_19 e7) mlX8_252 ceX5_stonesOf cvX5_stonesOf sh_19 rfl rfl rfl (Nat.le_of_ble_eq_true rfl) rfl (Nat.le_of_ble_eq_true rfl) dX8_just_37 rfl (kk := ?_)
      refine r_iload_n (pc' := 41) C dX8_just_40 rfl 1 rfl ?_
      refine r_icmp_ne (tgt := 59) (pc' := 44) C dX8_just_41 rfl rfl (fun c8 => ?_) (fun c8 => ?_)
      · rw [if_neg c8] at h
        refine r_iinc (pc' := 62) (v := v4 + 1) (lv2 := [(4, .int (v4 + 1)), (0, .ref 0), (1, .int v1), (2, .int v2), (3, .int v3)]) C dX8_just_59 rfl 4 rfl rfl (Nat.le_of_ble_eq_true rfl) rfl ?_
        refine r_goto (tgt := 19) C dX8_just_62 rfl ?_
        refine r_sub [1, 2, 3, 4, 0] rfl ?_
        exact ih _ _ _ _ _ _ h Z C hE
      · rw [if_pos c8] at h
        refine r_iinc (pc' := 47) (v := v3 + 1) (lv2 := [(3, .int (v3 + 1)), (0, .ref 0), (1, .int v1), (2, .int v2), (4, .int v4)]) C dX8_just_44 rfl 3 rfl rfl (Nat.le_of_ble_eq_true rfl) rfl ?_
        refine r_iload (pc' := 49) C dX8_just_47 rfl 4 rfl ?_
        refine r_iload_n (pc' := 50) C dX8_just_49 rfl 3 rfl ?_
        obtain ⟨r9, e10, h⟩ := bd h
        refine r_cS1 (pc' := 53) C (X8_isFewer_ok  e10) mlX8_354 ceX8_isFewer csX8_isFewer rfl (Nat.le_of_ble_eq_true rfl) rfl (Nat.le_of_ble_eq_true rfl) dX8_just_50 rfl (kk := ?_)
        refine r_if_eq (tgt := 59) (pc' := 56) C dX8_just_53 rfl rfl (fun c11 => ?_) (fun c11 => ?_)
        · rw [if_pos c11] at h
          refine r_iinc (pc' := 62) (v := v4 + 1) (lv2 := [(4, .int (v4 + 1)), (3, .int (v3 + 1)), (0, .ref 0), (1, .int v1), (2, .int v2)]) C dX8_just_59 rfl 4 rfl rfl (Nat.le_of_ble_eq_true rfl) rfl ?_
          refine r_goto (tgt := 19) C dX8_just_62 rfl ?_
          refine r_sub [2, 3, 4, 1, 0] rfl ?_
          exact ih _ _ _ _ _ _ h Z C hE
        · rw [if_neg c11] at h
          refine r_iload (pc' := 58) C dX8_just_56 rfl 4 rfl ?_
          refine r_istore_n (pc' := 59) (lv2 := [(2, .int v4), (3, .int (v3 + 1)), (0, .ref 0), (1, .int v1), (4, .int v4)]) C dX8_just_58 rfl rfl (Nat.le_of_ble_eq_true rfl) rfl ?_
          refine r_iinc (pc' := 62) (v := v4 + 1) (lv2 := [(4, .int (v4 + 1)), (2, .int v4), (3, .int (v3 + 1)), (0, .ref 0), (1, .int v1)]) C dX8_just_59 rfl 4 rfl rfl (Nat.le_of_ble_eq_true rfl) rfl ?_
          refine r_goto (tgt := 19) C dX8_just_62 rfl ?_
          refine r_sub [3, 4, 1, 2, 0] rfl ?_
          exact ih _ _ _ _ _ _ h Z C hE
def X8_just_j65 (N : Nat)   (v2 : Int32) (v3 : Int32) (σ : Sg) : Option (Int32 × Sg) :=
  if 0 ≤ v2 then ((X2_tell_ N v2.toInt64 v3.toInt64 σ).bind fun r13 => ((J6_bitCount_0f7a4 N v2 r13).bind fun r15 => (some (r15, r13)))) else (some ((-2), σ))
set_option maxRecDepth 100000 in
set_option maxHeartbeats 4000000 in
theorem X8_just_j65_ok {E : Ev}  {N : Nat}    {v2 : Int32} {v3 : Int32} {σ : Sg} {r : Int32 × Sg} (h : X8_just_j65 N   v2 v3 σ = some r) : Gp E RX8 cX8_just (some .int) 5 (2) SH0 r.2 (some (.int r.1)) σ 65 [(0, .ref 0), (2, .int v2), (3, .int v3)] [] := by
  intro Z C hE
  unfold X8_just_j65 at h
  refine r_iload_n (pc' := 66) C dX8_just_65 rfl 1 rfl ?_
  refine r_if_ge (tgt := 72) (pc' := 69) C dX8_just_66 rfl rfl (fun c12 => ?_) (fun c12 => ?_)
  · rw [if_pos c12] at h
    refine r_aload_n (pc' := 73) C dX8_just_72 rfl 0 rfl ?_
    refine r_getR (pc' := 76) C flX8_19 sh_0 rfl dX8_just_73 rfl ?_
    refine r_iload_n (pc' := 77) C dX8_just_76 rfl 1 rfl ?_
    refine r_i2l (pc' := 78) C dX8_just_77 rfl rfl ?_
    refine r_iload_n (pc' := 79) C dX8_just_78 rfl 2 rfl ?_
    refine r_i2l (pc' := 80) C dX8_just_79 rfl rfl ?_
    obtain ⟨r13, e14, h⟩ := bd h
    refine r_cV0 (pc' := 83) C (X2_tell__ok  e14) mlX8_198 ceX2_tell_ cvX2_tell_ sh_3 rfl rfl rfl (Nat.le_of_ble_eq_true rfl) rfl (Nat.le_of_ble_eq_true rfl) dX8_just_80 rfl (kk := ?_)
    refine r_iload_n (pc' := 84) C dX8_just_83 rfl 1 rfl ?_
    obtain ⟨r15, e16, h⟩ := bd h
    refine r_cS1 (pc' := 87) C (J6_bitCount_0f7a4_ok  e16) mlX8_189 ceJ6_bitCount_0f7a4 csJ6_bitCount_0f7a4 rfl (Nat.le_of_ble_eq_true rfl) rfl (Nat.le_of_ble_eq_true rfl) dX8_just_84 rfl (kk := ?_)
    have h := Option.some.inj h
    subst h
    exact r_ret C rfl dX8_just_87 hE
  · rw [if_neg c12] at h
    refine r_bipush (pc' := 71) C dX8_just_69 rfl kb_m2 ?_
    have h := Option.some.inj h
    subst h
    exact r_ret C rfl dX8_just_71 hE
def X8_just (N : Nat)  (v1 : Int32) (σ : Sg) : Option (Int32 × Sg) :=
  if v1 < 0 then (some ((-1), σ)) else (if v1 ≤ 72 then (X8_just_l19 N (fun v2 v3 σ => X8_just_j65 N v2 v3 σ) N v1 (-1) 0 0 σ) else (some ((-1), σ)))
set_option maxRecDepth 100000 in
set_option maxHeartbeats 4000000 in
theorem X8_just_ok {E : Ev}  {N : Nat} {v1 : Int32} {σ : Sg} {r : Int32 × Sg} (h : X8_just N  v1 σ = some r) : Cm E (2) yX8_just cX8_just 5 (some .int) [.ref 0, .int v1] SH0 SH0 σ r.2 (some (.int r.1)) 0 0 := by
  refine Cm.intro (by decide +kernel) (Nat.le_of_ble_eq_true rfl) (fun _ h => by obtain ⟨_, _, _, _, _, _, h⟩ := h; exact h) (fun Z C hE => ?_)
  show Wm E Z 0 0 SH0 σ 0 [(0, .ref 0), (1, .int v1)] []
  unfold X8_just at h
  refine r_iload_n (pc' := 1) C dX8_just_0 rfl 1 rfl ?_
  refine r_if_lt (tgt := 10) (pc' := 4) C dX8_just_1 rfl rfl (fun c1 => ?_) (fun c1 => ?_)
  · rw [if_pos c1] at h
    refine r_iconst (pc' := 11) C dX8_just_10 rfl kc_m1 ?_
    have h := Option.some.inj h
    subst h
    exact r_ret C rfl dX8_just_11 hE
  · rw [if_neg c1] at h
    refine r_iload_n (pc' := 5) C dX8_just_4 rfl 1 rfl ?_
    refine r_bipush (pc' := 7) C dX8_just_5 rfl kb_72 ?_
    refine r_icmp_le (tgt := 12) (pc' := 10) C dX8_just_7 rfl rfl (fun c2 => ?_) (fun c2 => ?_)
    · rw [if_pos c2] at h
      refine r_iconst (pc' := 13) C dX8_just_12 rfl kc_m1 ?_
      refine r_istore_n (pc' := 14) (lv2 := [(2, .int (-1)), (0, .ref 0), (1, .int v1)]) C dX8_just_13 rfl rfl (Nat.le_of_ble_eq_true rfl) rfl ?_
      refine r_iconst (pc' := 15) C dX8_just_14 rfl kc_0 ?_
      refine r_istore_n (pc' := 16) (lv2 := [(3, .int 0), (2, .int (-1)), (0, .ref 0), (1, .int v1)]) C dX8_just_15 rfl rfl (Nat.le_of_ble_eq_true rfl) rfl ?_
      refine r_iconst (pc' := 17) C dX8_just_16 rfl kc_0 ?_
      refine r_istore (pc' := 19) (lv2 := [(4, .int 0), (3, .int 0), (2, .int (-1)), (0, .ref 0), (1, .int v1)]) C dX8_just_17 rfl (Nat.le_of_ble_eq_true rfl) rfl ?_
      refine r_sub [3, 4, 2, 1, 0] rfl ?_
      exact X8_just_l19_ok  (fun _ _ _ _ h Z C hE => by exact X8_just_j65_ok  h Z C hE) N _ _ _ _ _ _ h Z C hE
    · rw [if_neg c2] at h
      refine r_iconst (pc' := 11) C dX8_just_10 rfl kc_m1 ?_
      have h := Option.some.inj h
      subst h
      exact r_ret C rfl dX8_just_11 hE

/-! java/lang/Math.abs(I)I -/
def J9_abs_0f7a4 (N : Nat)  (v0 : Int32) (σ : Sg) : Option (Int32) :=
  if 0 ≤ v0 then (some v0) else (some (-v0))
set_option maxRecDepth 100000 in
set_option maxHeartbeats 4000000 in
theorem J9_abs_0f7a4_ok {E : Ev} {S : List Sh}  {N : Nat} {v0 : Int32} {σ : Sg} {r : Int32} (h : J9_abs_0f7a4 N  v0 σ = some r) : Cm E (0) yJ9_abs_0f7a4 cJ9_abs_0f7a4 1 (some .int) [.int v0] S S σ σ (some (.int r)) 0 0 := by
  refine Cm.intro (by decide +kernel) (Nat.le_of_ble_eq_true rfl) (fun _ h => by obtain ⟨_, _, _, _, _, _, h⟩ := h; exact h) (fun Z C hE => ?_)
  show Wm E Z 0 0 S σ 0 [(0, .int v0)] []
  unfold J9_abs_0f7a4 at h
  refine r_iload_n (pc' := 1) C dJ9_abs_0f7a4_0 rfl 0 rfl ?_
  refine r_if_ge (tgt := 9) (pc' := 4) C dJ9_abs_0f7a4_1 rfl rfl (fun c1 => ?_) (fun c1 => ?_)
  · rw [if_pos c1] at h
    refine r_iload_n (pc' := 10) C dJ9_abs_0f7a4_9 rfl 0 rfl ?_
    have h := Option.some.inj h
    subst h
    exact r_ret C rfl dJ9_abs_0f7a4_10 hE
  · rw [if_neg c1] at h
    refine r_iload_n (pc' := 5) C dJ9_abs_0f7a4_4 rfl 0 rfl ?_
    refine r_ineg (pc' := 6) C dJ9_abs_0f7a4_5 rfl ?_
    refine r_goto (tgt := 10) C dJ9_abs_0f7a4_6 rfl ?_
    have h := Option.some.inj h
    subst h
    exact r_ret C rfl dJ9_abs_0f7a4_10 hE

/-! BorrowedWeight.evens()I -/
def X8_evens_l22 (N : Nat)  (k70 : Int32 → Int32 → Sg → Option (Int32 × Sg))  : Nat → Int32 → Int32 → Int32 → Int32 → Sg → Option (Int32 × Sg)
  | 0, _, _, _, _, _ => none
  | n + 1, v1, v2, v3, v4, σ =>
    (X0_everything N σ).bind fun r5 => (if r5 < v4 then (k70 v2 v3 σ) else ((X5_stonesOf N 19 v4 σ).bind fun r8 => ((J9_abs_0f7a4 N (v1 - (2 * r8)) σ).bind fun r10 => (if v3 ≤ r10 then (X8_evens_l22 N k70 n v1 v2 v3 (v4 + 1) σ) else (X8_evens_l22 N k70 n v1 v4 r10 (v4 + 1) σ)))))
set_option maxRecDepth 100000 in
set_option maxHeartbeats 4000000 in
theorem X8_evens_l22_ok {E : Ev}  {N : Nat} {k70 : Int32 → Int32 → Sg → Option (Int32 × Sg)}  (hk70 : ∀ (v2 : Int32) (v3 : Int32) (σ : Sg) (r : Int32 × Sg), k70 v2 v3 σ = some r → Gp E RX8 cX8_evens (some .int) 6 (2) SH0 r.2 (some (.int r.1)) σ 70 [(0, .ref 0), (2, .int v2), (3, .int v3)] []) : ∀ (n : Nat) (v1 : Int32) (v2 : Int32) (v3 : Int32) (v4 : Int32) (σ : Sg) (r : Int32 × Sg), X8_evens_l22 N k70 n v1 v2 v3 v4 σ = some r → Gp E RX8 cX8_evens (some .int) 6 (2) SH0 r.2 (some (.int r.1)) σ 22 [(0, .ref 0), (1, .int v1), (2, .int v2), (3, .int v3), (4, .int v4)] [] := by
  intro n
  induction n with
  | zero => intro v1 v2 v3 v4 σ r h; cases h
  | succ n ih =>
    intro v1 v2 v3 v4 σ r h Z C hE
    unfold X8_evens_l22 at h
    refine r_iload (pc' := 24) C dX8_evens_22 rfl 4 rfl ?_
    refine r_aload_n (pc' := 25) C dX8_evens_24 rfl 0 rfl ?_
    refine r_getR (pc' := 28) C flX8_26 sh_0 rfl dX8_evens_25 rfl ?_
    obtain ⟨r5, e6, h⟩ := bd h
    refine r_cV1 (pc' := 31) C (X0_everything_ok  e6) mlX8_270 ceX0_everything cvX0_everything sh_5 rfl rfl rfl (Nat.le_of_ble_eq_true rfl) rfl (Nat.le_of_ble_eq_true rfl) dX8_evens_28 rfl (kk := ?_)
    refine r_icmp_gt (tgt := 70) (pc' := 34) C dX8_evens_31 rfl rfl (fun c7 => ?_) (fun c7 => ?_)
    · rw [if_pos c7] at h
      refine r_sub [0, 2, 3] rfl ?_
      exact hk70 _ _ _ _ h Z C hE
    · rw [if_neg c7] at h
      refine r_iload_n (pc' := 35) C dX8_evens_34 rfl 1 rfl ?_
      refine r_iconst (pc' := 36) C dX8_evens_35 rfl kc_2 ?_
      refine r_aload_n (pc' := 37) C dX8_evens_36 rfl 0 rfl ?_
      refine r_getR (pc' := 40) C flX8_33 sh_0 rfl dX8_evens_37 rfl ?_
      refine r_iload (pc' := 42) C dX8_evens_40 rfl 4 rfl ?_
      obtain ⟨r8, e9, h⟩ := bd h
      refine r_cV1 (pc' := 45) C (X5_stonesOf_ok stc_19 e9) mlX8_252 ceX5_stonesOf cvX5_stonesOf sh_19 rfl rfl rfl (Nat.le_of_ble_eq_true rfl) rfl (Nat.le_of_ble_eq_true rfl) dX8_evens_42 rfl (kk := ?_)
      refine r_imul (pc' := 46) C dX8_evens_45 rfl ?_
      refine r_isub (pc' := 47) C dX8_evens_46 rfl ?_
      obtain ⟨r10, e11, h⟩ := bd h
      refine r_cS1 (pc' := 50) C (J9_abs_0f7a4_ok  e11) mlX8_357 ceJ9_abs_0f7a4 csJ9_abs_0f7a4 rfl (Nat.le_of_ble_eq_true rfl) rfl (Nat.le_of_ble_eq_true rfl) dX8_evens_47 rfl (kk := ?_)
      refine r_istore (pc' := 52) (lv2 := [(5, .int r10), (0, .ref 0), (1, .int v1), (2, .int v2), (3, .int v3), (4, .int v4)]) C dX8_evens_50 rfl (Nat.le_of_ble_eq_true rfl) rfl ?_
      refine r_iload (pc' := 54) C dX8_evens_52 rfl 0 rfl ?_
      refine r_iload_n (pc' := 55) C dX8_evens_54 rfl 4 rfl ?_
      refine r_icmp_ge (tgt := 64) (pc' := 58) C dX8_evens_55 rfl rfl (fun c12 => ?_) (fun c12 => ?_)
      · rw [if_pos c12] at h
        refine r_iinc (pc' := 67) (v := v4 + 1) (lv2 := [(4, .int (v4 + 1)), (5, .int r10), (0, .ref 0), (1, .int v1), (2, .int v2), (3, .int v3)]) C dX8_evens_64 rfl 5 rfl rfl (Nat.le_of_ble_eq_true rfl) rfl ?_
        refine r_goto (tgt := 22) C dX8_evens_67 rfl ?_
        refine r_sub [2, 3, 4, 5, 0] rfl ?_
        exact ih _ _ _ _ _ _ h Z C hE
      · rw [if_neg c12] at h
        refine r_iload (pc' := 60) C dX8_evens_58 rfl 0 rfl ?_
        refine r_istore_n (pc' := 61) (lv2 := [(3, .int r10), (5, .int r10), (0, .ref 0), (1, .int v1), (2, .int v2), (4, .int v4)]) C dX8_evens_60 rfl rfl (Nat.le_of_ble_eq_true rfl) rfl ?_
        refine r_iload (pc' := 63) C dX8_evens_61 rfl 5 rfl ?_
        refine r_istore_n (pc' := 64) (lv2 := [(2, .int v4), (3, .int r10), (5, .int r10), (0, .ref 0), (1, .int v1), (4, .int v4)]) C dX8_evens_63 rfl rfl (Nat.le_of_ble_eq_true rfl) rfl ?_
        refine r_iinc (pc' := 67) (v := v4 + 1) (lv2 := [(4, .int (v4 + 1)), (2, .int v4), (3, .int r10), (5, .int r10), (0, .ref 0), (1, .int v1)]) C dX8_evens_64 rfl 5 rfl rfl (Nat.le_of_ble_eq_true rfl) rfl ?_
        refine r_goto (tgt := 22) C dX8_evens_67 rfl ?_
        refine r_sub [4, 5, 1, 2, 0] rfl ?_
        exact ih _ _ _ _ _ _ h Z C hE
def X8_evens_j70 (N : Nat)   (v2 : Int32) (v3 : Int32) (σ : Sg) : Option (Int32 × Sg) :=
  (X5_stonesOf N 19 v2 σ).bind fun r13 => ((X2_tell_ N v2.toInt64 r13.toInt64 σ).bind fun r15 => (some (v3, r15)))
set_option maxRecDepth 100000 in
set_option maxHeartbeats 4000000 in
theorem X8_evens_j70_ok {E : Ev}  {N : Nat}    {v2 : Int32} {v3 : Int32} {σ : Sg} {r : Int32 × Sg} (h : X8_evens_j70 N   v2 v3 σ = some r) : Gp E RX8 cX8_evens (some .int) 6 (2) SH0 r.2 (some (.int r.1)) σ 70 [(0, .ref 0), (2, .int v2), (3, .int v3)] [] := by
  intro Z C hE
  unfold X8_evens_j70 at h
  refine r_aload_n (pc' := 71) C dX8_evens_70 rfl 0 rfl ?_
  refine r_getR (pc' := 74) C flX8_19 sh_0 rfl dX8_evens_71 rfl ?_
  refine r_iload_n (pc' := 75) C dX8_evens_74 rfl 1 rfl ?_
  refine r_i2l (pc' := 76) C dX8_evens_75 rfl rfl ?_
  refine r_aload_n (pc' := 77) C dX8_evens_76 rfl 0 rfl ?_
  refine r_getR (pc' := 80) C flX8_33 sh_0 rfl dX8_evens_77 rfl ?_
  refine r_iload_n (pc' := 81) C dX8_evens_80 rfl 1 rfl ?_
  obtain ⟨r13, e14, h⟩ := bd h
  refine r_cV1 (pc' := 84) C (X5_stonesOf_ok stc_19 e14) mlX8_252 ceX5_stonesOf cvX5_stonesOf sh_19 rfl rfl rfl (Nat.le_of_ble_eq_true rfl) rfl (Nat.le_of_ble_eq_true rfl) dX8_evens_81 rfl (kk := ?_)
  refine r_i2l (pc' := 85) C dX8_evens_84 rfl rfl ?_
  obtain ⟨r15, e16, h⟩ := bd h
  refine r_cV0 (pc' := 88) C (X2_tell__ok  e16) mlX8_198 ceX2_tell_ cvX2_tell_ sh_3 rfl rfl rfl (Nat.le_of_ble_eq_true rfl) rfl (Nat.le_of_ble_eq_true rfl) dX8_evens_85 rfl (kk := ?_)
  refine r_iload_n (pc' := 89) C dX8_evens_88 rfl 2 rfl ?_
  have h := Option.some.inj h
  subst h
  exact r_ret C rfl dX8_evens_89 hE
def X8_evens (N : Nat)   (σ : Sg) : Option (Int32 × Sg) :=
  (X0_everything N σ).bind fun r1 => ((X5_stonesOf N 19 r1 σ).bind fun r3 => (X8_evens_l22 N (fun v2 v3 σ => X8_evens_j70 N v2 v3 σ) N r3 0 r3 1 σ))
set_option maxRecDepth 100000 in
set_option maxHeartbeats 4000000 in
theorem X8_evens_ok {E : Ev}  {N : Nat}  {σ : Sg} {r : Int32 × Sg} (h : X8_evens N   σ = some r) : Cm E (2) yX8_evens cX8_evens 6 (some .int) [.ref 0] SH0 SH0 σ r.2 (some (.int r.1)) 0 0 := by
  refine Cm.intro (by decide +kernel) (Nat.le_of_ble_eq_true rfl) (fun _ h => by obtain ⟨_, _, _, _, _, _, h⟩ := h; exact h) (fun Z C hE => ?_)
  show Wm E Z 0 0 SH0 σ 0 [(0, .ref 0)] []
  unfold X8_evens at h
  refine r_aload_n (pc' := 1) C dX8_evens_0 rfl 0 rfl ?_
  refine r_getR (pc' := 4) C flX8_33 sh_0 rfl dX8_evens_1 rfl ?_
  refine r_aload_n (pc' := 5) C dX8_evens_4 rfl 0 rfl ?_
  refine r_getR (pc' := 8) C flX8_26 sh_0 rfl dX8_evens_5 rfl ?_
  obtain ⟨r1, e2, h⟩ := bd h
  refine r_cV1 (pc' := 11) C (X0_everything_ok  e2) mlX8_270 ceX0_everything cvX0_everything sh_5 rfl rfl rfl (Nat.le_of_ble_eq_true rfl) rfl (Nat.le_of_ble_eq_true rfl) dX8_evens_8 rfl (kk := ?_)
  obtain ⟨r3, e4, h⟩ := bd h
  refine r_cV1 (pc' := 14) C (X5_stonesOf_ok stc_19 e4) mlX8_252 ceX5_stonesOf cvX5_stonesOf sh_19 rfl rfl rfl (Nat.le_of_ble_eq_true rfl) rfl (Nat.le_of_ble_eq_true rfl) dX8_evens_11 rfl (kk := ?_)
  refine r_istore_n (pc' := 15) (lv2 := [(1, .int r3), (0, .ref 0)]) C dX8_evens_14 rfl rfl (Nat.le_of_ble_eq_true rfl) rfl ?_
  refine r_iconst (pc' := 16) C dX8_evens_15 rfl kc_0 ?_
  refine r_istore_n (pc' := 17) (lv2 := [(2, .int 0), (1, .int r3), (0, .ref 0)]) C dX8_evens_16 rfl rfl (Nat.le_of_ble_eq_true rfl) rfl ?_
  refine r_iload_n (pc' := 18) C dX8_evens_17 rfl 1 rfl ?_
  refine r_istore_n (pc' := 19) (lv2 := [(3, .int r3), (2, .int 0), (1, .int r3), (0, .ref 0)]) C dX8_evens_18 rfl rfl (Nat.le_of_ble_eq_true rfl) rfl ?_
  refine r_iconst (pc' := 20) C dX8_evens_19 rfl kc_1 ?_
  refine r_istore (pc' := 22) (lv2 := [(4, .int 1), (3, .int r3), (2, .int 0), (1, .int r3), (0, .ref 0)]) C dX8_evens_20 rfl (Nat.le_of_ble_eq_true rfl) rfl ?_
  refine r_sub [4, 3, 2, 1, 0] rfl ?_
  exact X8_evens_l22_ok  (fun _ _ _ _ h Z C hE => by exact X8_evens_j70_ok  h Z C hE) N _ _ _ _ _ _ h Z C hE

/-! BorrowedWeight.excessOf(I)I -/
def X8_excessOf (N : Nat)  (v1 : Int32) (σ : Sg) : Option (Int32) :=
  if inb v1 8 = true then if inb v1 8 = true then some ((gi σ 20 v1.toNatClampNeg) - (gi σ 15 v1.toNatClampNeg)) else none else none
set_option maxRecDepth 100000 in
set_option maxHeartbeats 4000000 in
theorem X8_excessOf_ok {E : Ev}  {N : Nat} {v1 : Int32} {σ : Sg} {r : Int32} (h : X8_excessOf N  v1 σ = some r) : Cm E (0) yX8_excessOf cX8_excessOf 2 (some .int) [.ref 0, .int v1] SH0 SH0 σ σ (some (.int r)) 0 0 := by
  refine Cm.intro (by decide +kernel) (Nat.le_of_ble_eq_true rfl) (fun _ h => by obtain ⟨_, _, _, _, _, _, h⟩ := h; exact h) (fun Z C hE => ?_)
  show Wm E Z 0 0 SH0 σ 0 [(0, .ref 0), (1, .int v1)] []
  unfold X8_excessOf at h
  refine r_aload_n (pc' := 1) C dX8_excessOf_0 rfl 0 rfl ?_
  refine r_getR (pc' := 4) C flX8_33 sh_0 rfl dX8_excessOf_1 rfl ?_
  refine r_getR (pc' := 7) C flX8_151 sh_19 rfl dX8_excessOf_4 rfl ?_
  refine r_iload_n (pc' := 8) C dX8_excessOf_7 rfl 1 rfl ?_
  obtain ⟨q1, h⟩ := ck h
  refine r_iald (pc' := 9) C sh_20 (vin q1) dX8_excessOf_8 rfl ?_
  refine r_aload_n (pc' := 10) C dX8_excessOf_9 rfl 0 rfl ?_
  refine r_getR (pc' := 13) C flX8_26 sh_0 rfl dX8_excessOf_10 rfl ?_
  refine r_getR (pc' := 16) C flX8_171 sh_5 rfl dX8_excessOf_13 rfl ?_
  refine r_iload_n (pc' := 17) C dX8_excessOf_16 rfl 1 rfl ?_
  obtain ⟨q2, h⟩ := ck h
  refine r_iald (pc' := 18) C sh_15 (vin q2) dX8_excessOf_17 rfl ?_
  refine r_isub (pc' := 19) C dX8_excessOf_18 rfl ?_
  have h := Option.some.inj h
  subst h
  exact r_ret C rfl dX8_excessOf_19 hE

/-! BorrowedWeight.heaviestOf(I)I -/
def X8_heaviestOf_j42 (N : Nat)  (kr : Int32 → Int32 → Int32 → Int32 → Option (Int32)) (v1 : Int32) (v4 : Int32) (σ : Sg) : Option (Int32) :=
  kr v1 v4 1 (v4 + 1)
set_option maxRecDepth 100000 in
set_option maxHeartbeats 4000000 in
theorem X8_heaviestOf_j42_ok {E : Ev}  {N : Nat} {kr : Int32 → Int32 → Int32 → Int32 → Option (Int32)} {σ : Sg}  (hkr : ∀ (v1 : Int32) (v2 : Int32) (v3 : Int32) (v4 : Int32) (r : Int32), kr v1 v2 v3 v4 = some r → Gp E RX8 cX8_heaviestOf (some .int) 5 (1) SH0 σ (some (.int r)) σ 7 [(0, .ref 0), (1, .int v1), (2, .int v2), (3, .int v3), (4, .int v4)] []) {v1 : Int32} {v4 : Int32} {r : Int32} (h : X8_heaviestOf_j42 N  kr v1 v4 σ = some r) : Gp E RX8 cX8_heaviestOf (some .int) 5 (1) SH0 σ (some (.int r)) σ 42 [(0, .ref 0), (1, .int v1), (4, .int v4)] [] := by
  intro Z C hE
  unfold X8_heaviestOf_j42 at h
  refine r_iload (pc' := 44) C dX8_heaviestOf_42 rfl 2 rfl ?_
  refine r_istore_n (pc' := 45) (lv2 := [(2, .int v4), (0, .ref 0), (1, .int v1), (4, .int v4)]) C dX8_heaviestOf_44 rfl rfl (Nat.le_of_ble_eq_true rfl) rfl ?_
  refine r_iconst (pc' := 46) C dX8_heaviestOf_45 rfl kc_1 ?_
  refine r_istore_n (pc' := 47) (lv2 := [(3, .int 1), (2, .int v4), (0, .ref 0), (1, .int v1), (4, .int v4)]) C dX8_heaviestOf_46 rfl rfl (Nat.le_of_ble_eq_true rfl) rfl ?_
  refine r_iinc (pc' := 50) (v := v4 + 1) (lv2 := [(4, .int (v4 + 1)), (3, .int 1), (2, .int v4), (0, .ref 0), (1, .int v1)]) C dX8_heaviestOf_47 rfl 4 rfl rfl (Nat.le_of_ble_eq_true rfl) rfl ?_
  refine r_goto (tgt := 7) C dX8_heaviestOf_50 rfl ?_
  refine r_sub [3, 4, 2, 1, 0] rfl ?_
  exact hkr _ _ _ _ _ h Z C hE
def X8_heaviestOf_l7 (N : Nat)   (σ : Sg) : Nat → Int32 → Int32 → Int32 → Int32 → Option (Int32)
  | 0, _, _, _, _ => none
  | n + 1, v1, v2, v3, v4 =>
    if 8 ≤ v4 then (some v2) else (if ((v1 >>> (v4 &&& 31)) &&& 1) = 1 then (if v3 = 0 then (X8_heaviestOf_j42 N (fun v1 v2 v3 v4 => X8_heaviestOf_l7 N σ n v1 v2 v3 v4) v1 v4 σ) else ((X8_excessOf N v4 σ).bind fun r4 => ((X8_excessOf N v2 σ).bind fun r6 => (if r4 ≤ r6 then (X8_heaviestOf_l7 N σ n v1 v2 v3 (v4 + 1)) else (X8_heaviestOf_j42 N (fun v1 v2 v3 v4 => X8_heaviestOf_l7 N σ n v1 v2 v3 v4) v1 v4 σ))))) else (X8_heaviestOf_l7 N σ n v1 v2 v3 (v4 + 1)))
set_option maxRecDepth 100000 in
set_option maxHeartbeats 4000000 in
theorem X8_heaviestOf_l7_ok {E : Ev}  {N : Nat}  {σ : Sg}  : ∀ (n : Nat) (v1 : Int32) (v2 : Int32) (v3 : Int32) (v4 : Int32) (r : Int32), X8_heaviestOf_l7 N σ n v1 v2 v3 v4 = some r → Gp E RX8 cX8_heaviestOf (some .int) 5 (1) SH0 σ (some (.int r)) σ 7 [(0, .ref 0), (1, .int v1), (2, .int v2), (3, .int v3), (4, .int v4)] [] := by
  intro n
  induction n with
  | zero => intro v1 v2 v3 v4 r h; cases h
  | succ n ih =>
    intro v1 v2 v3 v4 r h Z C hE
    unfold X8_heaviestOf_l7 at h
    refine r_iload (pc' := 9) C dX8_heaviestOf_7 rfl 4 rfl ?_
    refine r_bipush (pc' := 11) C dX8_heaviestOf_9 rfl kb_8 ?_
    refine r_icmp_ge (tgt := 53) (pc' := 14) C dX8_heaviestOf_11 rfl rfl (fun c1 => ?_) (fun c1 => ?_)
    · rw [if_pos c1] at h
      refine r_iload_n (pc' := 54) C dX8_heaviestOf_53 rfl 2 rfl ?_
      have h := Option.some.inj h
      subst h
      exact r_ret C rfl dX8_heaviestOf_54 hE
    · rw [if_neg c1] at h
      refine r_iload_n (pc' := 15) C dX8_heaviestOf_14 rfl 1 rfl ?_
      refine r_iload (pc' := 17) C dX8_heaviestOf_15 rfl 4 rfl ?_
      refine r_ishr (pc' := 18) C dX8_heaviestOf_17 rfl ?_
      refine r_iconst (pc' := 19) C dX8_heaviestOf_18 rfl kc_1 ?_
      refine r_iand (pc' := 20) C dX8_heaviestOf_19 rfl ?_
      refine r_iconst (pc' := 21) C dX8_heaviestOf_20 rfl kc_1 ?_
      refine r_icmp_ne (tgt := 47) (pc' := 24) C dX8_heaviestOf_21 rfl rfl (fun c2 => ?_) (fun c2 => ?_)
      · rw [if_neg c2] at h
        refine r_iinc (pc' := 50) (v := v4 + 1) (lv2 := [(4, .int (v4 + 1)), (0, .ref 0), (1, .int v1), (2, .int v2), (3, .int v3)]) C dX8_heaviestOf_47 rfl 4 rfl rfl (Nat.le_of_ble_eq_true rfl) rfl ?_
        refine r_goto (tgt := 7) C dX8_heaviestOf_50 rfl ?_
        refine r_sub [1, 2, 3, 4, 0] rfl ?_
        exact ih _ _ _ _ _ h Z C hE
      · rw [if_pos c2] at h
        refine r_iload_n (pc' := 25) C dX8_heaviestOf_24 rfl 3 rfl ?_
        refine r_if_eq (tgt := 42) (pc' := 28) C dX8_heaviestOf_25 rfl rfl (fun c3 => ?_) (fun c3 => ?_)
        · rw [if_pos c3] at h
          refine r_sub [0, 1, 4] rfl ?_
          exact X8_heaviestOf_j42_ok  ih h Z C hE
        · rw [if_neg c3] at h
          refine r_aload_n (pc' := 29) C dX8_heaviestOf_28 rfl 0 rfl ?_
          refine r_iload (pc' := 31) C dX8_heaviestOf_29 rfl 4 rfl ?_
          obtain ⟨r4, e5, h⟩ := bd h
          refine r_cV1 (pc' := 34) C (X8_excessOf_ok  e5) mlX8_440 ceX8_excessOf cvX8_excessOf sh_0 rfl rfl rfl (Nat.le_of_ble_eq_true rfl) rfl (Nat.le_of_ble_eq_true rfl) dX8_heaviestOf_31 rfl (kk := ?_)
          refine r_aload_n (pc' := 35) C dX8_heaviestOf_34 rfl 0 rfl ?_
          refine r_iload_n (pc' := 36) C dX8_heaviestOf_35 rfl 2 rfl ?_
          obtain ⟨r6, e7, h⟩ := bd h
          refine r_cV1 (pc' := 39) C (X8_excessOf_ok  e7) mlX8_440 ceX8_excessOf cvX8_excessOf sh_0 rfl rfl rfl (Nat.le_of_ble_eq_true rfl) rfl (Nat.le_of_ble_eq_true rfl) dX8_heaviestOf_36 rfl (kk := ?_)
          refine r_icmp_le (tgt := 47) (pc' := 42) C dX8_heaviestOf_39 rfl rfl (fun c8 => ?_) (fun c8 => ?_)
          · rw [if_pos c8] at h
            refine r_iinc (pc' := 50) (v := v4 + 1) (lv2 := [(4, .int (v4 + 1)), (0, .ref 0), (1, .int v1), (2, .int v2), (3, .int v3)]) C dX8_heaviestOf_47 rfl 4 rfl rfl (Nat.le_of_ble_eq_true rfl) rfl ?_
            refine r_goto (tgt := 7) C dX8_heaviestOf_50 rfl ?_
            refine r_sub [1, 2, 3, 4, 0] rfl ?_
            exact ih _ _ _ _ _ h Z C hE
          · rw [if_neg c8] at h
            refine r_sub [0, 1, 4] rfl ?_
            exact X8_heaviestOf_j42_ok  ih h Z C hE
def X8_heaviestOf (N : Nat)  (v1 : Int32) (σ : Sg) : Option (Int32) :=
  X8_heaviestOf_l7 N σ N v1 0 0 0
set_option maxRecDepth 100000 in
set_option maxHeartbeats 4000000 in
theorem X8_heaviestOf_ok {E : Ev}  {N : Nat} {v1 : Int32} {σ : Sg} {r : Int32} (h : X8_heaviestOf N  v1 σ = some r) : Cm E (1) yX8_heaviestOf cX8_heaviestOf 5 (some .int) [.ref 0, .int v1] SH0 SH0 σ σ (some (.int r)) 0 0 := by
  refine Cm.intro (by decide +kernel) (Nat.le_of_ble_eq_true rfl) (fun _ h => by obtain ⟨_, _, _, _, _, _, h⟩ := h; exact h) (fun Z C hE => ?_)
  show Wm E Z 0 0 SH0 σ 0 [(0, .ref 0), (1, .int v1)] []
  unfold X8_heaviestOf at h
  refine r_iconst (pc' := 1) C dX8_heaviestOf_0 rfl kc_0 ?_
  refine r_istore_n (pc' := 2) (lv2 := [(2, .int 0), (0, .ref 0), (1, .int v1)]) C dX8_heaviestOf_1 rfl rfl (Nat.le_of_ble_eq_true rfl) rfl ?_
  refine r_iconst (pc' := 3) C dX8_heaviestOf_2 rfl kc_0 ?_
  refine r_istore_n (pc' := 4) (lv2 := [(3, .int 0), (2, .int 0), (0, .ref 0), (1, .int v1)]) C dX8_heaviestOf_3 rfl rfl (Nat.le_of_ble_eq_true rfl) rfl ?_
  refine r_iconst (pc' := 5) C dX8_heaviestOf_4 rfl kc_0 ?_
  refine r_istore (pc' := 7) (lv2 := [(4, .int 0), (3, .int 0), (2, .int 0), (0, .ref 0), (1, .int v1)]) C dX8_heaviestOf_5 rfl (Nat.le_of_ble_eq_true rfl) rfl ?_
  refine r_sub [3, 4, 2, 1, 0] rfl ?_
  exact X8_heaviestOf_l7_ok  N _ _ _ _ _ h Z C hE
