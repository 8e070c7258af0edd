/-! java/lang/Math.min(II)I -/
def J9_min_7cf53 (N : Nat)  (v0 : Int32) (v1 : Int32) (σ : Sg) : Option (Int32) :=
  if v1 < v0 then (some v1) else (some v0)
set_option maxRecDepth 100000 in
set_option maxHeartbeats 4000000 in
theorem J9_min_7cf53_ok {E : Ev} {S : List Sh}  {N : Nat} {v0 : Int32} {v1 : Int32} {σ : Sg} {r : Int32} (h : J9_min_7cf53 N  v0 v1 σ = some r) : Cm E (0) yJ9_min_7cf53 cJ9_min_7cf53 2 (some .int) [.int v0, .int v1] S S σ σ (some (.int r)) 0 0 := by
  refine Cm.intro (by decide +kernel) (Nat.le_of_ble_eq_true rfl) (fun _ h => by obtain ⟨_, _, _, _, _, _, h⟩ := h; exact h) (fun Z C hE => ?_)
  show Wm E Z 0 0 S σ 0 [(0, .int v0), (1, .int v1)] []
  unfold J9_min_7cf53 at h
  refine r_iload_n (pc' := 1) C dJ9_min_7cf53_0 rfl 0 rfl ?_
  refine r_iload_n (pc' := 2) C dJ9_min_7cf53_1 rfl 1 rfl ?_
  refine r_icmp_gt (tgt := 9) (pc' := 5) C dJ9_min_7cf53_2 rfl rfl (fun c1 => ?_) (fun c1 => ?_)
  · rw [if_pos c1] at h
    refine r_iload_n (pc' := 10) C dJ9_min_7cf53_9 rfl 1 rfl ?_
    have h := Option.some.inj h
    subst h
    exact r_ret C rfl dJ9_min_7cf53_10 hE
  · rw [if_neg c1] at h
    refine r_iload_n (pc' := 6) C dJ9_min_7cf53_5 rfl 0 rfl ?_
    refine r_goto (tgt := 10) C dJ9_min_7cf53_6 rfl ?_
    have h := Option.some.inj h
    subst h
    exact r_ret C rfl dJ9_min_7cf53_10 hE

/-! BorrowedWeight$Rule.hold(C)V -/
def X3_hold (N : Nat) (k0 : Nat) (v1 : Int32) (σ : Sg) : Option (Sg) :=
  if 40 ≤ (gi σ k0 4) then (some σ) else (if inb (gi σ k0 4) 40 = true then bnS (wi σ (k0 + 3) (gi σ k0 4).toNatClampNeg (vp_nar .char v1)) fun σ3 => bnS (wi σ3 k0 4 ((gi σ3 k0 4) + 1)) fun σ5 => some σ5 else none)
set_option maxRecDepth 100000 in
set_option maxHeartbeats 4000000 in
theorem X3_hold_ok {E : Ev} {S : List Sh} {k0 : Nat} (hk0 : RuAt S k0) {N : Nat} {v1 : Int32} {σ : Sg} {r : Sg} (h : X3_hold N k0 v1 σ = some r) : Cm E (0) yX3_hold cX3_hold 2 none [.ref k0, .int v1] S S σ r (none) 0 0 := by
  refine Cm.intro (by decide +kernel) (Nat.le_of_ble_eq_true rfl) (fun _ h => by obtain ⟨_, _, _, _, _, _, h⟩ := h; exact h) (fun Z C hE => ?_)
  show Wm E Z 0 0 S σ 0 [(0, .ref k0), (1, .int v1)] []
  unfold X3_hold at h
  refine r_aload_n (pc' := 1) C dX3_hold_0 rfl 0 rfl ?_
  refine r_getI (pc' := 4) C flX3_33 (ru0 hk0) rfl dX3_hold_1 rfl ?_
  refine r_bipush (pc' := 6) C dX3_hold_4 rfl kb_40 ?_
  refine r_icmp_ge (tgt := 29) (pc' := 9) C dX3_hold_6 rfl rfl (fun c1 => ?_) (fun c1 => ?_)
  · rw [if_pos c1] at h
    have h := Option.some.inj h
    subst h
    exact r_vret C dX3_hold_29 hE
  · rw [if_neg c1] at h
    refine r_aload_n (pc' := 10) C dX3_hold_9 rfl 0 rfl ?_
    refine r_getR (pc' := 13) C flX3_18 (ru0 hk0) rfl dX3_hold_10 rfl ?_
    refine r_aload_n (pc' := 14) C dX3_hold_13 rfl 0 rfl ?_
    refine r_getI (pc' := 17) C flX3_33 (ru0 hk0) rfl dX3_hold_14 rfl ?_
    refine r_iload_n (pc' := 18) C dX3_hold_17 rfl 1 rfl ?_
    obtain ⟨q2, h⟩ := ck h
    obtain ⟨σ3, e4, h⟩ := bs h
    refine r_cast (pc' := 19) (σ1 := σ3) C (ru3 hk0) (vin q2) dX3_hold_18 rfl e4 ?_
    refine r_aload_n (pc' := 20) C dX3_hold_19 rfl 0 rfl ?_
    refine r_dup (pc' := 21) C dX3_hold_20 rfl rfl ?_
    refine r_getI (pc' := 24) C flX3_33 (ru0 hk0) rfl dX3_hold_21 rfl ?_
    refine r_iconst (pc' := 25) C dX3_hold_24 rfl kc_1 ?_
    refine r_iadd (pc' := 26) C dX3_hold_25 rfl ?_
    obtain ⟨σ5, e6, h⟩ := bs h
    refine r_putI (pc' := 29) (σ1 := σ5) C fpX3_33 (ru0 hk0) rfl rfl rfl dX3_hold_26 rfl e6 ?_
    have h := Option.some.inj h
    subst h
    exact r_vret C dX3_hold_29 hE

/-! BorrowedWeight$Rule.open()Z -/
def X3_open (N : Nat) (k0 : Nat)  (σ : Sg) : Option (Int32 × Sg) :=
  if (gi σ k0 5) = 4 then (some (0, σ)) else (bnS (wi σ k0 5 ((gi σ k0 5) + 1)) fun σ2 => bnS (wi σ2 k0 6 ((gi σ2 k0 6) &&& ((1 <<< ((gi σ2 k0 5) &&& 31)) ^^^ (-1)))) fun σ4 => (X3_hold N k0 40 σ4).bind fun r6 => (some (1, r6)))
set_option maxRecDepth 100000 in
set_option maxHeartbeats 4000000 in
theorem X3_open_ok {E : Ev} {S : List Sh} {k0 : Nat} (hk0 : RuAt S k0) {N : Nat}  {σ : Sg} {r : Int32 × Sg} (h : X3_open N k0  σ = some r) : Cm E (1) yX3_open cX3_open 1 (some .boolean) [.ref k0] S S σ r.2 (some (.int r.1)) 0 0 := by
  refine Cm.intro (by decide +kernel) (Nat.le_of_ble_eq_true rfl) (fun _ h => by obtain ⟨_, _, _, _, _, _, h⟩ := h; exact h) (fun Z C hE => ?_)
  show Wm E Z 0 0 S σ 0 [(0, .ref k0)] []
  unfold X3_open at h
  refine r_aload_n (pc' := 1) C dX3_open_0 rfl 0 rfl ?_
  refine r_getI (pc' := 4) C flX3_36 (ru0 hk0) rfl dX3_open_1 rfl ?_
  refine r_iconst (pc' := 5) C dX3_open_4 rfl kc_4 ?_
  refine r_icmp_ne (tgt := 10) (pc' := 8) C dX3_open_5 rfl rfl (fun c1 => ?_) (fun c1 => ?_)
  · rw [if_neg c1] at h
    refine r_aload_n (pc' := 11) C dX3_open_10 rfl 0 rfl ?_
    refine r_dup (pc' := 12) C dX3_open_11 rfl rfl ?_
    refine r_getI (pc' := 15) C flX3_36 (ru0 hk0) rfl dX3_open_12 rfl ?_
    refine r_iconst (pc' := 16) C dX3_open_15 rfl kc_1 ?_
    refine r_iadd (pc' := 17) C dX3_open_16 rfl ?_
    obtain ⟨σ2, e3, h⟩ := bs h
    refine r_putI (pc' := 20) (σ1 := σ2) C fpX3_36 (ru0 hk0) rfl rfl rfl dX3_open_17 rfl e3 ?_
    refine r_aload_n (pc' := 21) C dX3_open_20 rfl 0 rfl ?_
    refine r_dup (pc' := 22) C dX3_open_21 rfl rfl ?_
    refine r_getI (pc' := 25) C flX3_39 (ru0 hk0) rfl dX3_open_22 rfl ?_
    refine r_iconst (pc' := 26) C dX3_open_25 rfl kc_1 ?_
    refine r_aload_n (pc' := 27) C dX3_open_26 rfl 0 rfl ?_
    refine r_getI (pc' := 30) C flX3_36 (ru0 hk0) rfl dX3_open_27 rfl ?_
    refine r_ishl (pc' := 31) C dX3_open_30 rfl ?_
    refine r_iconst (pc' := 32) C dX3_open_31 rfl kc_m1 ?_
    refine r_ixor (pc' := 33) C dX3_open_32 rfl ?_
    refine r_iand (pc' := 34) C dX3_open_33 rfl ?_
    obtain ⟨σ4, e5, h⟩ := bs h
    refine r_putI (pc' := 37) (σ1 := σ4) C fpX3_39 (ru0 hk0) rfl rfl rfl dX3_open_34 rfl e5 ?_
    refine r_aload_n (pc' := 38) C dX3_open_37 rfl 0 rfl ?_
    refine r_bipush (pc' := 40) C dX3_open_38 rfl kb_40 ?_
    obtain ⟨r6, e7, h⟩ := bd h
    refine r_cV0 (pc' := 43) C (X3_hold_ok hk0 e7) mlX3_66 ceX3_hold cvX3_hold (ru0 hk0) rfl rfl rfl (Nat.le_of_ble_eq_true rfl) rfl (Nat.le_of_ble_eq_true rfl) dX3_open_40 rfl (kk := ?_)
    refine r_iconst (pc' := 44) C dX3_open_43 rfl kc_1 ?_
    have h := Option.some.inj h
    subst h
    exact r_ret C rfl dX3_open_44 hE
  · rw [if_pos c1] at h
    refine r_iconst (pc' := 9) C dX3_open_8 rfl kc_0 ?_
    have h := Option.some.inj h
    subst h
    exact r_ret C rfl dX3_open_9 hE

/-! BorrowedWeight$Rule.emit(I)V -/
def X3_emit (N : Nat) (k0 : Nat) (v1 : Int32) (σ : Sg) : Option (Sg) :=
  if 40 ≤ (gi σ k0 3) then (some σ) else (if inb (gi σ k0 3) 40 = true then bnS (wi σ (k0 + 1) (gi σ k0 3).toNatClampNeg v1) fun σ3 => bnS (wi σ3 k0 3 ((gi σ3 k0 3) + 1)) fun σ5 => some σ5 else none)
set_option maxRecDepth 100000 in
set_option maxHeartbeats 4000000 in
theorem X3_emit_ok {E : Ev} {S : List Sh} {k0 : Nat} (hk0 : RuAt S k0) {N : Nat} {v1 : Int32} {σ : Sg} {r : Sg} (h : X3_emit N k0 v1 σ = some r) : Cm E (0) yX3_emit cX3_emit 2 none [.ref k0, .int v1] S S σ r (none) 0 0 := by
  refine Cm.intro (by decide +kernel) (Nat.le_of_ble_eq_true rfl) (fun _ h => by obtain ⟨_, _, _, _, _, _, h⟩ := h; exact h) (fun Z C hE => ?_)
  show Wm E Z 0 0 S σ 0 [(0, .ref k0), (1, .int v1)] []
  unfold X3_emit at h
  refine r_aload_n (pc' := 1) C dX3_emit_0 rfl 0 rfl ?_
  refine r_getI (pc' := 4) C flX3_29 (ru0 hk0) rfl dX3_emit_1 rfl ?_
  refine r_bipush (pc' := 6) C dX3_emit_4 rfl kb_40 ?_
  refine r_icmp_ge (tgt := 29) (pc' := 9) C dX3_emit_6 rfl rfl (fun c1 => ?_) (fun c1 => ?_)
  · rw [if_pos c1] at h
    have h := Option.some.inj h
    subst h
    exact r_vret C dX3_emit_29 hE
  · rw [if_neg c1] at h
    refine r_aload_n (pc' := 10) C dX3_emit_9 rfl 0 rfl ?_
    refine r_getR (pc' := 13) C flX3_11 (ru0 hk0) rfl dX3_emit_10 rfl ?_
    refine r_aload_n (pc' := 14) C dX3_emit_13 rfl 0 rfl ?_
    refine r_getI (pc' := 17) C flX3_29 (ru0 hk0) rfl dX3_emit_14 rfl ?_
    refine r_iload_n (pc' := 18) C dX3_emit_17 rfl 1 rfl ?_
    obtain ⟨q2, h⟩ := ck h
    obtain ⟨σ3, e4, h⟩ := bs h
    refine r_iast (pc' := 19) (σ1 := σ3) C (ru1 hk0) (vin q2) dX3_emit_18 rfl e4 ?_
    refine r_aload_n (pc' := 20) C dX3_emit_19 rfl 0 rfl ?_
    refine r_dup (pc' := 21) C dX3_emit_20 rfl rfl ?_
    refine r_getI (pc' := 24) C flX3_29 (ru0 hk0) rfl dX3_emit_21 rfl ?_
    refine r_iconst (pc' := 25) C dX3_emit_24 rfl kc_1 ?_
    refine r_iadd (pc' := 26) C dX3_emit_25 rfl ?_
    obtain ⟨σ5, e6, h⟩ := bs h
    refine r_putI (pc' := 29) (σ1 := σ5) C fpX3_29 (ru0 hk0) rfl rfl rfl dX3_emit_26 rfl e6 ?_
    have h := Option.some.inj h
    subst h
    exact r_vret C dX3_emit_29 hE

/-! BorrowedWeight$Rule.takeThing(C)Z -/
def X3_takeThing_l59 (N : Nat) (k0 : Nat) (k76 : Int32 → Sg → Option (Int32 × Sg))  : Nat → Int32 → Int32 → Sg → Option (Int32 × Sg)
  | 0, _, _, _ => none
  | n + 1, v1, v2, σ =>
    if 8 ≤ v2 then (some (0, σ)) else (if inb v2 8 = true then if (oC1.getD v2.toNatClampNeg 0) = v1 then (k76 v2 σ) else (X3_takeThing_l59 N k0 k76 n v1 (v2 + 1) σ) else none)
set_option maxRecDepth 100000 in
set_option maxHeartbeats 4000000 in
theorem X3_takeThing_l59_ok {E : Ev} {S : List Sh} {k0 : Nat} (hk0 : RuAt S k0) {N : Nat} {k76 : Int32 → Sg → Option (Int32 × Sg)}  (hk76 : ∀ (v2 : Int32) (σ : Sg) (r : Int32 × Sg), k76 v2 σ = some r → Gp E RX3 cX3_takeThing (some .boolean) 3 (2) S r.2 (some (.int r.1)) σ 76 [(0, .ref k0), (2, .int v2)] []) : ∀ (n : Nat) (v1 : Int32) (v2 : Int32) (σ : Sg) (r : Int32 × Sg), X3_takeThing_l59 N k0 k76 n v1 v2 σ = some r → Gp E RX3 cX3_takeThing (some .boolean) 3 (2) S r.2 (some (.int r.1)) σ 59 [(0, .ref k0), (1, .int v1), (2, .int v2)] [] := by
  intro n
  induction n with
  | zero => intro v1 v2 σ r h; cases h
  | succ n ih =>
    intro v1 v2 σ r h Z C hE
    unfold X3_takeThing_l59 at h
    refine r_iload_n (pc' := 60) C dX3_takeThing_59 rfl 2 rfl ?_
    refine r_gets (pc' := 63) C rfl gsX3_77 dX3_takeThing_60 rfl ?_
    refine r_oldL (pc' := 64) (a := (.char, oC1)) (v := 8) C rfl rfl dX3_takeThing_63 rfl ?_
    refine r_icmp_ge (tgt := 98) (pc' := 67) C dX3_takeThing_64 rfl rfl (fun c4 => ?_) (fun c4 => ?_)
    · rw [if_pos c4] at h
      refine r_iconst (pc' := 99) C dX3_takeThing_98 rfl kc_0 ?_
      have h := Option.some.inj h
      subst h
      exact r_ret C rfl dX3_takeThing_99 hE
    · rw [if_neg c4] at h
      refine r_gets (pc' := 70) C rfl gsX3_77 dX3_takeThing_67 rfl ?_
      refine r_iload_n (pc' := 71) C dX3_takeThing_70 rfl 2 rfl ?_
      obtain ⟨q5, h⟩ := ck h
      refine r_oldC (pc' := 72) (l := oC1) C rfl (vin q5) rfl dX3_takeThing_71 rfl ?_
      refine r_iload_n (pc' := 73) C dX3_takeThing_72 rfl 1 rfl ?_
      refine r_icmp_ne (tgt := 92) (pc' := 76) C dX3_takeThing_73 rfl rfl (fun c6 => ?_) (fun c6 => ?_)
      · rw [if_neg c6] at h
        refine r_iinc (pc' := 95) (v := v2 + 1) (lv2 := [(2, .int (v2 + 1)), (0, .ref k0), (1, .int v1)]) C dX3_takeThing_92 rfl 2 rfl rfl (Nat.le_of_ble_eq_true rfl) rfl ?_
        refine r_goto (tgt := 59) C dX3_takeThing_95 rfl ?_
        refine r_sub [1, 2, 0] rfl ?_
        exact ih _ _ _ _ h Z C hE
      · rw [if_pos c6] at h
        refine r_sub [0, 2] rfl ?_
        exact hk76 _ _ _ h Z C hE
def X3_takeThing_j76 (N : Nat) (k0 : Nat)  (v2 : Int32) (σ : Sg) : Option (Int32 × Sg) :=
  (X3_emit N k0 (1000 + v2) σ).bind fun r7 => (bnS (wi r7 k0 8 0) fun σ9 => some (1, σ9))
set_option maxRecDepth 100000 in
set_option maxHeartbeats 4000000 in
theorem X3_takeThing_j76_ok {E : Ev} {S : List Sh} {k0 : Nat} (hk0 : RuAt S k0) {N : Nat}    {v2 : Int32} {σ : Sg} {r : Int32 × Sg} (h : X3_takeThing_j76 N k0  v2 σ = some r) : Gp E RX3 cX3_takeThing (some .boolean) 3 (2) S r.2 (some (.int r.1)) σ 76 [(0, .ref k0), (2, .int v2)] [] := by
  intro Z C hE
  unfold X3_takeThing_j76 at h
  refine r_aload_n (pc' := 77) C dX3_takeThing_76 rfl 0 rfl ?_
  refine r_sipush (pc' := 80) C dX3_takeThing_77 rfl ks_1000 ?_
  refine r_iload_n (pc' := 81) C dX3_takeThing_80 rfl 1 rfl ?_
  refine r_iadd (pc' := 82) C dX3_takeThing_81 rfl ?_
  obtain ⟨r7, e8, h⟩ := bd h
  refine r_cV0 (pc' := 85) C (X3_emit_ok hk0 e8) mlX3_74 ceX3_emit cvX3_emit (ru0 hk0) rfl rfl rfl (Nat.le_of_ble_eq_true rfl) rfl (Nat.le_of_ble_eq_true rfl) dX3_takeThing_82 rfl (kk := ?_)
  refine r_aload_n (pc' := 86) C dX3_takeThing_85 rfl 0 rfl ?_
  refine r_iconst (pc' := 87) C dX3_takeThing_86 rfl kc_0 ?_
  obtain ⟨σ9, e10, h⟩ := bs h
  refine r_putI (pc' := 90) (σ1 := σ9) C fpX3_45 (ru0 hk0) rfl rfl rfl dX3_takeThing_87 rfl e10 ?_
  refine r_iconst (pc' := 91) C dX3_takeThing_90 rfl kc_1 ?_
  have h := Option.some.inj h
  subst h
  exact r_ret C rfl dX3_takeThing_91 hE
def X3_takeThing (N : Nat) (k0 : Nat) (v1 : Int32) (σ : Sg) : Option (Int32 × Sg) :=
  if v1 = 45 then ((X3_hold N k0 126 σ).bind fun r21 => (some (1, r21))) else (if v1 = 40 then ((X3_open N k0 σ).bind fun r18 => (if isB r18.1 = true then some (r18.1, r18.2) else none)) else (if v1 < 48 then (X3_takeThing_l59 N k0 (fun v2 σ => X3_takeThing_j76 N k0 v2 σ) N v1 0 σ) else (if 57 < v1 then (X3_takeThing_l59 N k0 (fun v2 σ => X3_takeThing_j76 N k0 v2 σ) N v1 0 σ) else ((X3_emit N k0 (v1 - 48) σ).bind fun r12 => (bnS (wi r12 k0 7 1) fun σ14 => bnS (wi σ14 k0 8 0) fun σ16 => some (1, σ16))))))
set_option maxRecDepth 100000 in
set_option maxHeartbeats 4000000 in
theorem X3_takeThing_ok {E : Ev} {S : List Sh} {k0 : Nat} (hk0 : RuAt S k0) {N : Nat} {v1 : Int32} {σ : Sg} {r : Int32 × Sg} (h : X3_takeThing N k0 v1 σ = some r) : Cm E (2) yX3_takeThing cX3_takeThing 3 (some .boolean) [.ref k0, .int v1] S S σ r.2 (some (.int r.1)) 0 0 := by
  refine Cm.intro (by decide +kernel) (Nat.le_of_ble_eq_true rfl) (fun _ h => by obtain ⟨_, _, _, _, _, _, h⟩ := h; exact h) (fun Z C hE => ?_)
  show Wm E Z 0 0 S σ 0 [(0, .ref k0), (1, .int v1)] []
  unfold X3_takeThing at h
  refine r_iload_n (pc' := 1) C dX3_takeThing_0 rfl 1 rfl ?_
  refine r_bipush (pc' := 3) C dX3_takeThing_1 rfl kb_45 ?_
  refine r_icmp_ne (tgt := 14) (pc' := 6) C dX3_takeThing_3 rfl rfl (fun c1 => ?_) (fun c1 => ?_)
  · rw [if_neg c1] at h
    refine r_iload_n (pc' := 15) C dX3_takeThing_14 rfl 1 rfl ?_
    refine r_bipush (pc' := 17) C dX3_takeThing_15 rfl kb_40 ?_
    refine r_icmp_ne (tgt := 25) (pc' := 20) C dX3_takeThing_17 rfl rfl (fun c2 => ?_) (fun c2 => ?_)
    · rw [if_neg c2] at h
      refine r_iload_n (pc' := 26) C dX3_takeThing_25 rfl 1 rfl ?_
      refine r_bipush (pc' := 28) C dX3_takeThing_26 rfl kb_48 ?_
      refine r_icmp_lt (tgt := 57) (pc' := 31) C dX3_takeThing_28 rfl rfl (fun c3 => ?_) (fun c3 => ?_)
      · rw [if_pos c3] at h
        refine r_iconst (pc' := 58) C dX3_takeThing_57 rfl kc_0 ?_
        refine r_istore_n (pc' := 59) (lv2 := [(2, .int 0), (0, .ref k0), (1, .int v1)]) C dX3_takeThing_58 rfl rfl (Nat.le_of_ble_eq_true rfl) rfl ?_
        refine r_sub [1, 2, 0] rfl ?_
        exact X3_takeThing_l59_ok hk0 (fun _ _ _ h Z C hE => by exact X3_takeThing_j76_ok hk0 h Z C hE) N _ _ _ _ h Z C hE
      · rw [if_neg c3] at h
        refine r_iload_n (pc' := 32) C dX3_takeThing_31 rfl 1 rfl ?_
        refine r_bipush (pc' := 34) C dX3_takeThing_32 rfl kb_57 ?_
        refine r_icmp_gt (tgt := 57) (pc' := 37) C dX3_takeThing_34 rfl rfl (fun c11 => ?_) (fun c11 => ?_)
        · rw [if_pos c11] at h
          refine r_iconst (pc' := 58) C dX3_takeThing_57 rfl kc_0 ?_
          refine r_istore_n (pc' := 59) (lv2 := [(2, .int 0), (0, .ref k0), (1, .int v1)]) C dX3_takeThing_58 rfl rfl (Nat.le_of_ble_eq_true rfl) rfl ?_
          refine r_sub [1, 2, 0] rfl ?_
          exact X3_takeThing_l59_ok hk0 (fun _ _ _ h Z C hE => by exact X3_takeThing_j76_ok hk0 h Z C hE) N _ _ _ _ h Z C hE
        · rw [if_neg c11] at h
          refine r_aload_n (pc' := 38) C dX3_takeThing_37 rfl 0 rfl ?_
          refine r_iload_n (pc' := 39) C dX3_takeThing_38 rfl 1 rfl ?_
          refine r_bipush (pc' := 41) C dX3_takeThing_39 rfl kb_48 ?_
          refine r_isub (pc' := 42) C dX3_takeThing_41 rfl ?_
          obtain ⟨r12, e13, h⟩ := bd h
          refine r_cV0 (pc' := 45) C (X3_emit_ok hk0 e13) mlX3_74 ceX3_emit cvX3_emit (ru0 hk0) rfl rfl rfl (Nat.le_of_ble_eq_true rfl) rfl (Nat.le_of_ble_eq_true rfl) dX3_takeThing_42 rfl (kk := ?_)
          refine r_aload_n (pc' := 46) C dX3_takeThing_45 rfl 0 rfl ?_
          refine r_iconst (pc' := 47) C dX3_takeThing_46 rfl kc_1 ?_
          obtain ⟨σ14, e15, h⟩ := bs h
          refine r_putI (pc' := 50) (σ1 := σ14) C fpX3_42 (ru0 hk0) rfl rfl rfl dX3_takeThing_47 rfl e15 ?_
          refine r_aload_n (pc' := 51) C dX3_takeThing_50 rfl 0 rfl ?_
          refine r_iconst (pc' := 52) C dX3_takeThing_51 rfl kc_0 ?_
          obtain ⟨σ16, e17, h⟩ := bs h
          refine r_putI (pc' := 55) (σ1 := σ16) C fpX3_45 (ru0 hk0) rfl rfl rfl dX3_takeThing_52 rfl e17 ?_
          refine r_iconst (pc' := 56) C dX3_takeThing_55 rfl kc_1 ?_
          have h := Option.some.inj h
          subst h
          exact r_ret C rfl dX3_takeThing_56 hE
    · rw [if_pos c2] at h
      refine r_aload_n (pc' := 21) C dX3_takeThing_20 rfl 0 rfl ?_
      obtain ⟨r18, e19, h⟩ := bd h
      refine r_cV1 (pc' := 24) C (X3_open_ok hk0 e19) mlX3_70 ceX3_open cvX3_open (ru0 hk0) rfl rfl rfl (Nat.le_of_ble_eq_true rfl) rfl (Nat.le_of_ble_eq_true rfl) dX3_takeThing_21 rfl (kk := ?_)
      obtain ⟨q20, h⟩ := ck h
      have h := Option.some.inj h
      subst h
      exact r_ret C (nisB q20) dX3_takeThing_24 hE
  · rw [if_pos c1] at h
    refine r_aload_n (pc' := 7) C dX3_takeThing_6 rfl 0 rfl ?_
    refine r_bipush (pc' := 9) C dX3_takeThing_7 rfl kb_126 ?_
    obtain ⟨r21, e22, h⟩ := bd h
    refine r_cV0 (pc' := 12) C (X3_hold_ok hk0 e22) mlX3_66 ceX3_hold cvX3_hold (ru0 hk0) rfl rfl rfl (Nat.le_of_ble_eq_true rfl) rfl (Nat.le_of_ble_eq_true rfl) dX3_takeThing_9 rfl (kk := ?_)
    refine r_iconst (pc' := 13) C dX3_takeThing_12 rfl kc_1 ?_
    have h := Option.some.inj h
    subst h
    exact r_ret C rfl dX3_takeThing_13 hE

/-! BorrowedWeight$Rule.lengthen(I)Z -/
def X3_lengthen (N : Nat) (k0 : Nat) (v1 : Int32) (σ : Sg) : Option (Int32 × Sg) :=
  if (gi σ k0 7) = 0 then (some (0, σ)) else (if (gi σ k0 7) = 3 then (some (0, σ)) else (if 1 ≤ (gi σ k0 3) then (if inb ((gi σ k0 3) - 1) 40 = true then if inb ((gi σ k0 3) - 1) 40 = true then bnS (wi σ (k0 + 1) ((gi σ k0 3) - 1).toNatClampNeg (((gi σ (k0 + 1) ((gi σ k0 3) - 1).toNatClampNeg) * 10) + v1)) fun σ6 => bnS (wi σ6 k0 7 ((gi σ6 k0 7) + 1)) fun σ8 => some (1, σ8) else none else none) else (some (0, σ))))
set_option maxRecDepth 100000 in
set_option maxHeartbeats 4000000 in
theorem X3_lengthen_ok {E : Ev} {S : List Sh} {k0 : Nat} (hk0 : RuAt S k0) {N : Nat} {v1 : Int32} {σ : Sg} {r : Int32 × Sg} (h : X3_lengthen N k0 v1 σ = some r) : Cm E (0) yX3_lengthen cX3_lengthen 2 (some .boolean) [.ref k0, .int v1] S S σ r.2 (some (.int r.1)) 0 0 := by
  refine Cm.intro (by decide +kernel) (Nat.le_of_ble_eq_true rfl) (fun _ h => by obtain ⟨_, _, _, _, _, _, h⟩ := h; exact h) (fun Z C hE => ?_)
  show Wm E Z 0 0 S σ 0 [(0, .ref k0), (1, .int v1)] []
  unfold X3_lengthen at h
  refine r_aload_n (pc' := 1) C dX3_lengthen_0 rfl 0 rfl ?_
  refine r_getI (pc' := 4) C flX3_42 (ru0 hk0) rfl dX3_lengthen_1 rfl ?_
  refine r_if_eq (tgt := 23) (pc' := 7) C dX3_lengthen_4 rfl rfl (fun c1 => ?_) (fun c1 => ?_)
  · rw [if_pos c1] at h
    refine r_iconst (pc' := 24) C dX3_lengthen_23 rfl kc_0 ?_
    have h := Option.some.inj h
    subst h
    exact r_ret C rfl dX3_lengthen_24 hE
  · rw [if_neg c1] at h
    refine r_aload_n (pc' := 8) C dX3_lengthen_7 rfl 0 rfl ?_
    refine r_getI (pc' := 11) C flX3_42 (ru0 hk0) rfl dX3_lengthen_8 rfl ?_
    refine r_iconst (pc' := 12) C dX3_lengthen_11 rfl kc_3 ?_
    refine r_icmp_eq (tgt := 23) (pc' := 15) C dX3_lengthen_12 rfl rfl (fun c2 => ?_) (fun c2 => ?_)
    · rw [if_pos c2] at h
      refine r_iconst (pc' := 24) C dX3_lengthen_23 rfl kc_0 ?_
      have h := Option.some.inj h
      subst h
      exact r_ret C rfl dX3_lengthen_24 hE
    · rw [if_neg c2] at h
      refine r_aload_n (pc' := 16) C dX3_lengthen_15 rfl 0 rfl ?_
      refine r_getI (pc' := 19) C flX3_29 (ru0 hk0) rfl dX3_lengthen_16 rfl ?_
      refine r_iconst (pc' := 20) C dX3_lengthen_19 rfl kc_1 ?_
      refine r_icmp_ge (tgt := 25) (pc' := 23) C dX3_lengthen_20 rfl rfl (fun c3 => ?_) (fun c3 => ?_)
      · rw [if_pos c3] at h
        refine r_aload_n (pc' := 26) C dX3_lengthen_25 rfl 0 rfl ?_
        refine r_getR (pc' := 29) C flX3_11 (ru0 hk0) rfl dX3_lengthen_26 rfl ?_
        refine r_aload_n (pc' := 30) C dX3_lengthen_29 rfl 0 rfl ?_
        refine r_getI (pc' := 33) C flX3_29 (ru0 hk0) rfl dX3_lengthen_30 rfl ?_
        refine r_iconst (pc' := 34) C dX3_lengthen_33 rfl kc_1 ?_
        refine r_isub (pc' := 35) C dX3_lengthen_34 rfl ?_
        refine r_aload_n (pc' := 36) C dX3_lengthen_35 rfl 0 rfl ?_
        refine r_getR (pc' := 39) C flX3_11 (ru0 hk0) rfl dX3_lengthen_36 rfl ?_
        refine r_aload_n (pc' := 40) C dX3_lengthen_39 rfl 0 rfl ?_
        refine r_getI (pc' := 43) C flX3_29 (ru0 hk0) rfl dX3_lengthen_40 rfl ?_
        refine r_iconst (pc' := 44) C dX3_lengthen_43 rfl kc_1 ?_
        refine r_isub (pc' := 45) C dX3_lengthen_44 rfl ?_
        obtain ⟨q4, h⟩ := ck h
        refine r_iald (pc' := 46) C (ru1 hk0) (vin q4) dX3_lengthen_45 rfl ?_
        refine r_bipush (pc' := 48) C dX3_lengthen_46 rfl kb_10 ?_
        refine r_imul (pc' := 49) C dX3_lengthen_48 rfl ?_
        refine r_iload_n (pc' := 50) C dX3_lengthen_49 rfl 1 rfl ?_
        refine r_iadd (pc' := 51) C dX3_lengthen_50 rfl ?_
        obtain ⟨q5, h⟩ := ck h
        obtain ⟨σ6, e7, h⟩ := bs h
        refine r_iast (pc' := 52) (σ1 := σ6) C (ru1 hk0) (vin q5) dX3_lengthen_51 rfl e7 ?_
        refine r_aload_n (pc' := 53) C dX3_lengthen_52 rfl 0 rfl ?_
        refine r_dup (pc' := 54) C dX3_lengthen_53 rfl rfl ?_
        refine r_getI (pc' := 57) C flX3_42 (ru0 hk0) rfl dX3_lengthen_54 rfl ?_
        refine r_iconst (pc' := 58) C dX3_lengthen_57 rfl kc_1 ?_
        refine r_iadd (pc' := 59) C dX3_lengthen_58 rfl ?_
        obtain ⟨σ8, e9, h⟩ := bs h
        refine r_putI (pc' := 62) (σ1 := σ8) C fpX3_42 (ru0 hk0) rfl rfl rfl dX3_lengthen_59 rfl e9 ?_
        refine r_iconst (pc' := 63) C dX3_lengthen_62 rfl kc_1 ?_
        have h := Option.some.inj h
        subst h
        exact r_ret C rfl dX3_lengthen_63 hE
      · rw [if_neg c3] at h
        refine r_iconst (pc' := 24) C dX3_lengthen_23 rfl kc_0 ?_
        have h := Option.some.inj h
        subst h
        exact r_ret C rfl dX3_lengthen_24 hE

/-! BorrowedWeight$Rule.strengthOf(C)I -/
def X3_strengthOf (N : Nat)  (v0 : Int32) (σ : Sg) : Option (Int32) :=
  if v0 = 42 then (some 3) else if v0 = 43 then (some 2) else if v0 = 45 then (some 2) else if v0 = 47 then (some 3) else if v0 = 60 then (some 1) else if v0 = 61 then (some 1) else if v0 = 62 then (some 1) else if v0 = 126 then (some 4) else (some 0)
set_option maxRecDepth 100000 in
set_option maxHeartbeats 4000000 in
theorem X3_strengthOf_ok {E : Ev} {S : List Sh}  {N : Nat} {v0 : Int32} {σ : Sg} {r : Int32} (h : X3_strengthOf N  v0 σ = some r) : Cm E (0) yX3_strengthOf cX3_strengthOf 1 (some .int) [.int v0] S S σ σ (some (.int r)) 0 0 := by
  refine Cm.intro (by decide +kernel) (Nat.le_of_ble_eq_true rfl) (fun _ h => by obtain ⟨_, _, _, _, _, _, h⟩ := h; exact h) (fun Z C hE => ?_)
  show Wm E Z 0 0 S σ 0 [(0, .int v0)] []
  unfold X3_strengthOf at h
  refine r_iload_n (pc' := 1) C dX3_strengthOf_0 rfl 0 rfl ?_
  by_cases c1 : v0 = 42
  · rw [if_pos c1] at h
    refine r_look (tgt := 80) C dX3_strengthOf_1 rfl (by first | (rw [c1]; done) | (rw [c1]; rfl)) rfl ?_
    refine r_iconst (pc' := 81) C dX3_strengthOf_80 rfl kc_3 ?_
    have h := Option.some.inj h
    subst h
    exact r_ret C rfl dX3_strengthOf_81 hE
  rw [if_neg c1] at h
  by_cases c2 : v0 = 43
  · rw [if_pos c2] at h
    refine r_look (tgt := 78) C dX3_strengthOf_1 rfl (by first | (rw [c2]; done) | (rw [c2]; rfl)) rfl ?_
    refine r_iconst (pc' := 79) C dX3_strengthOf_78 rfl kc_2 ?_
    have h := Option.some.inj h
    subst h
    exact r_ret C rfl dX3_strengthOf_79 hE
  rw [if_neg c2] at h
  by_cases c3 : v0 = 45
  · rw [if_pos c3] at h
    refine r_look (tgt := 78) C dX3_strengthOf_1 rfl (by first | (rw [c3]; done) | (rw [c3]; rfl)) rfl ?_
    refine r_iconst (pc' := 79) C dX3_strengthOf_78 rfl kc_2 ?_
    have h := Option.some.inj h
    subst h
    exact r_ret C rfl dX3_strengthOf_79 hE
  rw [if_neg c3] at h
  by_cases c4 : v0 = 47
  · rw [if_pos c4] at h
    refine r_look (tgt := 80) C dX3_strengthOf_1 rfl (by first | (rw [c4]; done) | (rw [c4]; rfl)) rfl ?_
    refine r_iconst (pc' := 81) C dX3_strengthOf_80 rfl kc_3 ?_
    have h := Option.some.inj h
    subst h
    exact r_ret C rfl dX3_strengthOf_81 hE
  rw [if_neg c4] at h
  by_cases c5 : v0 = 60
  · rw [if_pos c5] at h
    refine r_look (tgt := 76) C dX3_strengthOf_1 rfl (by first | (rw [c5]; done) | (rw [c5]; rfl)) rfl ?_
    refine r_iconst (pc' := 77) C dX3_strengthOf_76 rfl kc_1 ?_
    have h := Option.some.inj h
    subst h
    exact r_ret C rfl dX3_strengthOf_77 hE
  rw [if_neg c5] at h
  by_cases c6 : v0 = 61
  · rw [if_pos c6] at h
    refine r_look (tgt := 76) C dX3_strengthOf_1 rfl (by first | (rw [c6]; done) | (rw [c6]; rfl)) rfl ?_
    refine r_iconst (pc' := 77) C dX3_strengthOf_76 rfl kc_1 ?_
    have h := Option.some.inj h
    subst h
    exact r_ret C rfl dX3_strengthOf_77 hE
  rw [if_neg c6] at h
  by_cases c7 : v0 = 62
  · rw [if_pos c7] at h
    refine r_look (tgt := 76) C dX3_strengthOf_1 rfl (by first | (rw [c7]; done) | (rw [c7]; rfl)) rfl ?_
    refine r_iconst (pc' := 77) C dX3_strengthOf_76 rfl kc_1 ?_
    have h := Option.some.inj h
    subst h
    exact r_ret C rfl dX3_strengthOf_77 hE
  rw [if_neg c7] at h
  by_cases c8 : v0 = 126
  · rw [if_pos c8] at h
    refine r_look (tgt := 82) C dX3_strengthOf_1 rfl (by first | (rw [c8]; done) | (rw [c8]; rfl)) rfl ?_
    refine r_iconst (pc' := 83) C dX3_strengthOf_82 rfl kc_4 ?_
    have h := Option.some.inj h
    subst h
    exact r_ret C rfl dX3_strengthOf_83 hE
  rw [if_neg c8] at h
  refine r_look (tgt := 84) C dX3_strengthOf_1 rfl (look_out (List.forall_mem_cons.mpr ⟨c1, (List.forall_mem_cons.mpr ⟨c2, (List.forall_mem_cons.mpr ⟨c3, (List.forall_mem_cons.mpr ⟨c4, (List.forall_mem_cons.mpr ⟨c5, (List.forall_mem_cons.mpr ⟨c6, (List.forall_mem_cons.mpr ⟨c7, (List.forall_mem_cons.mpr ⟨c8, (fun _ h => nomatch h)⟩)⟩)⟩)⟩)⟩)⟩)⟩)⟩)) rfl ?_
  refine r_iconst (pc' := 85) C dX3_strengthOf_84 rfl kc_0 ?_
  have h := Option.some.inj h
  subst h
  exact r_ret C rfl dX3_strengthOf_85 hE

/-! BorrowedWeight$Rule.release(I)V -/
def X3_release_l7 (N : Nat) (k0 : Nat)   : Nat → Int32 → Int32 → Sg → Option (Sg)
  | 0, _, _, _ => none
  | n + 1, v1, v2, σ =>
    if v2 < 0 then (some σ) else (if inb v2 40 = true then (X3_strengthOf N (gi σ (k0 + 3) v2.toNatClampNeg) σ).bind fun r3 => (if r3 < v1 then (some σ) else (if inb v2 40 = true then (X3_emit N k0 (1008 + (gi σ (k0 + 3) v2.toNatClampNeg)) σ).bind fun r7 => (bnS (wi r7 k0 4 v2) fun σ9 => X3_release_l7 N k0 n v1 (v2 + (-1)) σ9) else none)) else none)
set_option maxRecDepth 100000 in
set_option maxHeartbeats 4000000 in
theorem X3_release_l7_ok {E : Ev} {S : List Sh} {k0 : Nat} (hk0 : RuAt S k0) {N : Nat}    : ∀ (n : Nat) (v1 : Int32) (v2 : Int32) (σ : Sg) (r : Sg), X3_release_l7 N k0 n v1 v2 σ = some r → Gp E RX3 cX3_release none 3 (1) S r (none) σ 7 [(0, .ref k0), (1, .int v1), (2, .int v2)] [] := by
  intro n
  induction n with
  | zero => intro v1 v2 σ r h; cases h
  | succ n ih =>
    intro v1 v2 σ r h Z C hE
    unfold X3_release_l7 at h
    refine r_iload_n (pc' := 8) C dX3_release_7 rfl 2 rfl ?_
    refine r_if_lt (tgt := 49) (pc' := 11) C dX3_release_8 rfl rfl (fun c1 => ?_) (fun c1 => ?_)
    · rw [if_pos c1] at h
      have h := Option.some.inj h
      subst h
      exact r_vret C dX3_release_49 hE
    · rw [if_neg c1] at h
      refine r_aload_n (pc' := 12) C dX3_release_11 rfl 0 rfl ?_
      refine r_getR (pc' := 15) C flX3_18 (ru0 hk0) rfl dX3_release_12 rfl ?_
      refine r_iload_n (pc' := 16) C dX3_release_15 rfl 2 rfl ?_
      obtain ⟨q2, h⟩ := ck h
      refine r_cald (pc' := 17) C (ru3 hk0) (vin q2) dX3_release_16 rfl ?_
      obtain ⟨r3, e4, h⟩ := bd h
      refine r_cS1 (pc' := 20) C (X3_strengthOf_ok  e4) mlX3_87 ceX3_strengthOf csX3_strengthOf rfl (Nat.le_of_ble_eq_true rfl) rfl (Nat.le_of_ble_eq_true rfl) dX3_release_17 rfl (kk := ?_)
      refine r_iload_n (pc' := 21) C dX3_release_20 rfl 1 rfl ?_
      refine r_icmp_lt (tgt := 49) (pc' := 24) C dX3_release_21 rfl rfl (fun c5 => ?_) (fun c5 => ?_)
      · rw [if_pos c5] at h
        have h := Option.some.inj h
        subst h
        exact r_vret C dX3_release_49 hE
      · rw [if_neg c5] at h
        refine r_aload_n (pc' := 25) C dX3_release_24 rfl 0 rfl ?_
        refine r_sipush (pc' := 28) C dX3_release_25 rfl ks_1008 ?_
        refine r_aload_n (pc' := 29) C dX3_release_28 rfl 0 rfl ?_
        refine r_getR (pc' := 32) C flX3_18 (ru0 hk0) rfl dX3_release_29 rfl ?_
        refine r_iload_n (pc' := 33) C dX3_release_32 rfl 2 rfl ?_
        obtain ⟨q6, h⟩ := ck h
        refine r_cald (pc' := 34) C (ru3 hk0) (vin q6) dX3_release_33 rfl ?_
        refine r_iadd (pc' := 35) C dX3_release_34 rfl ?_
        obtain ⟨r7, e8, h⟩ := bd h
        refine r_cV0 (pc' := 38) C (X3_emit_ok hk0 e8) mlX3_74 ceX3_emit cvX3_emit (ru0 hk0) rfl rfl rfl (Nat.le_of_ble_eq_true rfl) rfl (Nat.le_of_ble_eq_true rfl) dX3_release_35 rfl (kk := ?_)
        refine r_aload_n (pc' := 39) C dX3_release_38 rfl 0 rfl ?_
        refine r_iload_n (pc' := 40) C dX3_release_39 rfl 2 rfl ?_
        obtain ⟨σ9, e10, h⟩ := bs h
        refine r_putI (pc' := 43) (σ1 := σ9) C fpX3_33 (ru0 hk0) rfl rfl rfl dX3_release_40 rfl e10 ?_
        refine r_iinc (pc' := 46) (v := v2 + (-1)) (lv2 := [(2, .int (v2 + (-1))), (0, .ref k0), (1, .int v1)]) C dX3_release_43 rfl 2 rfl rfl (Nat.le_of_ble_eq_true rfl) rfl ?_
        refine r_goto (tgt := 7) C dX3_release_46 rfl ?_
        refine r_sub [1, 2, 0] rfl ?_
        exact ih _ _ _ _ h Z C hE
def X3_release (N : Nat) (k0 : Nat) (v1 : Int32) (σ : Sg) : Option (Sg) :=
  X3_release_l7 N k0 N v1 ((gi σ k0 4) - 1) σ
set_option maxRecDepth 100000 in
set_option maxHeartbeats 4000000 in
theorem X3_release_ok {E : Ev} {S : List Sh} {k0 : Nat} (hk0 : RuAt S k0) {N : Nat} {v1 : Int32} {σ : Sg} {r : Sg} (h : X3_release N k0 v1 σ = some r) : Cm E (1) yX3_release cX3_release 3 none [.ref k0, .int v1] S S σ r (none) 0 0 := by
  refine Cm.intro (by decide +kernel) (Nat.le_of_ble_eq_true rfl) (fun _ h => by obtain ⟨_, _, _, _, _, _, h⟩ := h; exact h) (fun Z C hE => ?_)
  show Wm E Z 0 0 S σ 0 [(0, .ref k0), (1, .int v1)] []
  unfold X3_release at h
  refine r_aload_n (pc' := 1) C dX3_release_0 rfl 0 rfl ?_
  refine r_getI (pc' := 4) C flX3_33 (ru0 hk0) rfl dX3_release_1 rfl ?_
  refine r_iconst (pc' := 5) C dX3_release_4 rfl kc_1 ?_
  refine r_isub (pc' := 6) C dX3_release_5 rfl ?_
  refine r_istore_n (pc' := 7) (lv2 := [(2, .int ((gi σ k0 4) - 1)), (0, .ref k0), (1, .int v1)]) C dX3_release_6 rfl rfl (Nat.le_of_ble_eq_true rfl) rfl ?_
  refine r_sub [1, 2, 0] rfl ?_
  exact X3_release_l7_ok hk0 N _ _ _ _ h Z C hE

/-! java/lang/Math.max(II)I -/
def J9_max_7cf53 (N : Nat)  (v0 : Int32) (v1 : Int32) (σ : Sg) : Option (Int32) :=
  if v0 < v1 then (some v1) else (some v0)
set_option maxRecDepth 100000 in
set_option maxHeartbeats 4000000 in
theorem J9_max_7cf53_ok {E : Ev} {S : List Sh}  {N : Nat} {v0 : Int32} {v1 : Int32} {σ : Sg} {r : Int32} (h : J9_max_7cf53 N  v0 v1 σ = some r) : Cm E (0) yJ9_max_7cf53 cJ9_max_7cf53 2 (some .int) [.int v0, .int v1] S S σ σ (some (.int r)) 0 0 := by
  refine Cm.intro (by decide +kernel) (Nat.le_of_ble_eq_true rfl) (fun _ h => by obtain ⟨_, _, _, _, _, _, h⟩ := h; exact h) (fun Z C hE => ?_)
  show Wm E Z 0 0 S σ 0 [(0, .int v0), (1, .int v1)] []
  unfold J9_max_7cf53 at h
  refine r_iload_n (pc' := 1) C dJ9_max_7cf53_0 rfl 0 rfl ?_
  refine r_iload_n (pc' := 2) C dJ9_max_7cf53_1 rfl 1 rfl ?_
  refine r_icmp_lt (tgt := 9) (pc' := 5) C dJ9_max_7cf53_2 rfl rfl (fun c1 => ?_) (fun c1 => ?_)
  · rw [if_pos c1] at h
    refine r_iload_n (pc' := 10) C dJ9_max_7cf53_9 rfl 1 rfl ?_
    have h := Option.some.inj h
    subst h
    exact r_ret C rfl dJ9_max_7cf53_10 hE
  · rw [if_neg c1] at h
    refine r_iload_n (pc' := 6) C dJ9_max_7cf53_5 rfl 0 rfl ?_
    refine r_goto (tgt := 10) C dJ9_max_7cf53_6 rfl ?_
    have h := Option.some.inj h
    subst h
    exact r_ret C rfl dJ9_max_7cf53_10 hE

/-! BorrowedWeight$Rule.close()Z -/
def X3_close (N : Nat) (k0 : Nat)  (σ : Sg) : Option (Int32 × Sg) :=
  if (gi σ k0 5) = 0 then (some (0, σ)) else (bnS (wi σ k0 5 ((gi σ k0 5) - 1)) fun σ2 => (X3_release N k0 1 σ2).bind fun r4 => ((J9_max_7cf53 N ((gi r4 k0 4) - 1) 0 r4).bind fun r6 => (bnS (wi r4 k0 4 r6) fun σ8 => some (1, σ8))))
set_option maxRecDepth 100000 in
set_option maxHeartbeats 4000000 in
theorem X3_close_ok {E : Ev} {S : List Sh} {k0 : Nat} (hk0 : RuAt S k0) {N : Nat}  {σ : Sg} {r : Int32 × Sg} (h : X3_close N k0  σ = some r) : Cm E (2) yX3_close cX3_close 1 (some .boolean) [.ref k0] S S σ r.2 (some (.int r.1)) 0 0 := by
  refine Cm.intro (by decide +kernel) (Nat.le_of_ble_eq_true rfl) (fun _ h => by obtain ⟨_, _, _, _, _, _, h⟩ := h; exact h) (fun Z C hE => ?_)
  show Wm E Z 0 0 S σ 0 [(0, .ref k0)] []
  unfold X3_close at h
  refine r_aload_n (pc' := 1) C dX3_close_0 rfl 0 rfl ?_
  refine r_getI (pc' := 4) C flX3_36 (ru0 hk0) rfl dX3_close_1 rfl ?_
  refine r_if_ne (tgt := 9) (pc' := 7) C dX3_close_4 rfl rfl (fun c1 => ?_) (fun c1 => ?_)
  · rw [if_neg c1] at h
    refine r_aload_n (pc' := 10) C dX3_close_9 rfl 0 rfl ?_
    refine r_dup (pc' := 11) C dX3_close_10 rfl rfl ?_
    refine r_getI (pc' := 14) C flX3_36 (ru0 hk0) rfl dX3_close_11 rfl ?_
    refine r_iconst (pc' := 15) C dX3_close_14 rfl kc_1 ?_
    refine r_isub (pc' := 16) C dX3_close_15 rfl ?_
    obtain ⟨σ2, e3, h⟩ := bs h
    refine r_putI (pc' := 19) (σ1 := σ2) C fpX3_36 (ru0 hk0) rfl rfl rfl dX3_close_16 rfl e3 ?_
    refine r_aload_n (pc' := 20) C dX3_close_19 rfl 0 rfl ?_
    refine r_iconst (pc' := 21) C dX3_close_20 rfl kc_1 ?_
    obtain ⟨r4, e5, h⟩ := bd h
    refine r_cV0 (pc' := 24) C (X3_release_ok hk0 e5) mlX3_62 ceX3_release cvX3_release (ru0 hk0) rfl rfl rfl (Nat.le_of_ble_eq_true rfl) rfl (Nat.le_of_ble_eq_true rfl) dX3_close_21 rfl (kk := ?_)
    refine r_aload_n (pc' := 25) C dX3_close_24 rfl 0 rfl ?_
    refine r_aload_n (pc' := 26) C dX3_close_25 rfl 0 rfl ?_
    refine r_getI (pc' := 29) C flX3_33 (ru0 hk0) rfl dX3_close_26 rfl ?_
    refine r_iconst (pc' := 30) C dX3_close_29 rfl kc_1 ?_
    refine r_isub (pc' := 31) C dX3_close_30 rfl ?_
    refine r_iconst (pc' := 32) C dX3_close_31 rfl kc_0 ?_
    obtain ⟨r6, e7, h⟩ := bd h
    refine r_cS1 (pc' := 35) C (J9_max_7cf53_ok  e7) mlX3_91 ceJ9_max_7cf53 csJ9_max_7cf53 rfl (Nat.le_of_ble_eq_true rfl) rfl (Nat.le_of_ble_eq_true rfl) dX3_close_32 rfl (kk := ?_)
    obtain ⟨σ8, e9, h⟩ := bs h
    refine r_putI (pc' := 38) (σ1 := σ8) C fpX3_33 (ru0 hk0) rfl rfl rfl dX3_close_35 rfl e9 ?_
    refine r_iconst (pc' := 39) C dX3_close_38 rfl kc_1 ?_
    have h := Option.some.inj h
    subst h
    exact r_ret C rfl dX3_close_39 hE
  · rw [if_pos c1] at h
    refine r_iconst (pc' := 8) C dX3_close_7 rfl kc_0 ?_
    have h := Option.some.inj h
    subst h
    exact r_ret C rfl dX3_close_8 hE

/-! BorrowedWeight$Rule.takeBehind(C)Z -/
def X3_takeBehind_j91 (N : Nat) (k0 : Nat)  (v1 : Int32) (v2 : Int32) (σ : Sg) : Option (Int32 × Sg) :=
  (X3_release N k0 v2 σ).bind fun r10 => ((X3_hold N k0 v1 r10).bind fun r12 => (bnS (wi r12 k0 8 1) fun σ14 => some (1, σ14)))
set_option maxRecDepth 100000 in
set_option maxHeartbeats 4000000 in
theorem X3_takeBehind_j91_ok {E : Ev} {S : List Sh} {k0 : Nat} (hk0 : RuAt S k0) {N : Nat}    {v1 : Int32} {v2 : Int32} {σ : Sg} {r : Int32 × Sg} (h : X3_takeBehind_j91 N k0  v1 v2 σ = some r) : Gp E RX3 cX3_takeBehind (some .boolean) 3 (3) S r.2 (some (.int r.1)) σ 91 [(0, .ref k0), (1, .int v1), (2, .int v2)] [] := by
  intro Z C hE
  unfold X3_takeBehind_j91 at h
  refine r_aload_n (pc' := 92) C dX3_takeBehind_91 rfl 0 rfl ?_
  refine r_iload_n (pc' := 93) C dX3_takeBehind_92 rfl 2 rfl ?_
  obtain ⟨r10, e11, h⟩ := bd h
  refine r_cV0 (pc' := 96) C (X3_release_ok hk0 e11) mlX3_62 ceX3_release cvX3_release (ru0 hk0) rfl rfl rfl (Nat.le_of_ble_eq_true rfl) rfl (Nat.le_of_ble_eq_true rfl) dX3_takeBehind_93 rfl (kk := ?_)
  refine r_aload_n (pc' := 97) C dX3_takeBehind_96 rfl 0 rfl ?_
  refine r_iload_n (pc' := 98) C dX3_takeBehind_97 rfl 1 rfl ?_
  obtain ⟨r12, e13, h⟩ := bd h
  refine r_cV0 (pc' := 101) C (X3_hold_ok hk0 e13) mlX3_66 ceX3_hold cvX3_hold (ru0 hk0) rfl rfl rfl (Nat.le_of_ble_eq_true rfl) rfl (Nat.le_of_ble_eq_true rfl) dX3_takeBehind_98 rfl (kk := ?_)
  refine r_aload_n (pc' := 102) C dX3_takeBehind_101 rfl 0 rfl ?_
  refine r_iconst (pc' := 103) C dX3_takeBehind_102 rfl kc_1 ?_
  obtain ⟨σ14, e15, h⟩ := bs h
  refine r_putI (pc' := 106) (σ1 := σ14) C fpX3_45 (ru0 hk0) rfl rfl rfl dX3_takeBehind_103 rfl e15 ?_
  refine r_iconst (pc' := 107) C dX3_takeBehind_106 rfl kc_1 ?_
  have h := Option.some.inj h
  subst h
  exact r_ret C rfl dX3_takeBehind_107 hE
def X3_takeBehind_j21 (N : Nat) (k0 : Nat)  (v1 : Int32) (σ : Sg) : Option (Int32 × Sg) :=
  bnS (wi σ k0 7 0) fun σ2 => if v1 = 41 then ((X3_close N k0 σ2).bind fun r19 => (if isB r19.1 = true then some (r19.1, r19.2) else none)) else ((X3_strengthOf N v1 σ2).bind fun r5 => (if r5 < 1 then (some (0, σ2)) else (if r5 ≤ 3 then (if r5 = 1 then (if (((gi σ2 k0 6) >>> ((gi σ2 k0 5) &&& 31)) &&& 1) = 1 then (some (0, σ2)) else (bnS (wi σ2 k0 6 ((gi σ2 k0 6) ||| (1 <<< ((gi σ2 k0 5) &&& 31)))) fun σ17 => X3_takeBehind_j91 N k0 v1 r5 σ17)) else (X3_takeBehind_j91 N k0 v1 r5 σ2)) else (some (0, σ2)))))
set_option maxRecDepth 100000 in
set_option maxHeartbeats 4000000 in
theorem X3_takeBehind_j21_ok {E : Ev} {S : List Sh} {k0 : Nat} (hk0 : RuAt S k0) {N : Nat}    {v1 : Int32} {σ : Sg} {r : Int32 × Sg} (h : X3_takeBehind_j21 N k0  v1 σ = some r) : Gp E RX3 cX3_takeBehind (some .boolean) 3 (3) S r.2 (some (.int r.1)) σ 21 [(0, .ref k0), (1, .int v1)] [] := by
  intro Z C hE
  unfold X3_takeBehind_j21 at h
  refine r_aload_n (pc' := 22) C dX3_takeBehind_21 rfl 0 rfl ?_
  refine r_iconst (pc' := 23) C dX3_takeBehind_22 rfl kc_0 ?_
  obtain ⟨σ2, e3, h⟩ := bs h
  refine r_putI (pc' := 26) (σ1 := σ2) C fpX3_42 (ru0 hk0) rfl rfl rfl dX3_takeBehind_23 rfl e3 ?_
  refine r_iload_n (pc' := 27) C dX3_takeBehind_26 rfl 1 rfl ?_
  refine r_bipush (pc' := 29) C dX3_takeBehind_27 rfl kb_41 ?_
  refine r_icmp_ne (tgt := 37) (pc' := 32) C dX3_takeBehind_29 rfl rfl (fun c4 => ?_) (fun c4 => ?_)
  · rw [if_neg c4] at h
    refine r_iload_n (pc' := 38) C dX3_takeBehind_37 rfl 1 rfl ?_
    obtain ⟨r5, e6, h⟩ := bd h
    refine r_cS1 (pc' := 41) C (X3_strengthOf_ok  e6) mlX3_87 ceX3_strengthOf csX3_strengthOf rfl (Nat.le_of_ble_eq_true rfl) rfl (Nat.le_of_ble_eq_true rfl) dX3_takeBehind_38 rfl (kk := ?_)
    refine r_istore_n (pc' := 42) (lv2 := [(2, .int r5), (0, .ref k0), (1, .int v1)]) C dX3_takeBehind_41 rfl rfl (Nat.le_of_ble_eq_true rfl) rfl ?_
    refine r_iload_n (pc' := 43) C dX3_takeBehind_42 rfl 0 rfl ?_
    refine r_iconst (pc' := 44) C dX3_takeBehind_43 rfl kc_1 ?_
    refine r_icmp_lt (tgt := 52) (pc' := 47) C dX3_takeBehind_44 rfl rfl (fun c7 => ?_) (fun c7 => ?_)
    · rw [if_pos c7] at h
      refine r_iconst (pc' := 53) C dX3_takeBehind_52 rfl kc_0 ?_
      have h := Option.some.inj h
      subst h
      exact r_ret C rfl dX3_takeBehind_53 hE
    · rw [if_neg c7] at h
      refine r_iload_n (pc' := 48) C dX3_takeBehind_47 rfl 0 rfl ?_
      refine r_iconst (pc' := 49) C dX3_takeBehind_48 rfl kc_3 ?_
      refine r_icmp_le (tgt := 54) (pc' := 52) C dX3_takeBehind_49 rfl rfl (fun c8 => ?_) (fun c8 => ?_)
      · rw [if_pos c8] at h
        refine r_iload_n (pc' := 55) C dX3_takeBehind_54 rfl 0 rfl ?_
        refine r_iconst (pc' := 56) C dX3_takeBehind_55 rfl kc_1 ?_
        refine r_icmp_ne (tgt := 91) (pc' := 59) C dX3_takeBehind_56 rfl rfl (fun c9 => ?_) (fun c9 => ?_)
        · rw [if_neg c9] at h
          refine r_sub [1, 2, 0] rfl ?_
          exact X3_takeBehind_j91_ok hk0 h Z C hE
        · rw [if_pos c9] at h
          refine r_aload_n (pc' := 60) C dX3_takeBehind_59 rfl 1 rfl ?_
          refine r_getI (pc' := 63) C flX3_39 (ru0 hk0) rfl dX3_takeBehind_60 rfl ?_
          refine r_aload_n (pc' := 64) C dX3_takeBehind_63 rfl 1 rfl ?_
          refine r_getI (pc' := 67) C flX3_36 (ru0 hk0) rfl dX3_takeBehind_64 rfl ?_
          refine r_ishr (pc' := 68) C dX3_takeBehind_67 rfl ?_
          refine r_iconst (pc' := 69) C dX3_takeBehind_68 rfl kc_1 ?_
          refine r_iand (pc' := 70) C dX3_takeBehind_69 rfl ?_
          refine r_iconst (pc' := 71) C dX3_takeBehind_70 rfl kc_1 ?_
          refine r_icmp_ne (tgt := 76) (pc' := 74) C dX3_takeBehind_71 rfl rfl (fun c16 => ?_) (fun c16 => ?_)
          · rw [if_neg c16] at h
            refine r_aload_n (pc' := 77) C dX3_takeBehind_76 rfl 1 rfl ?_
            refine r_dup (pc' := 78) C dX3_takeBehind_77 rfl rfl ?_
            refine r_getI (pc' := 81) C flX3_39 (ru0 hk0) rfl dX3_takeBehind_78 rfl ?_
            refine r_iconst (pc' := 82) C dX3_takeBehind_81 rfl kc_1 ?_
            refine r_aload_n (pc' := 83) C dX3_takeBehind_82 rfl 1 rfl ?_
            refine r_getI (pc' := 86) C flX3_36 (ru0 hk0) rfl dX3_takeBehind_83 rfl ?_
            refine r_ishl (pc' := 87) C dX3_takeBehind_86 rfl ?_
            refine r_ior (pc' := 88) C dX3_takeBehind_87 rfl ?_
            obtain ⟨σ17, e18, h⟩ := bs h
            refine r_putI (pc' := 91) (σ1 := σ17) C fpX3_39 (ru0 hk0) rfl rfl rfl dX3_takeBehind_88 rfl e18 ?_
            refine r_sub [1, 2, 0] rfl ?_
            exact X3_takeBehind_j91_ok hk0 h Z C hE
          · rw [if_pos c16] at h
            refine r_iconst (pc' := 75) C dX3_takeBehind_74 rfl kc_0 ?_
            have h := Option.some.inj h
            subst h
            exact r_ret C rfl dX3_takeBehind_75 hE
      · rw [if_neg c8] at h
        refine r_iconst (pc' := 53) C dX3_takeBehind_52 rfl kc_0 ?_
        have h := Option.some.inj h
        subst h
        exact r_ret C rfl dX3_takeBehind_53 hE
  · rw [if_pos c4] at h
    refine r_aload_n (pc' := 33) C dX3_takeBehind_32 rfl 0 rfl ?_
    obtain ⟨r19, e20, h⟩ := bd h
    refine r_cV1 (pc' := 36) C (X3_close_ok hk0 e20) mlX3_84 ceX3_close cvX3_close (ru0 hk0) rfl rfl rfl (Nat.le_of_ble_eq_true rfl) rfl (Nat.le_of_ble_eq_true rfl) dX3_takeBehind_33 rfl (kk := ?_)
    obtain ⟨q21, h⟩ := ck h
    have h := Option.some.inj h
    subst h
    exact r_ret C (nisB q21) dX3_takeBehind_36 hE
def X3_takeBehind (N : Nat) (k0 : Nat) (v1 : Int32) (σ : Sg) : Option (Int32 × Sg) :=
  if v1 < 48 then (X3_takeBehind_j21 N k0 v1 σ) else (if 57 < v1 then (X3_takeBehind_j21 N k0 v1 σ) else ((X3_lengthen N k0 (v1 - 48) σ).bind fun r23 => (if isB r23.1 = true then some (r23.1, r23.2) else none)))
set_option maxRecDepth 100000 in
set_option maxHeartbeats 4000000 in
theorem X3_takeBehind_ok {E : Ev} {S : List Sh} {k0 : Nat} (hk0 : RuAt S k0) {N : Nat} {v1 : Int32} {σ : Sg} {r : Int32 × Sg} (h : X3_takeBehind N k0 v1 σ = some r) : Cm E (3) yX3_takeBehind cX3_takeBehind 3 (some .boolean) [.ref k0, .int v1] S S σ r.2 (some (.int r.1)) 0 0 := by
  refine Cm.intro (by decide +kernel) (Nat.le_of_ble_eq_true rfl) (fun _ h => by obtain ⟨_, _, _, _, _, _, h⟩ := h; exact h) (fun Z C hE => ?_)
  show Wm E Z 0 0 S σ 0 [(0, .ref k0), (1, .int v1)] []
  unfold X3_takeBehind at h
  refine r_iload_n (pc' := 1) C dX3_takeBehind_0 rfl 1 rfl ?_
  refine r_bipush (pc' := 3) C dX3_takeBehind_1 rfl kb_48 ?_
  refine r_icmp_lt (tgt := 21) (pc' := 6) C dX3_takeBehind_3 rfl rfl (fun c1 => ?_) (fun c1 => ?_)
  · rw [if_pos c1] at h
    exact X3_takeBehind_j21_ok hk0 h Z C hE
  · rw [if_neg c1] at h
    refine r_iload_n (pc' := 7) C dX3_takeBehind_6 rfl 1 rfl ?_
    refine r_bipush (pc' := 9) C dX3_takeBehind_7 rfl kb_57 ?_
    refine r_icmp_gt (tgt := 21) (pc' := 12) C dX3_takeBehind_9 rfl rfl (fun c22 => ?_) (fun c22 => ?_)
    · rw [if_pos c22] at h
      exact X3_takeBehind_j21_ok hk0 h Z C hE
    · rw [if_neg c22] at h
      refine r_aload_n (pc' := 13) C dX3_takeBehind_12 rfl 0 rfl ?_
      refine r_iload_n (pc' := 14) C dX3_takeBehind_13 rfl 1 rfl ?_
      refine r_bipush (pc' := 16) C dX3_takeBehind_14 rfl kb_48 ?_
      refine r_isub (pc' := 17) C dX3_takeBehind_16 rfl ?_
      obtain ⟨r23, e24, h⟩ := bd h
      refine r_cV1 (pc' := 20) C (X3_lengthen_ok hk0 e24) mlX3_80 ceX3_lengthen cvX3_lengthen (ru0 hk0) rfl rfl rfl (Nat.le_of_ble_eq_true rfl) rfl (Nat.le_of_ble_eq_true rfl) dX3_takeBehind_17 rfl (kk := ?_)
      obtain ⟨q25, h⟩ := ck h
      have h := Option.some.inj h
      subst h
      exact r_ret C (nisB q25) dX3_takeBehind_20 hE

/-! BorrowedWeight$Rule.compile([CI)I -/
def X3_compileP_j77 (N : Nat) (k0 : Nat) (kr : Int32 → Int32 → Int32 → Sg → Option (Int32 × Sg)) (v2 : Int32) (v3 : Int32) (v4 : Int32) (s0 : Int32) (σ : Sg) : Option (Int32 × Sg) :=
  if s0 = 0 then (some (v4, σ)) else (kr v2 v3 (v4 + 1) σ)
set_option maxRecDepth 100000 in
set_option maxHeartbeats 4000000 in
theorem X3_compileP_j77_ok {E : Ev} {S : List Sh} {k0 : Nat} (hk0 : RuAt S k0) {N : Nat} {kr : Int32 → Int32 → Int32 → Sg → Option (Int32 × Sg)}  (hkr : ∀ (v2 : Int32) (v3 : Int32) (v4 : Int32) (σ : Sg) (r : Int32 × Sg), kr v2 v3 v4 σ = some r → Gp E RX3 cX3_compile (some .int) 6 (4) S r.2 (some (.int r.1)) σ 45 [(0, .ref k0), (1, .ref 1000), (2, .int v2), (3, .int v3), (4, .int v4)] []) {v2 : Int32} {v3 : Int32} {v4 : Int32} {s0 : Int32} {σ : Sg} {r : Int32 × Sg} (h : X3_compileP_j77 N k0 kr v2 v3 v4 s0 σ = some r) : Gp E RX3 cX3_compile (some .int) 6 (4) S r.2 (some (.int r.1)) σ 77 [(0, .ref k0), (1, .ref 1000), (2, .int v2), (3, .int v3), (4, .int v4)] [.int s0] := by
  intro Z C hE
  unfold X3_compileP_j77 at h
  refine r_istore (pc' := 79) (lv2 := [(5, .int s0), (0, .ref k0), (1, .ref 1000), (2, .int v2), (3, .int v3), (4, .int v4)]) C dX3_compile_77 rfl (Nat.le_of_ble_eq_true rfl) rfl ?_
  refine r_iload (pc' := 81) C dX3_compile_79 rfl 0 rfl ?_
  refine r_if_ne (tgt := 87) (pc' := 84) C dX3_compile_81 rfl rfl (fun c22 => ?_) (fun c22 => ?_)
  · rw [if_neg c22] at h
    refine r_iinc (pc' := 90) (v := v4 + 1) (lv2 := [(4, .int (v4 + 1)), (5, .int s0), (0, .ref k0), (1, .ref 1000), (2, .int v2), (3, .int v3)]) C dX3_compile_87 rfl 5 rfl rfl (Nat.le_of_ble_eq_true rfl) rfl ?_
    refine r_goto (tgt := 45) C dX3_compile_90 rfl ?_
    refine r_sub [2, 3, 4, 5, 0] rfl ?_
    exact hkr _ _ _ _ _ h Z C hE
  · rw [if_pos c22] at h
    refine r_iload (pc' := 86) C dX3_compile_84 rfl 5 rfl ?_
    have h := Option.some.inj h
    subst h
    exact r_ret C rfl dX3_compile_86 hE
def X3_compileP_l45 (N : Nat) (k0 : Nat) (k93 : Int32 → Int32 → Sg → Option (Int32 × Sg))  : Nat → Int32 → Int32 → Int32 → Sg → Option (Int32 × Sg)
  | 0, _, _, _, _ => none
  | n + 1, v2, v3, v4, σ =>
    if v3 ≤ v4 then (k93 v2 v3 σ) else (if (gi σ k0 8) = 0 then (if inb v4 7 = true then (X3_takeBehind N k0 (oC0.getD v4.toNatClampNeg 0) σ).bind fun r20 => (X3_compileP_j77 N k0 (fun v2 v3 v4 σ => X3_compileP_l45 N k0 k93 n v2 v3 v4 σ) v2 v3 v4 r20.1 r20.2) else none) else (if inb v4 7 = true then (X3_takeThing N k0 (oC0.getD v4.toNatClampNeg 0) σ).bind fun r24 => (X3_compileP_j77 N k0 (fun v2 v3 v4 σ => X3_compileP_l45 N k0 k93 n v2 v3 v4 σ) v2 v3 v4 r24.1 r24.2) else none))
set_option maxRecDepth 100000 in
set_option maxHeartbeats 4000000 in
theorem X3_compileP_l45_ok {E : Ev} {S : List Sh} {k0 : Nat} (hk0 : RuAt S k0) {N : Nat} {k93 : Int32 → Int32 → Sg → Option (Int32 × Sg)}  (hk93 : ∀ (v2 : Int32) (v3 : Int32) (σ : Sg) (r : Int32 × Sg), k93 v2 v3 σ = some r → Gp E RX3 cX3_compile (some .int) 6 (4) S r.2 (some (.int r.1)) σ 93 [(0, .ref k0), (2, .int v2), (3, .int v3)] []) : ∀ (n : Nat) (v2 : Int32) (v3 : Int32) (v4 : Int32) (σ : Sg) (r : Int32 × Sg), X3_compileP_l45 N k0 k93 n v2 v3 v4 σ = some r → Gp E RX3 cX3_compile (some .int) 6 (4) S r.2 (some (.int r.1)) σ 45 [(0, .ref k0), (1, .ref 1000), (2, .int v2), (3, .int v3), (4, .int v4)] [] := by
  intro n
  induction n with
  | zero => intro v2 v3 v4 σ r h; cases h
  | succ n ih =>
    intro v2 v3 v4 σ r h Z C hE
    unfold X3_compileP_l45 at h
    refine r_iload (pc' := 47) C dX3_compile_45 rfl 4 rfl ?_
    refine r_iload_n (pc' := 48) C dX3_compile_47 rfl 3 rfl ?_
    refine r_icmp_ge (tgt := 93) (pc' := 51) C dX3_compile_48 rfl rfl (fun c17 => ?_) (fun c17 => ?_)
    · rw [if_pos c17] at h
      refine r_sub [0, 2, 3] rfl ?_
      exact hk93 _ _ _ _ h Z C hE
    · rw [if_neg c17] at h
      refine r_aload_n (pc' := 52) C dX3_compile_51 rfl 0 rfl ?_
      refine r_getI (pc' := 55) C flX3_45 (ru0 hk0) rfl dX3_compile_52 rfl ?_
      refine r_if_eq (tgt := 69) (pc' := 58) C dX3_compile_55 rfl rfl (fun c18 => ?_) (fun c18 => ?_)
      · rw [if_pos c18] at h
        refine r_aload_n (pc' := 70) C dX3_compile_69 rfl 0 rfl ?_
        refine r_aload_n (pc' := 71) C dX3_compile_70 rfl 1 rfl ?_
        refine r_iload (pc' := 73) C dX3_compile_71 rfl 4 rfl ?_
        obtain ⟨q19, h⟩ := ck h
        refine r_oldC (pc' := 74) (l := oC0) C rfl (vin q19) rfl dX3_compile_73 rfl ?_
        obtain ⟨r20, e21, h⟩ := bd h
        refine r_cV1 (pc' := 77) C (X3_takeBehind_ok hk0 e21) mlX3_59 ceX3_takeBehind cvX3_takeBehind (ru0 hk0) rfl rfl rfl (Nat.le_of_ble_eq_true rfl) rfl (Nat.le_of_ble_eq_true rfl) dX3_compile_74 rfl (kk := ?_)
        exact X3_compileP_j77_ok hk0 ih h Z C hE
      · rw [if_neg c18] at h
        refine r_aload_n (pc' := 59) C dX3_compile_58 rfl 0 rfl ?_
        refine r_aload_n (pc' := 60) C dX3_compile_59 rfl 1 rfl ?_
        refine r_iload (pc' := 62) C dX3_compile_60 rfl 4 rfl ?_
        obtain ⟨q23, h⟩ := ck h
        refine r_oldC (pc' := 63) (l := oC0) C rfl (vin q23) rfl dX3_compile_62 rfl ?_
        obtain ⟨r24, e25, h⟩ := bd h
        refine r_cV1 (pc' := 66) C (X3_takeThing_ok hk0 e25) mlX3_55 ceX3_takeThing cvX3_takeThing (ru0 hk0) rfl rfl rfl (Nat.le_of_ble_eq_true rfl) rfl (Nat.le_of_ble_eq_true rfl) dX3_compile_63 rfl (kk := ?_)
        refine r_goto (tgt := 77) C dX3_compile_66 rfl ?_
        exact X3_compileP_j77_ok hk0 ih h Z C hE
def X3_compileP_j93 (N : Nat) (k0 : Nat)  (v2 : Int32) (v3 : Int32) (σ : Sg) : Option (Int32 × Sg) :=
  if v3 < v2 then (some (v3, σ)) else (if (gi σ k0 8) = 0 then (if (gi σ k0 5) ≤ 0 then ((X3_release N k0 1 σ).bind fun r29 => (some ((-1), r29))) else (some (v3, σ))) else (some (v3, σ)))
set_option maxRecDepth 100000 in
set_option maxHeartbeats 4000000 in
theorem X3_compileP_j93_ok {E : Ev} {S : List Sh} {k0 : Nat} (hk0 : RuAt S k0) {N : Nat}    {v2 : Int32} {v3 : Int32} {σ : Sg} {r : Int32 × Sg} (h : X3_compileP_j93 N k0  v2 v3 σ = some r) : Gp E RX3 cX3_compile (some .int) 6 (4) S r.2 (some (.int r.1)) σ 93 [(0, .ref k0), (2, .int v2), (3, .int v3)] [] := by
  intro Z C hE
  unfold X3_compileP_j93 at h
  refine r_iload_n (pc' := 94) C dX3_compile_93 rfl 1 rfl ?_
  refine r_iload_n (pc' := 95) C dX3_compile_94 rfl 2 rfl ?_
  refine r_icmp_gt (tgt := 112) (pc' := 98) C dX3_compile_95 rfl rfl (fun c26 => ?_) (fun c26 => ?_)
  · rw [if_pos c26] at h
    refine r_iload_n (pc' := 113) C dX3_compile_112 rfl 2 rfl ?_
    have h := Option.some.inj h
    subst h
    exact r_ret C rfl dX3_compile_113 hE
  · rw [if_neg c26] at h
    refine r_aload_n (pc' := 99) C dX3_compile_98 rfl 0 rfl ?_
    refine r_getI (pc' := 102) C flX3_45 (ru0 hk0) rfl dX3_compile_99 rfl ?_
    refine r_if_ne (tgt := 112) (pc' := 105) C dX3_compile_102 rfl rfl (fun c27 => ?_) (fun c27 => ?_)
    · rw [if_neg c27] at h
      refine r_iload_n (pc' := 113) C dX3_compile_112 rfl 2 rfl ?_
      have h := Option.some.inj h
      subst h
      exact r_ret C rfl dX3_compile_113 hE
    · rw [if_pos c27] at h
      refine r_aload_n (pc' := 106) C dX3_compile_105 rfl 0 rfl ?_
      refine r_getI (pc' := 109) C flX3_36 (ru0 hk0) rfl dX3_compile_106 rfl ?_
      refine r_if_le (tgt := 114) (pc' := 112) C dX3_compile_109 rfl rfl (fun c28 => ?_) (fun c28 => ?_)
      · rw [if_pos c28] at h
        refine r_aload_n (pc' := 115) C dX3_compile_114 rfl 0 rfl ?_
        refine r_iconst (pc' := 116) C dX3_compile_115 rfl kc_1 ?_
        obtain ⟨r29, e30, h⟩ := bd h
        refine r_cV0 (pc' := 119) C (X3_release_ok hk0 e30) mlX3_62 ceX3_release cvX3_release (ru0 hk0) rfl rfl rfl (Nat.le_of_ble_eq_true rfl) rfl (Nat.le_of_ble_eq_true rfl) dX3_compile_116 rfl (kk := ?_)
        refine r_iconst (pc' := 120) C dX3_compile_119 rfl kc_m1 ?_
        have h := Option.some.inj h
        subst h
        exact r_ret C rfl dX3_compile_120 hE
      · rw [if_neg c28] at h
        refine r_iload_n (pc' := 113) C dX3_compile_112 rfl 2 rfl ?_
        have h := Option.some.inj h
        subst h
        exact r_ret C rfl dX3_compile_113 hE
def X3_compileP (N : Nat) (k0 : Nat) (v2 : Int32) (σ : Sg) : Option (Int32 × Sg) :=
  bnS (wi σ k0 3 0) fun σ1 => bnS (wi σ1 k0 4 0) fun σ3 => bnS (wi σ3 k0 5 0) fun σ5 => bnS (wi σ5 k0 6 0) fun σ7 => bnS (wi σ7 k0 7 0) fun σ9 => bnS (wi σ9 k0 8 1) fun σ11 => (J9_min_7cf53 N v2 7 σ11).bind fun r13 => ((J9_min_7cf53 N r13 40 σ11).bind fun r15 => (X3_compileP_l45 N k0 (fun v2 v3 σ => X3_compileP_j93 N k0 v2 v3 σ) N v2 r15 0 σ11))
set_option maxRecDepth 100000 in
set_option maxHeartbeats 4000000 in
theorem X3_compileP_ok {E : Ev} {S : List Sh} {k0 : Nat} (hk0 : RuAt S k0) {N : Nat} {v2 : Int32} {σ : Sg} {r : Int32 × Sg} (h : X3_compileP N k0 v2 σ = some r) : Cm E (4) yX3_compile cX3_compile 6 (some .int) [.ref k0, .ref 1000, .int v2] S S σ r.2 (some (.int r.1)) 0 0 := by
  refine Cm.intro (by decide +kernel) (Nat.le_of_ble_eq_true rfl) (fun _ h => by obtain ⟨_, _, _, _, _, _, h⟩ := h; exact h) (fun Z C hE => ?_)
  show Wm E Z 0 0 S σ 0 [(0, .ref k0), (1, .ref 1000), (2, .int v2)] []
  unfold X3_compileP at h
  refine r_aload_n (pc' := 1) C dX3_compile_0 rfl 0 rfl ?_
  refine r_iconst (pc' := 2) C dX3_compile_1 rfl kc_0 ?_
  obtain ⟨σ1, e2, h⟩ := bs h
  refine r_putI (pc' := 5) (σ1 := σ1) C fpX3_29 (ru0 hk0) rfl rfl rfl dX3_compile_2 rfl e2 ?_
  refine r_aload_n (pc' := 6) C dX3_compile_5 rfl 0 rfl ?_
  refine r_iconst (pc' := 7) C dX3_compile_6 rfl kc_0 ?_
  obtain ⟨σ3, e4, h⟩ := bs h
  refine r_putI (pc' := 10) (σ1 := σ3) C fpX3_33 (ru0 hk0) rfl rfl rfl dX3_compile_7 rfl e4 ?_
  refine r_aload_n (pc' := 11) C dX3_compile_10 rfl 0 rfl ?_
  refine r_iconst (pc' := 12) C dX3_compile_11 rfl kc_0 ?_
  obtain ⟨σ5, e6, h⟩ := bs h
  refine r_putI (pc' := 15) (σ1 := σ5) C fpX3_36 (ru0 hk0) rfl rfl rfl dX3_compile_12 rfl e6 ?_
  refine r_aload_n (pc' := 16) C dX3_compile_15 rfl 0 rfl ?_
  refine r_iconst (pc' := 17) C dX3_compile_16 rfl kc_0 ?_
  obtain ⟨σ7, e8, h⟩ := bs h
  refine r_putI (pc' := 20) (σ1 := σ7) C fpX3_39 (ru0 hk0) rfl rfl rfl dX3_compile_17 rfl e8 ?_
  refine r_aload_n (pc' := 21) C dX3_compile_20 rfl 0 rfl ?_
  refine r_iconst (pc' := 22) C dX3_compile_21 rfl kc_0 ?_
  obtain ⟨σ9, e10, h⟩ := bs h
  refine r_putI (pc' := 25) (σ1 := σ9) C fpX3_42 (ru0 hk0) rfl rfl rfl dX3_compile_22 rfl e10 ?_
  refine r_aload_n (pc' := 26) C dX3_compile_25 rfl 0 rfl ?_
  refine r_iconst (pc' := 27) C dX3_compile_26 rfl kc_1 ?_
  obtain ⟨σ11, e12, h⟩ := bs h
  refine r_putI (pc' := 30) (σ1 := σ11) C fpX3_45 (ru0 hk0) rfl rfl rfl dX3_compile_27 rfl e12 ?_
  refine r_iload_n (pc' := 31) C dX3_compile_30 rfl 2 rfl ?_
  refine r_aload_n (pc' := 32) C dX3_compile_31 rfl 1 rfl ?_
  refine r_oldL (pc' := 33) (a := (.char, oC0)) (v := 7) C rfl rfl dX3_compile_32 rfl ?_
  obtain ⟨r13, e14, h⟩ := bd h
  refine r_cS1 (pc' := 36) C (J9_min_7cf53_ok  e14) mlX3_49 ceJ9_min_7cf53 csJ9_min_7cf53 rfl (Nat.le_of_ble_eq_true rfl) rfl (Nat.le_of_ble_eq_true rfl) dX3_compile_33 rfl (kk := ?_)
  refine r_bipush (pc' := 38) C dX3_compile_36 rfl kb_40 ?_
  obtain ⟨r15, e16, h⟩ := bd h
  refine r_cS1 (pc' := 41) C (J9_min_7cf53_ok  e16) mlX3_49 ceJ9_min_7cf53 csJ9_min_7cf53 rfl (Nat.le_of_ble_eq_true rfl) rfl (Nat.le_of_ble_eq_true rfl) dX3_compile_38 rfl (kk := ?_)
  refine r_istore_n (pc' := 42) (lv2 := [(3, .int r15), (0, .ref k0), (1, .ref 1000), (2, .int v2)]) C dX3_compile_41 rfl rfl (Nat.le_of_ble_eq_true rfl) rfl ?_
  refine r_iconst (pc' := 43) C dX3_compile_42 rfl kc_0 ?_
  refine r_istore (pc' := 45) (lv2 := [(4, .int 0), (3, .int r15), (0, .ref k0), (1, .ref 1000), (2, .int v2)]) C dX3_compile_43 rfl (Nat.le_of_ble_eq_true rfl) rfl ?_
  refine r_sub [2, 3, 4, 1, 0] rfl ?_
  exact X3_compileP_l45_ok hk0 (fun _ _ _ _ h Z C hE => by exact X3_compileP_j93_ok hk0 h Z C hE) N _ _ _ _ _ h Z C hE

/-! BorrowedWeight$Rule.compile([CI)I -/
def X3_compileT_j77 (N : Nat) (k0 : Nat) (kr : Int32 → Int32 → Int32 → Sg → Option (Int32 × Sg)) (v2 : Int32) (v3 : Int32) (v4 : Int32) (s0 : Int32) (σ : Sg) : Option (Int32 × Sg) :=
  if s0 = 0 then (some (v4, σ)) else (kr v2 v3 (v4 + 1) σ)
set_option maxRecDepth 100000 in
set_option maxHeartbeats 4000000 in
theorem X3_compileT_j77_ok {E : Ev} {k0 : Nat} (hk0 : RuAt SH0 k0) {N : Nat} {kr : Int32 → Int32 → Int32 → Sg → Option (Int32 × Sg)}  (hkr : ∀ (v2 : Int32) (v3 : Int32) (v4 : Int32) (σ : Sg) (r : Int32 × Sg), kr v2 v3 v4 σ = some r → Gp E RX3 cX3_compile (some .int) 6 (4) SH0 r.2 (some (.int r.1)) σ 45 [(0, .ref k0), (1, .ref 2), (2, .int v2), (3, .int v3), (4, .int v4)] []) {v2 : Int32} {v3 : Int32} {v4 : Int32} {s0 : Int32} {σ : Sg} {r : Int32 × Sg} (h : X3_compileT_j77 N k0 kr v2 v3 v4 s0 σ = some r) : Gp E RX3 cX3_compile (some .int) 6 (4) SH0 r.2 (some (.int r.1)) σ 77 [(0, .ref k0), (1, .ref 2), (2, .int v2), (3, .int v3), (4, .int v4)] [.int s0] := by
  intro Z C hE
  unfold X3_compileT_j77 at h
  refine r_istore (pc' := 79) (lv2 := [(5, .int s0), (0, .ref k0), (1, .ref 2), (2, .int v2), (3, .int v3), (4, .int v4)]) C dX3_compile_77 rfl (Nat.le_of_ble_eq_true rfl) rfl ?_
  refine r_iload (pc' := 81) C dX3_compile_79 rfl 0 rfl ?_
  refine r_if_ne (tgt := 87) (pc' := 84) C dX3_compile_81 rfl rfl (fun c22 => ?_) (fun c22 => ?_)
  · rw [if_neg c22] at h
    refine r_iinc (pc' := 90) (v := v4 + 1) (lv2 := [(4, .int (v4 + 1)), (5, .int s0), (0, .ref k0), (1, .ref 2), (2, .int v2), (3, .int v3)]) C dX3_compile_87 rfl 5 rfl rfl (Nat.le_of_ble_eq_true rfl) rfl ?_
    refine r_goto (tgt := 45) C dX3_compile_90 rfl ?_
    refine r_sub [2, 3, 4, 5, 0] rfl ?_
    exact hkr _ _ _ _ _ h Z C hE
  · rw [if_pos c22] at h
    refine r_iload (pc' := 86) C dX3_compile_84 rfl 5 rfl ?_
    have h := Option.some.inj h
    subst h
    exact r_ret C rfl dX3_compile_86 hE
def X3_compileT_l45 (N : Nat) (k0 : Nat) (k93 : Int32 → Int32 → Sg → Option (Int32 × Sg))  : Nat → Int32 → Int32 → Int32 → Sg → Option (Int32 × Sg)
  | 0, _, _, _, _ => none
  | n + 1, v2, v3, v4, σ =>
    if v3 ≤ v4 then (k93 v2 v3 σ) else (if (gi σ k0 8) = 0 then (if inb v4 80 = true then (X3_takeBehind N k0 (gi σ 2 v4.toNatClampNeg) σ).bind fun r20 => (X3_compileT_j77 N k0 (fun v2 v3 v4 σ => X3_compileT_l45 N k0 k93 n v2 v3 v4 σ) v2 v3 v4 r20.1 r20.2) else none) else (if inb v4 80 = true then (X3_takeThing N k0 (gi σ 2 v4.toNatClampNeg) σ).bind fun r24 => (X3_compileT_j77 N k0 (fun v2 v3 v4 σ => X3_compileT_l45 N k0 k93 n v2 v3 v4 σ) v2 v3 v4 r24.1 r24.2) else none))
set_option maxRecDepth 100000 in
set_option maxHeartbeats 4000000 in
theorem X3_compileT_l45_ok {E : Ev} {k0 : Nat} (hk0 : RuAt SH0 k0) {N : Nat} {k93 : Int32 → Int32 → Sg → Option (Int32 × Sg)}  (hk93 : ∀ (v2 : Int32) (v3 : Int32) (σ : Sg) (r : Int32 × Sg), k93 v2 v3 σ = some r → Gp E RX3 cX3_compile (some .int) 6 (4) SH0 r.2 (some (.int r.1)) σ 93 [(0, .ref k0), (2, .int v2), (3, .int v3)] []) : ∀ (n : Nat) (v2 : Int32) (v3 : Int32) (v4 : Int32) (σ : Sg) (r : Int32 × Sg), X3_compileT_l45 N k0 k93 n v2 v3 v4 σ = some r → Gp E RX3 cX3_compile (some .int) 6 (4) SH0 r.2 (some (.int r.1)) σ 45 [(0, .ref k0), (1, .ref 2), (2, .int v2), (3, .int v3), (4, .int v4)] [] := by
  intro n
  induction n with
  | zero => intro v2 v3 v4 σ r h; cases h
  | succ n ih =>
    intro v2 v3 v4 σ r h Z C hE
    unfold X3_compileT_l45 at h
    refine r_iload (pc' := 47) C dX3_compile_45 rfl 4 rfl ?_
    refine r_iload_n (pc' := 48) C dX3_compile_47 rfl 3 rfl ?_
    refine r_icmp_ge (tgt := 93) (pc' := 51) C dX3_compile_48 rfl rfl (fun c17 => ?_) (fun c17 => ?_)
    · rw [if_pos c17] at h
      refine r_sub [0, 2, 3] rfl ?_
      exact hk93 _ _ _ _ h Z C hE
    · rw [if_neg c17] at h
      refine r_aload_n (pc' := 52) C dX3_compile_51 rfl 0 rfl ?_
      refine r_getI (pc' := 55) C flX3_45 (ru0 hk0) rfl dX3_compile_52 rfl ?_
      refine r_if_eq (tgt := 69) (pc' := 58) C dX3_compile_55 rfl rfl (fun c18 => ?_) (fun c18 => ?_)
      · rw [if_pos c18] at h
        refine r_aload_n (pc' := 70) C dX3_compile_69 rfl 0 rfl ?_
        refine r_aload_n (pc' := 71) C dX3_compile_70 rfl 1 rfl ?_
        refine r_iload (pc' := 73) C dX3_compile_71 rfl 4 rfl ?_
        obtain ⟨q19, h⟩ := ck h
        refine r_cald (pc' := 74) C sh_2 (vin q19) dX3_compile_73 rfl ?_
        obtain ⟨r20, e21, h⟩ := bd h
        refine r_cV1 (pc' := 77) C (X3_takeBehind_ok hk0 e21) mlX3_59 ceX3_takeBehind cvX3_takeBehind (ru0 hk0) rfl rfl rfl (Nat.le_of_ble_eq_true rfl) rfl (Nat.le_of_ble_eq_true rfl) dX3_compile_74 rfl (kk := ?_)
        exact X3_compileT_j77_ok hk0 ih h Z C hE
      · rw [if_neg c18] at h
        refine r_aload_n (pc' := 59) C dX3_compile_58 rfl 0 rfl ?_
        refine r_aload_n (pc' := 60) C dX3_compile_59 rfl 1 rfl ?_
        refine r_iload (pc' := 62) C dX3_compile_60 rfl 4 rfl ?_
        obtain ⟨q23, h⟩ := ck h
        refine r_cald (pc' := 63) C sh_2 (vin q23) dX3_compile_62 rfl ?_
        obtain ⟨r24, e25, h⟩ := bd h
        refine r_cV1 (pc' := 66) C (X3_takeThing_ok hk0 e25) mlX3_55 ceX3_takeThing cvX3_takeThing (ru0 hk0) rfl rfl rfl (Nat.le_of_ble_eq_true rfl) rfl (Nat.le_of_ble_eq_true rfl) dX3_compile_63 rfl (kk := ?_)
        refine r_goto (tgt := 77) C dX3_compile_66 rfl ?_
        exact X3_compileT_j77_ok hk0 ih h Z C hE
def X3_compileT_j93 (N : Nat) (k0 : Nat)  (v2 : Int32) (v3 : Int32) (σ : Sg) : Option (Int32 × Sg) :=
  if v3 < v2 then (some (v3, σ)) else (if (gi σ k0 8) = 0 then (if (gi σ k0 5) ≤ 0 then ((X3_release N k0 1 σ).bind fun r29 => (some ((-1), r29))) else (some (v3, σ))) else (some (v3, σ)))
set_option maxRecDepth 100000 in
set_option maxHeartbeats 4000000 in
theorem X3_compileT_j93_ok {E : Ev} {k0 : Nat} (hk0 : RuAt SH0 k0) {N : Nat}    {v2 : Int32} {v3 : Int32} {σ : Sg} {r : Int32 × Sg} (h : X3_compileT_j93 N k0  v2 v3 σ = some r) : Gp E RX3 cX3_compile (some .int) 6 (4) SH0 r.2 (some (.int r.1)) σ 93 [(0, .ref k0), (2, .int v2), (3, .int v3)] [] := by
  intro Z C hE
  unfold X3_compileT_j93 at h
  refine r_iload_n (pc' := 94) C dX3_compile_93 rfl 1 rfl ?_
  refine r_iload_n (pc' := 95) C dX3_compile_94 rfl 2 rfl ?_
  refine r_icmp_gt (tgt := 112) (pc' := 98) C dX3_compile_95 rfl rfl (fun c26 => ?_) (fun c26 => ?_)
  · rw [if_pos c26] at h
    refine r_iload_n (pc' := 113) C dX3_compile_112 rfl 2 rfl ?_
    have h := Option.some.inj h
    subst h
    exact r_ret C rfl dX3_compile_113 hE
  · rw [if_neg c26] at h
    refine r_aload_n (pc' := 99) C dX3_compile_98 rfl 0 rfl ?_
    refine r_getI (pc' := 102) C flX3_45 (ru0 hk0) rfl dX3_compile_99 rfl ?_
    refine r_if_ne (tgt := 112) (pc' := 105) C dX3_compile_102 rfl rfl (fun c27 => ?_) (fun c27 => ?_)
    · rw [if_neg c27] at h
      refine r_iload_n (pc' := 113) C dX3_compile_112 rfl 2 rfl ?_
      have h := Option.some.inj h
      subst h
      exact r_ret C rfl dX3_compile_113 hE
    · rw [if_pos c27] at h
      refine r_aload_n (pc' := 106) C dX3_compile_105 rfl 0 rfl ?_
      refine r_getI (pc' := 109) C flX3_36 (ru0 hk0) rfl dX3_compile_106 rfl ?_
      refine r_if_le (tgt := 114) (pc' := 112) C dX3_compile_109 rfl rfl (fun c28 => ?_) (fun c28 => ?_)
      · rw [if_pos c28] at h
        refine r_aload_n (pc' := 115) C dX3_compile_114 rfl 0 rfl ?_
        refine r_iconst (pc' := 116) C dX3_compile_115 rfl kc_1 ?_
        obtain ⟨r29, e30, h⟩ := bd h
        refine r_cV0 (pc' := 119) C (X3_release_ok hk0 e30) mlX3_62 ceX3_release cvX3_release (ru0 hk0) rfl rfl rfl (Nat.le_of_ble_eq_true rfl) rfl (Nat.le_of_ble_eq_true rfl) dX3_compile_116 rfl (kk := ?_)
        refine r_iconst (pc' := 120) C dX3_compile_119 rfl kc_m1 ?_
        have h := Option.some.inj h
        subst h
        exact r_ret C rfl dX3_compile_120 hE
      · rw [if_neg c28] at h
        refine r_iload_n (pc' := 113) C dX3_compile_112 rfl 2 rfl ?_
        have h := Option.some.inj h
        subst h
        exact r_ret C rfl dX3_compile_113 hE
def X3_compileT (N : Nat) (k0 : Nat) (v2 : Int32) (σ : Sg) : Option (Int32 × Sg) :=
  bnS (wi σ k0 3 0) fun σ1 => bnS (wi σ1 k0 4 0) fun σ3 => bnS (wi σ3 k0 5 0) fun σ5 => bnS (wi σ5 k0 6 0) fun σ7 => bnS (wi σ7 k0 7 0) fun σ9 => bnS (wi σ9 k0 8 1) fun σ11 => (J9_min_7cf53 N v2 80 σ11).bind fun r13 => ((J9_min_7cf53 N r13 40 σ11).bind fun r15 => (X3_compileT_l45 N k0 (fun v2 v3 σ => X3_compileT_j93 N k0 v2 v3 σ) N v2 r15 0 σ11))
set_option maxRecDepth 100000 in
set_option maxHeartbeats 4000000 in
theorem X3_compileT_ok {E : Ev} {k0 : Nat} (hk0 : RuAt SH0 k0) {N : Nat} {v2 : Int32} {σ : Sg} {r : Int32 × Sg} (h : X3_compileT N k0 v2 σ = some r) : Cm E (4) yX3_compile cX3_compile 6 (some .int) [.ref k0, .ref 2, .int v2] SH0 SH0 σ r.2 (some (.int r.1)) 0 0 := by
  refine Cm.intro (by decide +kernel) (Nat.le_of_ble_eq_true rfl) (fun _ h => by obtain ⟨_, _, _, _, _, _, h⟩ := h; exact h) (fun Z C hE => ?_)
  show Wm E Z 0 0 SH0 σ 0 [(0, .ref k0), (1, .ref 2), (2, .int v2)] []
  unfold X3_compileT at h
  refine r_aload_n (pc' := 1) C dX3_compile_0 rfl 0 rfl ?_
  refine r_iconst (pc' := 2) C dX3_compile_1 rfl kc_0 ?_
  obtain ⟨σ1, e2, h⟩ := bs h
  refine r_putI (pc' := 5) (σ1 := σ1) C fpX3_29 (ru0 hk0) rfl rfl rfl dX3_compile_2 rfl e2 ?_
  refine r_aload_n (pc' := 6) C dX3_compile_5 rfl 0 rfl ?_
  refine r_iconst (pc' := 7) C dX3_compile_6 rfl kc_0 ?_
  obtain ⟨σ3, e4, h⟩ := bs h
  refine r_putI (pc' := 10) (σ1 := σ3) C fpX3_33 (ru0 hk0) rfl rfl rfl dX3_compile_7 rfl e4 ?_
  refine r_aload_n (pc' := 11) C dX3_compile_10 rfl 0 rfl ?_
  refine r_iconst (pc' := 12) C dX3_compile_11 rfl kc_0 ?_
  obtain ⟨σ5, e6, h⟩ := bs h
  refine r_putI (pc' := 15) (σ1 := σ5) C fpX3_36 (ru0 hk0) rfl rfl rfl dX3_compile_12 rfl e6 ?_
  refine r_aload_n (pc' := 16) C dX3_compile_15 rfl 0 rfl ?_
  refine r_iconst (pc' := 17) C dX3_compile_16 rfl kc_0 ?_
  obtain ⟨σ7, e8, h⟩ := bs h
  refine r_putI (pc' := 20) (σ1 := σ7) C fpX3_39 (ru0 hk0) rfl rfl rfl dX3_compile_17 rfl e8 ?_
  refine r_aload_n (pc' := 21) C dX3_compile_20 rfl 0 rfl ?_
  refine r_iconst (pc' := 22) C dX3_compile_21 rfl kc_0 ?_
  obtain ⟨σ9, e10, h⟩ := bs h
  refine r_putI (pc' := 25) (σ1 := σ9) C fpX3_42 (ru0 hk0) rfl rfl rfl dX3_compile_22 rfl e10 ?_
  refine r_aload_n (pc' := 26) C dX3_compile_25 rfl 0 rfl ?_
  refine r_iconst (pc' := 27) C dX3_compile_26 rfl kc_1 ?_
  obtain ⟨σ11, e12, h⟩ := bs h
  refine r_putI (pc' := 30) (σ1 := σ11) C fpX3_45 (ru0 hk0) rfl rfl rfl dX3_compile_27 rfl e12 ?_
  refine r_iload_n (pc' := 31) C dX3_compile_30 rfl 2 rfl ?_
  refine r_aload_n (pc' := 32) C dX3_compile_31 rfl 1 rfl ?_
  refine r_alen (pc' := 33) (v := 80) C sh_2 rfl rfl dX3_compile_32 rfl ?_
  obtain ⟨r13, e14, h⟩ := bd h
  refine r_cS1 (pc' := 36) C (J9_min_7cf53_ok  e14) mlX3_49 ceJ9_min_7cf53 csJ9_min_7cf53 rfl (Nat.le_of_ble_eq_true rfl) rfl (Nat.le_of_ble_eq_true rfl) dX3_compile_33 rfl (kk := ?_)
  refine r_bipush (pc' := 38) C dX3_compile_36 rfl kb_40 ?_
  obtain ⟨r15, e16, h⟩ := bd h
  refine r_cS1 (pc' := 41) C (J9_min_7cf53_ok  e16) mlX3_49 ceJ9_min_7cf53 csJ9_min_7cf53 rfl (Nat.le_of_ble_eq_true rfl) rfl (Nat.le_of_ble_eq_true rfl) dX3_compile_38 rfl (kk := ?_)
  refine r_istore_n (pc' := 42) (lv2 := [(3, .int r15), (0, .ref k0), (1, .ref 2), (2, .int v2)]) C dX3_compile_41 rfl rfl (Nat.le_of_ble_eq_true rfl) rfl ?_
  refine r_iconst (pc' := 43) C dX3_compile_42 rfl kc_0 ?_
  refine r_istore (pc' := 45) (lv2 := [(4, .int 0), (3, .int r15), (0, .ref k0), (1, .ref 2), (2, .int v2)]) C dX3_compile_43 rfl (Nat.le_of_ble_eq_true rfl) rfl ?_
  refine r_sub [2, 3, 4, 1, 0] rfl ?_
  exact X3_compileT_l45_ok hk0 (fun _ _ _ _ h Z C hE => by exact X3_compileT_j93_ok hk0 h Z C hE) N _ _ _ _ _ h Z C hE

/-! BorrowedWeight$Text.add(I)I -/
def X6_add_l14 (N : Nat)    : Nat → Int32 → Int32 → Sg → Option (Int32 × Sg)
  | 0, _, _, _ => none
  | n + 1, v1, v2, σ =>
    if v2 < 0 then (some (gi σ 1 1, σ)) else (if inb (gi σ 1 1) 80 = true then bnS (wi σ 2 (gi σ 1 1).toNatClampNeg (vp_nar .char (i2c_ ((ushr v1 v2) &&& 255)))) fun σ4 => bnS (wi σ4 1 1 ((gi σ4 1 1) + 1)) fun σ6 => X6_add_l14 N n v1 (v2 + (-8)) σ6 else none)
set_option maxRecDepth 100000 in
set_option maxHeartbeats 4000000 in
theorem X6_add_l14_ok {E : Ev}  {N : Nat}    : ∀ (n : Nat) (v1 : Int32) (v2 : Int32) (σ : Sg) (r : Int32 × Sg), X6_add_l14 N n v1 v2 σ = some r → Gp E RX6 cX6_add (some .int) 3 (0) SH0 r.2 (some (.int r.1)) σ 14 [(0, .ref 1), (1, .int v1), (2, .int v2)] [] := by
  intro n
  induction n with
  | zero => intro v1 v2 σ r h; cases h
  | succ n ih =>
    intro v1 v2 σ r h Z C hE
    unfold X6_add_l14 at h
    refine r_iload_n (pc' := 15) C dX6_add_14 rfl 2 rfl ?_
    refine r_if_lt (tgt := 51) (pc' := 18) C dX6_add_15 rfl rfl (fun c2 => ?_) (fun c2 => ?_)
    · rw [if_pos c2] at h
      refine r_aload_n (pc' := 52) C dX6_add_51 rfl 0 rfl ?_
      refine r_getI (pc' := 55) C flX6_15 sh_1 rfl dX6_add_52 rfl ?_
      have h := Option.some.inj h
      subst h
      exact r_ret C rfl dX6_add_55 hE
    · rw [if_neg c2] at h
      refine r_aload_n (pc' := 19) C dX6_add_18 rfl 0 rfl ?_
      refine r_getR (pc' := 22) C flX6_9 sh_1 rfl dX6_add_19 rfl ?_
      refine r_aload_n (pc' := 23) C dX6_add_22 rfl 0 rfl ?_
      refine r_getI (pc' := 26) C flX6_15 sh_1 rfl dX6_add_23 rfl ?_
      refine r_iload_n (pc' := 27) C dX6_add_26 rfl 1 rfl ?_
      refine r_iload_n (pc' := 28) C dX6_add_27 rfl 2 rfl ?_
      refine r_iushr (pc' := 29) (v := ushr v1 v2) C dX6_add_28 rfl rfl ?_
      refine r_sipush (pc' := 32) C dX6_add_29 rfl ks_255 ?_
      refine r_iand (pc' := 33) C dX6_add_32 rfl ?_
      refine r_i2c (pc' := 34) (v := i2c_ ((ushr v1 v2) &&& 255)) C dX6_add_33 rfl rfl ?_
      obtain ⟨q3, h⟩ := ck h
      obtain ⟨σ4, e5, h⟩ := bs h
      refine r_cast (pc' := 35) (σ1 := σ4) C sh_2 (vin q3) dX6_add_34 rfl e5 ?_
      refine r_aload_n (pc' := 36) C dX6_add_35 rfl 0 rfl ?_
      refine r_dup (pc' := 37) C dX6_add_36 rfl rfl ?_
      refine r_getI (pc' := 40) C flX6_15 sh_1 rfl dX6_add_37 rfl ?_
      refine r_iconst (pc' := 41) C dX6_add_40 rfl kc_1 ?_
      refine r_iadd (pc' := 42) C dX6_add_41 rfl ?_
      obtain ⟨σ6, e7, h⟩ := bs h
      refine r_putI (pc' := 45) (σ1 := σ6) C fpX6_15 sh_1 rfl rfl rfl dX6_add_42 rfl e7 ?_
      refine r_iinc (pc' := 48) (v := v2 + (-8)) (lv2 := [(2, .int (v2 + (-8))), (0, .ref 1), (1, .int v1)]) C dX6_add_45 rfl 2 rfl rfl (Nat.le_of_ble_eq_true rfl) rfl ?_
      refine r_goto (tgt := 14) C dX6_add_48 rfl ?_
      refine r_sub [1, 2, 0] rfl ?_
      exact ih _ _ _ _ h Z C hE
def X6_add (N : Nat)  (v1 : Int32) (σ : Sg) : Option (Int32 × Sg) :=
  if (gi σ 1 1) ≤ 76 then (X6_add_l14 N N v1 24 σ) else (some ((-1), σ))
set_option maxRecDepth 100000 in
set_option maxHeartbeats 4000000 in
theorem X6_add_ok {E : Ev}  {N : Nat} {v1 : Int32} {σ : Sg} {r : Int32 × Sg} (h : X6_add N  v1 σ = some r) : Cm E (0) yX6_add cX6_add 3 (some .int) [.ref 1, .int v1] SH0 SH0 σ r.2 (some (.int r.1)) 0 0 := by
  refine Cm.intro (by decide +kernel) (Nat.le_of_ble_eq_true rfl) (fun _ h => by obtain ⟨_, _, _, _, _, _, h⟩ := h; exact h) (fun Z C hE => ?_)
  show Wm E Z 0 0 SH0 σ 0 [(0, .ref 1), (1, .int v1)] []
  unfold X6_add at h
  refine r_aload_n (pc' := 1) C dX6_add_0 rfl 0 rfl ?_
  refine r_getI (pc' := 4) C flX6_15 sh_1 rfl dX6_add_1 rfl ?_
  refine r_bipush (pc' := 6) C dX6_add_4 rfl kb_76 ?_
  refine r_icmp_le (tgt := 11) (pc' := 9) C dX6_add_6 rfl rfl (fun c1 => ?_) (fun c1 => ?_)
  · rw [if_pos c1] at h
    refine r_bipush (pc' := 13) C dX6_add_11 rfl kb_24 ?_
    refine r_istore_n (pc' := 14) (lv2 := [(2, .int 24), (0, .ref 1), (1, .int v1)]) C dX6_add_13 rfl rfl (Nat.le_of_ble_eq_true rfl) rfl ?_
    refine r_sub [1, 2, 0] rfl ?_
    exact X6_add_l14_ok  N _ _ _ _ h Z C hE
  · rw [if_neg c1] at h
    refine r_iconst (pc' := 10) C dX6_add_9 rfl kc_m1 ?_
    have h := Option.some.inj h
    subst h
    exact r_ret C rfl dX6_add_10 hE

/-! BorrowedWeight.sign(I)I -/
def X8_sign (N : Nat)  (v1 : Int32) (σ : Sg) : Option (Int32 × Sg) :=
  (X6_add N v1 σ).bind fun r1 => (some (r1.1, r1.2))
set_option maxRecDepth 100000 in
set_option maxHeartbeats 4000000 in
theorem X8_sign_ok {E : Ev}  {N : Nat} {v1 : Int32} {σ : Sg} {r : Int32 × Sg} (h : X8_sign N  v1 σ = some r) : Cm E (1) yX8_sign cX8_sign 2 (some .int) [.ref 0, .int v1] SH0 SH0 σ r.2 (some (.int r.1)) 0 0 := by
  refine Cm.intro (by decide +kernel) (Nat.le_of_ble_eq_true rfl) (fun _ h => by obtain ⟨_, _, _, _, _, _, h⟩ := h; exact h) (fun Z C hE => ?_)
  show Wm E Z 0 0 SH0 σ 0 [(0, .ref 0), (1, .int v1)] []
  unfold X8_sign at h
  refine r_aload_n (pc' := 1) C dX8_sign_0 rfl 0 rfl ?_
  refine r_getR (pc' := 4) C flX8_10 sh_0 rfl dX8_sign_1 rfl ?_
  refine r_iload_n (pc' := 5) C dX8_sign_4 rfl 1 rfl ?_
  obtain ⟨r1, e2, h⟩ := bd h
  refine r_cV1 (pc' := 8) C (X6_add_ok  e2) mlX8_84 ceX6_add cvX6_add sh_1 rfl rfl rfl (Nat.le_of_ble_eq_true rfl) rfl (Nat.le_of_ble_eq_true rfl) dX8_sign_5 rfl (kk := ?_)
  have h := Option.some.inj h
  subst h
  exact r_ret C rfl dX8_sign_8 hE

/-! BorrowedWeight$Text.cut(I)Z -/
def X6_cut (N : Nat)  (v1 : Int32) (σ : Sg) : Option (Int32 × Sg) :=
  if v1 < 0 then (some (0, σ)) else (if v1 ≤ (gi σ 1 1) then (bnS (wi σ 1 1 v1) fun σ3 => some (1, σ3)) else (some (0, σ)))
set_option maxRecDepth 100000 in
set_option maxHeartbeats 4000000 in
theorem X6_cut_ok {E : Ev}  {N : Nat} {v1 : Int32} {σ : Sg} {r : Int32 × Sg} (h : X6_cut N  v1 σ = some r) : Cm E (0) yX6_cut cX6_cut 2 (some .boolean) [.ref 1, .int v1] SH0 SH0 σ r.2 (some (.int r.1)) 0 0 := by
  refine Cm.intro (by decide +kernel) (Nat.le_of_ble_eq_true rfl) (fun _ h => by obtain ⟨_, _, _, _, _, _, h⟩ := h; exact h) (fun Z C hE => ?_)
  show Wm E Z 0 0 SH0 σ 0 [(0, .ref 1), (1, .int v1)] []
  unfold X6_cut at h
  refine r_iload_n (pc' := 1) C dX6_cut_0 rfl 1 rfl ?_
  refine r_if_lt (tgt := 12) (pc' := 4) C dX6_cut_1 rfl rfl (fun c1 => ?_) (fun c1 => ?_)
  · rw [if_pos c1] at h
    refine r_iconst (pc' := 13) C dX6_cut_12 rfl kc_0 ?_
    have h := Option.some.inj h
    subst h
    exact r_ret C rfl dX6_cut_13 hE
  · rw [if_neg c1] at h
    refine r_iload_n (pc' := 5) C dX6_cut_4 rfl 1 rfl ?_
    refine r_aload_n (pc' := 6) C dX6_cut_5 rfl 0 rfl ?_
    refine r_getI (pc' := 9) C flX6_15 sh_1 rfl dX6_cut_6 rfl ?_
    refine r_icmp_le (tgt := 14) (pc' := 12) C dX6_cut_9 rfl rfl (fun c2 => ?_) (fun c2 => ?_)
    · rw [if_pos c2] at h
      refine r_aload_n (pc' := 15) C dX6_cut_14 rfl 0 rfl ?_
      refine r_iload_n (pc' := 16) C dX6_cut_15 rfl 1 rfl ?_
      obtain ⟨σ3, e4, h⟩ := bs h
      refine r_putI (pc' := 19) (σ1 := σ3) C fpX6_15 sh_1 rfl rfl rfl dX6_cut_16 rfl e4 ?_
      refine r_iconst (pc' := 20) C dX6_cut_19 rfl kc_1 ?_
      have h := Option.some.inj h
      subst h
      exact r_ret C rfl dX6_cut_20 hE
    · rw [if_neg c2] at h
      refine r_iconst (pc' := 13) C dX6_cut_12 rfl kc_0 ?_
      have h := Option.some.inj h
      subst h
      exact r_ret C rfl dX6_cut_13 hE

/-! BorrowedWeight.end(I)Z -/
def X8_end (N : Nat)  (v1 : Int32) (σ : Sg) : Option (Int32 × Sg) :=
  (X6_cut N v1 σ).bind fun r1 => (if isB r1.1 = true then some (r1.1, r1.2) else none)
set_option maxRecDepth 100000 in
set_option maxHeartbeats 4000000 in
theorem X8_end_ok {E : Ev}  {N : Nat} {v1 : Int32} {σ : Sg} {r : Int32 × Sg} (h : X8_end N  v1 σ = some r) : Cm E (1) yX8_end cX8_end 2 (some .boolean) [.ref 0, .int v1] SH0 SH0 σ r.2 (some (.int r.1)) 0 0 := by
  refine Cm.intro (by decide +kernel) (Nat.le_of_ble_eq_true rfl) (fun _ h => by obtain ⟨_, _, _, _, _, _, h⟩ := h; exact h) (fun Z C hE => ?_)
  show Wm E Z 0 0 SH0 σ 0 [(0, .ref 0), (1, .int v1)] []
  unfold X8_end at h
  refine r_aload_n (pc' := 1) C dX8_end_0 rfl 0 rfl ?_
  refine r_getR (pc' := 4) C flX8_10 sh_0 rfl dX8_end_1 rfl ?_
  refine r_iload_n (pc' := 5) C dX8_end_4 rfl 1 rfl ?_
  obtain ⟨r1, e2, h⟩ := bd h
  refine r_cV1 (pc' := 8) C (X6_cut_ok  e2) mlX8_88 ceX6_cut cvX6_cut sh_1 rfl rfl rfl (Nat.le_of_ble_eq_true rfl) rfl (Nat.le_of_ble_eq_true rfl) dX8_end_5 rfl (kk := ?_)
  obtain ⟨q3, h⟩ := ck h
  have h := Option.some.inj h
  subst h
  exact r_ret C (nisB q3) dX8_end_8 hE

/-! BorrowedWeight$Text.at(I)C -/
def X6_at (N : Nat)  (v1 : Int32) (σ : Sg) : Option (Int32) :=
  if v1 < 0 then (some 0) else (if (gi σ 1 1) ≤ v1 then (some 0) else (if inb v1 80 = true then if isC (gi σ 2 v1.toNatClampNeg) = true then some (gi σ 2 v1.toNatClampNeg) else none else none))
set_option maxRecDepth 100000 in
set_option maxHeartbeats 4000000 in
theorem X6_at_ok {E : Ev}  {N : Nat} {v1 : Int32} {σ : Sg} {r : Int32} (h : X6_at N  v1 σ = some r) : Cm E (0) yX6_at cX6_at 2 (some .char) [.ref 1, .int v1] SH0 SH0 σ σ (some (.int r)) 0 0 := by
  refine Cm.intro (by decide +kernel) (Nat.le_of_ble_eq_true rfl) (fun _ h => by obtain ⟨_, _, _, _, _, _, h⟩ := h; exact h) (fun Z C hE => ?_)
  show Wm E Z 0 0 SH0 σ 0 [(0, .ref 1), (1, .int v1)] []
  unfold X6_at at h
  refine r_iload_n (pc' := 1) C dX6_at_0 rfl 1 rfl ?_
  refine r_if_lt (tgt := 21) (pc' := 4) C dX6_at_1 rfl rfl (fun c1 => ?_) (fun c1 => ?_)
  · rw [if_pos c1] at h
    refine r_iconst (pc' := 22) C dX6_at_21 rfl kc_0 ?_
    have h := Option.some.inj h
    subst h
    exact r_ret C rfl dX6_at_22 hE
  · rw [if_neg c1] at h
    refine r_iload_n (pc' := 5) C dX6_at_4 rfl 1 rfl ?_
    refine r_aload_n (pc' := 6) C dX6_at_5 rfl 0 rfl ?_
    refine r_getI (pc' := 9) C flX6_15 sh_1 rfl dX6_at_6 rfl ?_
    refine r_icmp_ge (tgt := 21) (pc' := 12) C dX6_at_9 rfl rfl (fun c2 => ?_) (fun c2 => ?_)
    · rw [if_pos c2] at h
      refine r_iconst (pc' := 22) C dX6_at_21 rfl kc_0 ?_
      have h := Option.some.inj h
      subst h
      exact r_ret C rfl dX6_at_22 hE
    · rw [if_neg c2] at h
      refine r_aload_n (pc' := 13) C dX6_at_12 rfl 0 rfl ?_
      refine r_getR (pc' := 16) C flX6_9 sh_1 rfl dX6_at_13 rfl ?_
      refine r_iload_n (pc' := 17) C dX6_at_16 rfl 1 rfl ?_
      obtain ⟨q3, h⟩ := ck h
      refine r_cald (pc' := 18) C sh_2 (vin q3) dX6_at_17 rfl ?_
      refine r_goto (tgt := 22) C dX6_at_18 rfl ?_
      obtain ⟨q4, h⟩ := ck h
      have h := Option.some.inj h
      subst h
      exact r_ret C (nisC q4) dX6_at_22 hE

/-! BorrowedWeight$Text.digitAt(I)I -/
def X6_digitAt (N : Nat)  (v1 : Int32) (σ : Sg) : Option (Int32) :=
  (X6_at N v1 σ).bind fun r1 => (if r1 < 48 then (some (-1)) else (if 57 < r1 then (some (-1)) else (some (r1 - 48))))
set_option maxRecDepth 100000 in
set_option maxHeartbeats 4000000 in
theorem X6_digitAt_ok {E : Ev}  {N : Nat} {v1 : Int32} {σ : Sg} {r : Int32} (h : X6_digitAt N  v1 σ = some r) : Cm E (1) yX6_digitAt cX6_digitAt 3 (some .int) [.ref 1, .int v1] SH0 SH0 σ σ (some (.int r)) 0 0 := by
  refine Cm.intro (by decide +kernel) (Nat.le_of_ble_eq_true rfl) (fun _ h => by obtain ⟨_, _, _, _, _, _, h⟩ := h; exact h) (fun Z C hE => ?_)
  show Wm E Z 0 0 SH0 σ 0 [(0, .ref 1), (1, .int v1)] []
  unfold X6_digitAt at h
  refine r_aload_n (pc' := 1) C dX6_digitAt_0 rfl 0 rfl ?_
  refine r_iload_n (pc' := 2) C dX6_digitAt_1 rfl 1 rfl ?_
  obtain ⟨r1, e2, h⟩ := bd h
  refine r_cV1 (pc' := 5) C (X6_at_ok  e2) mlX6_19 ceX6_at cvX6_at sh_1 rfl rfl rfl (Nat.le_of_ble_eq_true rfl) rfl (Nat.le_of_ble_eq_true rfl) dX6_digitAt_2 rfl (kk := ?_)
  refine r_istore_n (pc' := 6) (lv2 := [(2, .int r1), (0, .ref 1), (1, .int v1)]) C dX6_digitAt_5 rfl rfl (Nat.le_of_ble_eq_true rfl) rfl ?_
  refine r_iload_n (pc' := 7) C dX6_digitAt_6 rfl 0 rfl ?_
  refine r_bipush (pc' := 9) C dX6_digitAt_7 rfl kb_48 ?_
  refine r_icmp_lt (tgt := 25) (pc' := 12) C dX6_digitAt_9 rfl rfl (fun c3 => ?_) (fun c3 => ?_)
  · rw [if_pos c3] at h
    refine r_iconst (pc' := 26) C dX6_digitAt_25 rfl kc_m1 ?_
    have h := Option.some.inj h
    subst h
    exact r_ret C rfl dX6_digitAt_26 hE
  · rw [if_neg c3] at h
    refine r_iload_n (pc' := 13) C dX6_digitAt_12 rfl 0 rfl ?_
    refine r_bipush (pc' := 15) C dX6_digitAt_13 rfl kb_57 ?_
    refine r_icmp_gt (tgt := 25) (pc' := 18) C dX6_digitAt_15 rfl rfl (fun c4 => ?_) (fun c4 => ?_)
    · rw [if_pos c4] at h
      refine r_iconst (pc' := 26) C dX6_digitAt_25 rfl kc_m1 ?_
      have h := Option.some.inj h
      subst h
      exact r_ret C rfl dX6_digitAt_26 hE
    · rw [if_neg c4] at h
      refine r_iload_n (pc' := 19) C dX6_digitAt_18 rfl 0 rfl ?_
      refine r_bipush (pc' := 21) C dX6_digitAt_19 rfl kb_48 ?_
      refine r_isub (pc' := 22) C dX6_digitAt_21 rfl ?_
      refine r_goto (tgt := 26) C dX6_digitAt_22 rfl ?_
      have h := Option.some.inj h
      subst h
      exact r_ret C rfl dX6_digitAt_26 hE

/-! BorrowedWeight.faultOfThings()I -/
def X8_faultOfThings_j82 (N : Nat)  (kr : Int32 → Int32 → Option (Int32)) (v1 : Int32) (v2 : Int32) (v3 : Int32) (σ : Sg) : Option (Int32) :=
  if v3 = 0 then (some v2) else (kr v1 (v2 + 1))
set_option maxRecDepth 100000 in
set_option maxHeartbeats 4000000 in
theorem X8_faultOfThings_j82_ok {E : Ev}  {N : Nat} {kr : Int32 → Int32 → Option (Int32)} {σ : Sg}  (hkr : ∀ (v1 : Int32) (v2 : Int32) (r : Int32), kr v1 v2 = some r → Gp E RX8 cX8_faultOfThings (some .int) 4 (2) SH0 σ (some (.int r)) σ 15 [(0, .ref 0), (1, .int v1), (2, .int v2)] []) {v1 : Int32} {v2 : Int32} {v3 : Int32} {r : Int32} (h : X8_faultOfThings_j82 N  kr v1 v2 v3 σ = some r) : Gp E RX8 cX8_faultOfThings (some .int) 4 (2) SH0 σ (some (.int r)) σ 82 [(0, .ref 0), (1, .int v1), (2, .int v2), (3, .int v3)] [] := by
  intro Z C hE
  unfold X8_faultOfThings_j82 at h
  refine r_iload_n (pc' := 83) C dX8_faultOfThings_82 rfl 3 rfl ?_
  refine r_if_ne (tgt := 88) (pc' := 86) C dX8_faultOfThings_83 rfl rfl (fun c9 => ?_) (fun c9 => ?_)
  · rw [if_neg c9] at h
    refine r_iinc (pc' := 91) (v := v2 + 1) (lv2 := [(2, .int (v2 + 1)), (0, .ref 0), (1, .int v1), (3, .int v3)]) C dX8_faultOfThings_88 rfl 2 rfl rfl (Nat.le_of_ble_eq_true rfl) rfl ?_
    refine r_goto (tgt := 15) C dX8_faultOfThings_91 rfl ?_
    refine r_sub [1, 2, 0] rfl ?_
    exact hkr _ _ _ h Z C hE
  · rw [if_pos c9] at h
    refine r_iload_n (pc' := 87) C dX8_faultOfThings_86 rfl 2 rfl ?_
    have h := Option.some.inj h
    subst h
    exact r_ret C rfl dX8_faultOfThings_87 hE
def X8_faultOfThings_l15 (N : Nat)  (k94 : Int32 → Option (Int32)) (σ : Sg) : Nat → Int32 → Int32 → Option (Int32)
  | 0, _, _ => none
  | n + 1, v1, v2 =>
    if v1 ≤ v2 then (k94 v1) else (if (v2 - v2 / 2 * 2) = 1 then ((X6_at N v2 σ).bind fun r12 => (if r12 = 59 then (X8_faultOfThings_j82 N (fun v1 v2 => X8_faultOfThings_l15 N k94 σ n v1 v2) v1 v2 1 σ) else (X8_faultOfThings_j82 N (fun v1 v2 => X8_faultOfThings_l15 N k94 σ n v1 v2) v1 v2 0 σ))) else ((X6_digitAt N v2 σ).bind fun r6 => (if r6 ≤ 0 then (X8_faultOfThings_j82 N (fun v1 v2 => X8_faultOfThings_l15 N k94 σ n v1 v2) v1 v2 0 σ) else (if 8 ≤ ((gi σ 5 1) + (v2 / 2)) then (X8_faultOfThings_j82 N (fun v1 v2 => X8_faultOfThings_l15 N k94 σ n v1 v2) v1 v2 0 σ) else (X8_faultOfThings_j82 N (fun v1 v2 => X8_faultOfThings_l15 N k94 σ n v1 v2) v1 v2 1 σ)))))
set_option maxRecDepth 100000 in
set_option maxHeartbeats 4000000 in
theorem X8_faultOfThings_l15_ok {E : Ev}  {N : Nat} {k94 : Int32 → Option (Int32)} {σ : Sg} (hk94 : ∀ (v1 : Int32) (r : Int32), k94 v1 = some r → Gp E RX8 cX8_faultOfThings (some .int) 4 (2) SH0 σ (some (.int r)) σ 94 [(0, .ref 0), (1, .int v1)] []) : ∀ (n : Nat) (v1 : Int32) (v2 : Int32) (r : Int32), X8_faultOfThings_l15 N k94 σ n v1 v2 = some r → Gp E RX8 cX8_faultOfThings (some .int) 4 (2) SH0 σ (some (.int r)) σ 15 [(0, .ref 0), (1, .int v1), (2, .int v2)] [] := by
  intro n
  induction n with
  | zero => intro v1 v2 r h; cases h
  | succ n ih =>
    intro v1 v2 r h Z C hE
    unfold X8_faultOfThings_l15 at h
    refine r_iload_n (pc' := 16) C dX8_faultOfThings_15 rfl 2 rfl ?_
    refine r_iload_n (pc' := 17) C dX8_faultOfThings_16 rfl 1 rfl ?_
    refine r_icmp_ge (tgt := 94) (pc' := 20) C dX8_faultOfThings_17 rfl rfl (fun c3 => ?_) (fun c3 => ?_)
    · rw [if_pos c3] at h
      refine r_sub [0, 1] rfl ?_
      exact hk94 _ _ h Z C hE
    · rw [if_neg c3] at h
      refine r_iload_n (pc' := 21) C dX8_faultOfThings_20 rfl 2 rfl ?_
      refine r_iconst (pc' := 22) C dX8_faultOfThings_21 rfl kc_2 ?_
      refine r_irem (pc' := 23) C dX8_faultOfThings_22 rfl (by decide) ?_
      refine r_iconst (pc' := 24) C dX8_faultOfThings_23 rfl kc_1 ?_
      refine r_icmp_ne (tgt := 49) (pc' := 27) C dX8_faultOfThings_24 rfl rfl (fun c5 => ?_) (fun c5 => ?_)
      · rw [if_neg c5] at h
        refine r_aload_n (pc' := 50) C dX8_faultOfThings_49 rfl 0 rfl ?_
        refine r_getR (pc' := 53) C flX8_10 sh_0 rfl dX8_faultOfThings_50 rfl ?_
        refine r_iload_n (pc' := 54) C dX8_faultOfThings_53 rfl 2 rfl ?_
        obtain ⟨r6, e7, h⟩ := bd h
        refine r_cV1 (pc' := 57) C (X6_digitAt_ok  e7) mlX8_100 ceX6_digitAt cvX6_digitAt sh_1 rfl rfl rfl (Nat.le_of_ble_eq_true rfl) rfl (Nat.le_of_ble_eq_true rfl) dX8_faultOfThings_54 rfl (kk := ?_)
        refine r_if_le (tgt := 80) (pc' := 60) C dX8_faultOfThings_57 rfl rfl (fun c8 => ?_) (fun c8 => ?_)
        · rw [if_pos c8] at h
          refine r_iconst (pc' := 81) C dX8_faultOfThings_80 rfl kc_0 ?_
          refine r_istore_n (pc' := 82) (lv2 := [(3, .int 0), (0, .ref 0), (1, .int v1), (2, .int v2)]) C dX8_faultOfThings_81 rfl rfl (Nat.le_of_ble_eq_true rfl) rfl ?_
          refine r_sub [1, 2, 3, 0] rfl ?_
          exact X8_faultOfThings_j82_ok  ih h Z C hE
        · rw [if_neg c8] at h
          refine r_aload_n (pc' := 61) C dX8_faultOfThings_60 rfl 0 rfl ?_
          refine r_getR (pc' := 64) C flX8_26 sh_0 rfl dX8_faultOfThings_61 rfl ?_
          refine r_getI (pc' := 67) C flX8_265 sh_5 rfl dX8_faultOfThings_64 rfl ?_
          refine r_iload_n (pc' := 68) C dX8_faultOfThings_67 rfl 2 rfl ?_
          refine r_iconst (pc' := 69) C dX8_faultOfThings_68 rfl kc_2 ?_
          refine r_idiv (pc' := 70) C dX8_faultOfThings_69 rfl (by decide) ?_
          refine r_iadd (pc' := 71) C dX8_faultOfThings_70 rfl ?_
          refine r_bipush (pc' := 73) C dX8_faultOfThings_71 rfl kb_8 ?_
          refine r_icmp_ge (tgt := 80) (pc' := 76) C dX8_faultOfThings_73 rfl rfl (fun c11 => ?_) (fun c11 => ?_)
          · rw [if_pos c11] at h
            refine r_iconst (pc' := 81) C dX8_faultOfThings_80 rfl kc_0 ?_
            refine r_istore_n (pc' := 82) (lv2 := [(3, .int 0), (0, .ref 0), (1, .int v1), (2, .int v2)]) C dX8_faultOfThings_81 rfl rfl (Nat.le_of_ble_eq_true rfl) rfl ?_
            refine r_sub [1, 2, 3, 0] rfl ?_
            exact X8_faultOfThings_j82_ok  ih h Z C hE
          · rw [if_neg c11] at h
            refine r_iconst (pc' := 77) C dX8_faultOfThings_76 rfl kc_1 ?_
            refine r_goto (tgt := 81) C dX8_faultOfThings_77 rfl ?_
            refine r_istore_n (pc' := 82) (lv2 := [(3, .int 1), (0, .ref 0), (1, .int v1), (2, .int v2)]) C dX8_faultOfThings_81 rfl rfl (Nat.le_of_ble_eq_true rfl) rfl ?_
            refine r_sub [1, 2, 3, 0] rfl ?_
            exact X8_faultOfThings_j82_ok  ih h Z C hE
      · rw [if_pos c5] at h
        refine r_aload_n (pc' := 28) C dX8_faultOfThings_27 rfl 0 rfl ?_
        refine r_getR (pc' := 31) C flX8_10 sh_0 rfl dX8_faultOfThings_28 rfl ?_
        refine r_iload_n (pc' := 32) C dX8_faultOfThings_31 rfl 2 rfl ?_
        obtain ⟨r12, e13, h⟩ := bd h
        refine r_cV1 (pc' := 35) C (X6_at_ok  e13) mlX8_231 ceX6_at cvX6_at sh_1 rfl rfl rfl (Nat.le_of_ble_eq_true rfl) rfl (Nat.le_of_ble_eq_true rfl) dX8_faultOfThings_32 rfl (kk := ?_)
        refine r_bipush (pc' := 37) C dX8_faultOfThings_35 rfl kb_59 ?_
        refine r_icmp_ne (tgt := 44) (pc' := 40) C dX8_faultOfThings_37 rfl rfl (fun c14 => ?_) (fun c14 => ?_)
        · rw [if_neg c14] at h
          refine r_iconst (pc' := 45) C dX8_faultOfThings_44 rfl kc_0 ?_
          refine r_istore_n (pc' := 46) (lv2 := [(3, .int 0), (0, .ref 0), (1, .int v1), (2, .int v2)]) C dX8_faultOfThings_45 rfl rfl (Nat.le_of_ble_eq_true rfl) rfl ?_
          refine r_goto (tgt := 82) C dX8_faultOfThings_46 rfl ?_
          refine r_sub [1, 2, 3, 0] rfl ?_
          exact X8_faultOfThings_j82_ok  ih h Z C hE
        · rw [if_pos c14] at h
          refine r_iconst (pc' := 41) C dX8_faultOfThings_40 rfl kc_1 ?_
          refine r_goto (tgt := 45) C dX8_faultOfThings_41 rfl ?_
          refine r_istore_n (pc' := 46) (lv2 := [(3, .int 1), (0, .ref 0), (1, .int v1), (2, .int v2)]) C dX8_faultOfThings_45 rfl rfl (Nat.le_of_ble_eq_true rfl) rfl ?_
          refine r_goto (tgt := 82) C dX8_faultOfThings_46 rfl ?_
          refine r_sub [1, 2, 3, 0] rfl ?_
          exact X8_faultOfThings_j82_ok  ih h Z C hE
def X8_faultOfThings_j94 (N : Nat)   (v1 : Int32) (σ : Sg) : Option (Int32) :=
  if 15 < (gi σ 1 1) then (some v1) else (if v1 ≤ 0 then (some (-1)) else (if (v1 - v1 / 2 * 2) = 0 then (some v1) else (some (-1))))
set_option maxRecDepth 100000 in
set_option maxHeartbeats 4000000 in
theorem X8_faultOfThings_j94_ok {E : Ev}  {N : Nat}  {σ : Sg}   {v1 : Int32} {r : Int32} (h : X8_faultOfThings_j94 N   v1 σ = some r) : Gp E RX8 cX8_faultOfThings (some .int) 4 (2) SH0 σ (some (.int r)) σ 94 [(0, .ref 0), (1, .int v1)] [] := by
  intro Z C hE
  unfold X8_faultOfThings_j94 at h
  refine r_aload_n (pc' := 95) C dX8_faultOfThings_94 rfl 0 rfl ?_
  refine r_getR (pc' := 98) C flX8_10 sh_0 rfl dX8_faultOfThings_95 rfl ?_
  refine r_getI (pc' := 101) C flX8_96 sh_1 rfl dX8_faultOfThings_98 rfl ?_
  refine r_bipush (pc' := 103) C dX8_faultOfThings_101 rfl kb_15 ?_
  refine r_icmp_gt (tgt := 116) (pc' := 106) C dX8_faultOfThings_103 rfl rfl (fun c15 => ?_) (fun c15 => ?_)
  · rw [if_pos c15] at h
    refine r_iload_n (pc' := 117) C dX8_faultOfThings_116 rfl 1 rfl ?_
    have h := Option.some.inj h
    subst h
    exact r_ret C rfl dX8_faultOfThings_117 hE
  · rw [if_neg c15] at h
    refine r_iload_n (pc' := 107) C dX8_faultOfThings_106 rfl 1 rfl ?_
    refine r_if_le (tgt := 118) (pc' := 110) C dX8_faultOfThings_107 rfl rfl (fun c16 => ?_) (fun c16 => ?_)
    · rw [if_pos c16] at h
      refine r_iconst (pc' := 119) C dX8_faultOfThings_118 rfl kc_m1 ?_
      have h := Option.some.inj h
      subst h
      exact r_ret C rfl dX8_faultOfThings_119 hE
    · rw [if_neg c16] at h
      refine r_iload_n (pc' := 111) C dX8_faultOfThings_110 rfl 1 rfl ?_
      refine r_iconst (pc' := 112) C dX8_faultOfThings_111 rfl kc_2 ?_
      refine r_irem (pc' := 113) C dX8_faultOfThings_112 rfl (by decide) ?_
      refine r_if_ne (tgt := 118) (pc' := 116) C dX8_faultOfThings_113 rfl rfl (fun c18 => ?_) (fun c18 => ?_)
      · rw [if_neg c18] at h
        refine r_iconst (pc' := 119) C dX8_faultOfThings_118 rfl kc_m1 ?_
        have h := Option.some.inj h
        subst h
        exact r_ret C rfl dX8_faultOfThings_119 hE
      · rw [if_pos c18] at h
        refine r_iload_n (pc' := 117) C dX8_faultOfThings_116 rfl 1 rfl ?_
        have h := Option.some.inj h
        subst h
        exact r_ret C rfl dX8_faultOfThings_117 hE
def X8_faultOfThings (N : Nat)   (σ : Sg) : Option (Int32) :=
  (J9_min_7cf53 N (gi σ 1 1) 15 σ).bind fun r1 => (X8_faultOfThings_l15 N (fun v1 => X8_faultOfThings_j94 N v1 σ) σ N r1 0)
set_option maxRecDepth 100000 in
set_option maxHeartbeats 4000000 in
theorem X8_faultOfThings_ok {E : Ev}  {N : Nat}  {σ : Sg} {r : Int32} (h : X8_faultOfThings N   σ = some r) : Cm E (2) yX8_faultOfThings cX8_faultOfThings 4 (some .int) [.ref 0] SH0 SH0 σ σ (some (.int r)) 0 0 := by
  refine Cm.intro (by decide +kernel) (Nat.le_of_ble_eq_true rfl) (fun _ h => by obtain ⟨_, _, _, _, _, _, h⟩ := h; exact h) (fun Z C hE => ?_)
  show Wm E Z 0 0 SH0 σ 0 [(0, .ref 0)] []
  unfold X8_faultOfThings at h
  refine r_aload_n (pc' := 1) C dX8_faultOfThings_0 rfl 0 rfl ?_
  refine r_getR (pc' := 4) C flX8_10 sh_0 rfl dX8_faultOfThings_1 rfl ?_
  refine r_getI (pc' := 7) C flX8_96 sh_1 rfl dX8_faultOfThings_4 rfl ?_
  refine r_bipush (pc' := 9) C dX8_faultOfThings_7 rfl kb_15 ?_
  obtain ⟨r1, e2, h⟩ := bd h
  refine r_cS1 (pc' := 12) C (J9_min_7cf53_ok  e2) mlX8_310 ceJ9_min_7cf53 csJ9_min_7cf53 rfl (Nat.le_of_ble_eq_true rfl) rfl (Nat.le_of_ble_eq_true rfl) dX8_faultOfThings_9 rfl (kk := ?_)
  refine r_istore_n (pc' := 13) (lv2 := [(1, .int r1), (0, .ref 0)]) C dX8_faultOfThings_12 rfl rfl (Nat.le_of_ble_eq_true rfl) rfl ?_
  refine r_iconst (pc' := 14) C dX8_faultOfThings_13 rfl kc_0 ?_
  refine r_istore_n (pc' := 15) (lv2 := [(2, .int 0), (1, .int r1), (0, .ref 0)]) C dX8_faultOfThings_14 rfl rfl (Nat.le_of_ble_eq_true rfl) rfl ?_
  refine r_sub [2, 1, 0] rfl ?_
  exact X8_faultOfThings_l15_ok  (fun _ _ h Z C hE => by exact X8_faultOfThings_j94_ok  h Z C hE) N _ _ _ h Z C hE
