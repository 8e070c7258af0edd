/-! BorrowedWeightModel.readsRule()I -/
def X9_readsRule_j29 (N : Nat)   (v1 : Int32) (s0 : Int32) (σ : Sg) : Option (Int32 × Sg) :=
  (X9_faultOf N v1 40 s0 σ).bind fun r6 => (some (r6, σ))
set_option maxRecDepth 100000 in
set_option maxHeartbeats 4000000 in
theorem X9_readsRule_j29_ok {E : Ev}  {N : Nat}    {v1 : Int32} {s0 : Int32} {σ : Sg} {r : Int32 × Sg} (h : X9_readsRule_j29 N   v1 s0 σ = some r) : Gp E RX9 cX9_readsRule (some .int) 3 (213) SH0 r.2 (some (.int r.1)) σ 29 [(0, .ref 149), (1, .int v1)] [.int s0] := by
  intro Z C hE
  unfold X9_readsRule_j29 at h
  refine r_istore_n (pc' := 30) (lv2 := [(2, .int s0), (0, .ref 149), (1, .int v1)]) C dX9_readsRule_29 rfl rfl (Nat.le_of_ble_eq_true rfl) rfl ?_
  refine r_aload_n (pc' := 31) C dX9_readsRule_30 rfl 1 rfl ?_
  refine r_iload_n (pc' := 32) C dX9_readsRule_31 rfl 2 rfl ?_
  refine r_bipush (pc' := 34) C dX9_readsRule_32 rfl kb_40 ?_
  refine r_iload_n (pc' := 35) C dX9_readsRule_34 rfl 0 rfl ?_
  obtain ⟨r6, e7, h⟩ := bd h
  refine r_cV1 (pc' := 38) C (X9_faultOf_ok  e7) mlX9_192 ceX9_faultOf cvX9_faultOf sh_149 rfl rfl rfl (Nat.le_of_ble_eq_true rfl) rfl (Nat.le_of_ble_eq_true rfl) dX9_readsRule_35 rfl (kk := ?_)
  have h := Option.some.inj h
  subst h
  exact r_ret C rfl dX9_readsRule_38 hE
def X9_readsRule (N : Nat)   (σ : Sg) : Option (Int32 × Sg) :=
  (X9_begins N 40 σ).bind fun r1 => (bnS (wi r1.2 149 20 0) fun σ3 => if r1.1 = 0 then (X9_readsRule_j29 N r1.1 1 σ3) else ((X9_readsRank N 0 σ3).bind fun r8 => (if r8.1 = 0 then (X9_readsRule_j29 N r1.1 0 r8.2) else (X9_readsRule_j29 N r1.1 1 r8.2))))
set_option maxRecDepth 100000 in
set_option maxHeartbeats 4000000 in
theorem X9_readsRule_ok {E : Ev}  {N : Nat}  {σ : Sg} {r : Int32 × Sg} (h : X9_readsRule N   σ = some r) : Cm E (213) yX9_readsRule cX9_readsRule 3 (some .int) [.ref 149] SH0 SH0 σ r.2 (some (.int r.1)) 0 0 := by
  refine Cm.intro (by decide +kernel) (Nat.le_of_ble_eq_true rfl) (fun _ h => by obtain ⟨_, _, _, _, _, _, h⟩ := h; exact h) (fun Z C hE => ?_)
  show Wm E Z 0 0 SH0 σ 0 [(0, .ref 149)] []
  unfold X9_readsRule at h
  refine r_aload_n (pc' := 1) C dX9_readsRule_0 rfl 0 rfl ?_
  refine r_bipush (pc' := 3) C dX9_readsRule_1 rfl kb_40 ?_
  obtain ⟨r1, e2, h⟩ := bd h
  refine r_cV1 (pc' := 6) C (X9_begins_ok  e2) mlX9_180 ceX9_begins cvX9_begins sh_149 rfl rfl rfl (Nat.le_of_ble_eq_true rfl) rfl (Nat.le_of_ble_eq_true rfl) dX9_readsRule_3 rfl (kk := ?_)
  refine r_istore_n (pc' := 7) (lv2 := [(1, .int r1.1), (0, .ref 149)]) C dX9_readsRule_6 rfl rfl (Nat.le_of_ble_eq_true rfl) rfl ?_
  refine r_aload_n (pc' := 8) C dX9_readsRule_7 rfl 1 rfl ?_
  refine r_iconst (pc' := 9) C dX9_readsRule_8 rfl kc_0 ?_
  obtain ⟨σ3, e4, h⟩ := bs h
  refine r_putI (pc' := 12) (σ1 := σ3) C fpX9_222 sh_149 rfl rfl rfl dX9_readsRule_9 rfl e4 ?_
  refine r_iload_n (pc' := 13) C dX9_readsRule_12 rfl 0 rfl ?_
  refine r_if_eq (tgt := 24) (pc' := 16) C dX9_readsRule_13 rfl rfl (fun c5 => ?_) (fun c5 => ?_)
  · rw [if_pos c5] at h
    refine r_iconst (pc' := 25) C dX9_readsRule_24 rfl kc_1 ?_
    refine r_goto (tgt := 29) C dX9_readsRule_25 rfl ?_
    refine r_sub [1, 0] rfl ?_
    exact X9_readsRule_j29_ok  h Z C hE
  · rw [if_neg c5] at h
    refine r_aload_n (pc' := 17) C dX9_readsRule_16 rfl 1 rfl ?_
    refine r_iconst (pc' := 18) C dX9_readsRule_17 rfl kc_0 ?_
    obtain ⟨r8, e9, h⟩ := bd h
    refine r_cV1 (pc' := 21) C (X9_readsRank_ok  e9) mlX9_238 ceX9_readsRank cvX9_readsRank sh_149 rfl rfl rfl (Nat.le_of_ble_eq_true rfl) rfl (Nat.le_of_ble_eq_true rfl) dX9_readsRule_18 rfl (kk := ?_)
    refine r_if_eq (tgt := 28) (pc' := 24) C dX9_readsRule_21 rfl rfl (fun c10 => ?_) (fun c10 => ?_)
    · rw [if_pos c10] at h
      refine r_iconst (pc' := 29) C dX9_readsRule_28 rfl kc_0 ?_
      refine r_sub [1, 0] rfl ?_
      exact X9_readsRule_j29_ok  h Z C hE
    · rw [if_neg c10] at h
      refine r_iconst (pc' := 25) C dX9_readsRule_24 rfl kc_1 ?_
      refine r_goto (tgt := 29) C dX9_readsRule_25 rfl ?_
      refine r_sub [1, 0] rfl ?_
      exact X9_readsRule_j29_ok  h Z C hE

/-! BorrowedWeightModel.laysCode([II)V -/
def X9_laysCode_l7 (N : Nat) (k1 : Nat)   : Nat → Int32 → Int32 → Sg → Option (Sg)
  | 0, _, _, _ => none
  | n + 1, v2, v3, σ =>
    if v2 ≤ v3 then (some σ) else (if inb v3 80 = true then if inb v3 80 = true then bnS (wi σ 157 v3.toNatClampNeg (gi σ k1 v3.toNatClampNeg)) fun σ6 => X9_laysCode_l7 N k1 n v2 (v3 + 1) σ6 else none else none)
set_option maxRecDepth 100000 in
set_option maxHeartbeats 4000000 in
theorem X9_laysCode_l7_ok {E : Ev} {k1 : Nat} (hk1 : MbAt SH0 k1) {N : Nat}    : ∀ (n : Nat) (v2 : Int32) (v3 : Int32) (σ : Sg) (r : Sg), X9_laysCode_l7 N k1 n v2 v3 σ = some r → Gp E RX9 cX9_laysCode none 4 (0) SH0 r (none) σ 7 [(0, .ref 149), (1, .ref k1), (2, .int v2), (3, .int v3)] [] := by
  intro n
  induction n with
  | zero => intro v2 v3 σ r h; cases h
  | succ n ih =>
    intro v2 v3 σ r h Z C hE
    unfold X9_laysCode_l7 at h
    refine r_iload_n (pc' := 8) C dX9_laysCode_7 rfl 3 rfl ?_
    refine r_iload_n (pc' := 9) C dX9_laysCode_8 rfl 2 rfl ?_
    refine r_icmp_ge (tgt := 27) (pc' := 12) C dX9_laysCode_9 rfl rfl (fun c3 => ?_) (fun c3 => ?_)
    · rw [if_pos c3] at h
      have h := Option.some.inj h
      subst h
      exact r_vret C dX9_laysCode_27 hE
    · rw [if_neg c3] at h
      refine r_aload_n (pc' := 13) C dX9_laysCode_12 rfl 0 rfl ?_
      refine r_getR (pc' := 16) C flX9_46 sh_149 rfl dX9_laysCode_13 rfl ?_
      refine r_iload_n (pc' := 17) C dX9_laysCode_16 rfl 3 rfl ?_
      refine r_aload_n (pc' := 18) C dX9_laysCode_17 rfl 1 rfl ?_
      refine r_iload_n (pc' := 19) C dX9_laysCode_18 rfl 3 rfl ?_
      obtain ⟨q4, h⟩ := ck h
      refine r_iald (pc' := 20) C hk1 (vin q4) dX9_laysCode_19 rfl ?_
      obtain ⟨q5, h⟩ := ck h
      obtain ⟨σ6, e7, h⟩ := bs h
      refine r_iast (pc' := 21) (σ1 := σ6) C sh_157 (vin q5) dX9_laysCode_20 rfl e7 ?_
      refine r_iinc (pc' := 24) (v := v3 + 1) (lv2 := [(3, .int (v3 + 1)), (0, .ref 149), (1, .ref k1), (2, .int v2)]) C dX9_laysCode_21 rfl 3 rfl rfl (Nat.le_of_ble_eq_true rfl) rfl ?_
      refine r_goto (tgt := 7) C dX9_laysCode_24 rfl ?_
      refine r_sub [1, 2, 3, 0] rfl ?_
      exact ih _ _ _ _ h Z C hE
def X9_laysCode (N : Nat) (k1 : Nat) (v2 : Int32) (σ : Sg) : Option (Sg) :=
  bnS (wi σ 149 19 v2) fun σ1 => X9_laysCode_l7 N k1 N v2 0 σ1
set_option maxRecDepth 100000 in
set_option maxHeartbeats 4000000 in
theorem X9_laysCode_ok {E : Ev} {k1 : Nat} (hk1 : MbAt SH0 k1) {N : Nat} {v2 : Int32} {σ : Sg} {r : Sg} (h : X9_laysCode N k1 v2 σ = some r) : Cm E (0) yX9_laysCode cX9_laysCode 4 none [.ref 149, .ref k1, .int v2] SH0 SH0 σ r (none) 0 0 := by
  refine Cm.intro (by decide +kernel) (Nat.le_of_ble_eq_true rfl) (fun _ h => by obtain ⟨_, _, _, _, _, _, h⟩ := h; exact h) (fun Z C hE => ?_)
  show Wm E Z 0 0 SH0 σ 0 [(0, .ref 149), (1, .ref k1), (2, .int v2)] []
  unfold X9_laysCode at h
  refine r_aload_n (pc' := 1) C dX9_laysCode_0 rfl 0 rfl ?_
  refine r_iload_n (pc' := 2) C dX9_laysCode_1 rfl 2 rfl ?_
  obtain ⟨σ1, e2, h⟩ := bs h
  refine r_putI (pc' := 5) (σ1 := σ1) C fpX9_247 sh_149 rfl rfl rfl dX9_laysCode_2 rfl e2 ?_
  refine r_iconst (pc' := 6) C dX9_laysCode_5 rfl kc_0 ?_
  refine r_istore_n (pc' := 7) (lv2 := [(3, .int 0), (0, .ref 149), (1, .ref k1), (2, .int v2)]) C dX9_laysCode_6 rfl rfl (Nat.le_of_ble_eq_true rfl) rfl ?_
  refine r_sub [1, 2, 3, 0] rfl ?_
  exact X9_laysCode_l7_ok hk1 N _ _ _ _ h Z C hE

/-! BorrowedWeightModel.rule()I -/
def X9_rule (N : Nat)   (σ : Sg) : Option (Int32 × Sg) :=
  bnS (wi σ 149 0 0) fun σ1 => (X9_readsRule N σ1).bind fun r3 => (if r3.1 = 0 then ((X9_laysCode N 158 (gi r3.2 149 20) r3.2).bind fun r6 => (some (r3.1, r6))) else (some (r3.1, r3.2)))
set_option maxRecDepth 100000 in
set_option maxHeartbeats 4000000 in
theorem X9_rule_ok {E : Ev}  {N : Nat}  {σ : Sg} {r : Int32 × Sg} (h : X9_rule N   σ = some r) : Cm E (214) yX9_rule cX9_rule 2 (some .int) [.ref 149] SH0 SH0 σ r.2 (some (.int r.1)) 0 0 := by
  refine Cm.intro (by decide +kernel) (Nat.le_of_ble_eq_true rfl) (fun _ h => by obtain ⟨_, _, _, _, _, _, h⟩ := h; exact h) (fun Z C hE => ?_)
  show Wm E Z 0 0 SH0 σ 0 [(0, .ref 149)] []
  unfold X9_rule at h
  refine r_aload_n (pc' := 1) C dX9_rule_0 rfl 0 rfl ?_
  refine r_iconst (pc' := 2) C dX9_rule_1 rfl kc_0 ?_
  obtain ⟨σ1, e2, h⟩ := bs h
  refine r_putI (pc' := 5) (σ1 := σ1) C fpX9_3 sh_149 rfl rfl rfl dX9_rule_2 rfl e2 ?_
  refine r_aload_n (pc' := 6) C dX9_rule_5 rfl 0 rfl ?_
  obtain ⟨r3, e4, h⟩ := bd h
  refine r_cV1 (pc' := 9) C (X9_readsRule_ok  e4) mlX9_250 ceX9_readsRule cvX9_readsRule sh_149 rfl rfl rfl (Nat.le_of_ble_eq_true rfl) rfl (Nat.le_of_ble_eq_true rfl) dX9_rule_6 rfl (kk := ?_)
  refine r_istore_n (pc' := 10) (lv2 := [(1, .int r3.1), (0, .ref 149)]) C dX9_rule_9 rfl rfl (Nat.le_of_ble_eq_true rfl) rfl ?_
  refine r_iload_n (pc' := 11) C dX9_rule_10 rfl 0 rfl ?_
  refine r_if_ne (tgt := 26) (pc' := 14) C dX9_rule_11 rfl rfl (fun c5 => ?_) (fun c5 => ?_)
  · rw [if_neg c5] at h
    refine r_iload_n (pc' := 27) C dX9_rule_26 rfl 0 rfl ?_
    have h := Option.some.inj h
    subst h
    exact r_ret C rfl dX9_rule_27 hE
  · rw [if_pos c5] at h
    refine r_aload_n (pc' := 15) C dX9_rule_14 rfl 1 rfl ?_
    refine r_aload_n (pc' := 16) C dX9_rule_15 rfl 1 rfl ?_
    refine r_getR (pc' := 19) C flX9_49 sh_149 rfl dX9_rule_16 rfl ?_
    refine r_aload_n (pc' := 20) C dX9_rule_19 rfl 1 rfl ?_
    refine r_getI (pc' := 23) C flX9_222 sh_149 rfl dX9_rule_20 rfl ?_
    obtain ⟨r6, e7, h⟩ := bd h
    refine r_cV0 (pc' := 26) C (X9_laysCode_ok mbc_158 e7) mlX9_253 ceX9_laysCode cvX9_laysCode sh_149 rfl rfl rfl (Nat.le_of_ble_eq_true rfl) rfl (Nat.le_of_ble_eq_true rfl) dX9_rule_23 rfl (kk := ?_)
    refine r_iload_n (pc' := 27) C dX9_rule_26 rfl 0 rfl ?_
    have h := Option.some.inj h
    subst h
    exact r_ret C rfl dX9_rule_27 hE

/-! BorrowedWeightModel.refuse()I -/
def X9_refuse (N : Nat)   (σ : Sg) : Option (Int32 × Sg) :=
  bnS (wi σ 149 0 1) fun σ1 => some (0, σ1)
set_option maxRecDepth 100000 in
set_option maxHeartbeats 4000000 in
theorem X9_refuse_ok {E : Ev}  {N : Nat}  {σ : Sg} {r : Int32 × Sg} (h : X9_refuse N   σ = some r) : Cm E (0) yX9_refuse cX9_refuse 1 (some .int) [.ref 149] SH0 SH0 σ r.2 (some (.int r.1)) 0 0 := by
  refine Cm.intro (by decide +kernel) (Nat.le_of_ble_eq_true rfl) (fun _ h => by obtain ⟨_, _, _, _, _, _, h⟩ := h; exact h) (fun Z C hE => ?_)
  show Wm E Z 0 0 SH0 σ 0 [(0, .ref 149)] []
  unfold X9_refuse at h
  refine r_aload_n (pc' := 1) C dX9_refuse_0 rfl 0 rfl ?_
  refine r_iconst (pc' := 2) C dX9_refuse_1 rfl kc_1 ?_
  obtain ⟨σ1, e2, h⟩ := bs h
  refine r_putI (pc' := 5) (σ1 := σ1) C fpX9_3 sh_149 rfl rfl rfl dX9_refuse_2 rfl e2 ?_
  refine r_iconst (pc' := 6) C dX9_refuse_5 rfl kc_0 ?_
  have h := Option.some.inj h
  subst h
  exact r_ret C rfl dX9_refuse_6 hE

/-! BorrowedWeightModel.windOn(I)I -/
def X9_windOn (N : Nat)  (v1 : Int32) (σ : Sg) : Option (Int32) :=
  if gi σ 149 5 = 0 then none else if inb (v1 - v1 / (gi σ 149 5) * (gi σ 149 5)) 20 = true then some (gi σ 152 (v1 - v1 / (gi σ 149 5) * (gi σ 149 5)).toNatClampNeg) else none
set_option maxRecDepth 100000 in
set_option maxHeartbeats 4000000 in
theorem X9_windOn_ok {E : Ev}  {N : Nat} {v1 : Int32} {σ : Sg} {r : Int32} (h : X9_windOn N  v1 σ = some r) : Cm E (0) yX9_windOn cX9_windOn 2 (some .int) [.ref 149, .int v1] SH0 SH0 σ σ (some (.int r)) 0 0 := by
  refine Cm.intro (by decide +kernel) (Nat.le_of_ble_eq_true rfl) (fun _ h => by obtain ⟨_, _, _, _, _, _, h⟩ := h; exact h) (fun Z C hE => ?_)
  show Wm E Z 0 0 SH0 σ 0 [(0, .ref 149), (1, .int v1)] []
  unfold X9_windOn at h
  refine r_aload_n (pc' := 1) C dX9_windOn_0 rfl 0 rfl ?_
  refine r_getR (pc' := 4) C flX9_31 sh_149 rfl dX9_windOn_1 rfl ?_
  refine r_iload_n (pc' := 5) C dX9_windOn_4 rfl 1 rfl ?_
  refine r_aload_n (pc' := 6) C dX9_windOn_5 rfl 0 rfl ?_
  refine r_getI (pc' := 9) C flX9_24 sh_149 rfl dX9_windOn_6 rfl ?_
  obtain ⟨q1, h⟩ := ck0 h
  refine r_irem (pc' := 10) C dX9_windOn_9 rfl q1 ?_
  obtain ⟨q2, h⟩ := ck h
  refine r_iald (pc' := 11) C sh_152 (vin q2) dX9_windOn_10 rfl ?_
  have h := Option.some.inj h
  subst h
  exact r_ret C rfl dX9_windOn_11 hE

/-! BorrowedWeightModel.worked(III)I -/
def X9_worked (N : Nat)  (v0 : Int32) (v1 : Int32) (v2 : Int32) (σ : Sg) : Option (Int32) :=
  if v0 = 0 then (if v2 ≤ v1 then ((X9_flag N 0 σ).bind fun r3 => (some r3)) else ((X9_flag N 1 σ).bind fun r5 => (some r5))) else if v0 = 1 then (if v1 ≤ v2 then ((X9_flag N 0 σ).bind fun r9 => (some r9)) else ((X9_flag N 1 σ).bind fun r11 => (some r11))) else if v0 = 2 then (if v1 = v2 then ((X9_flag N 1 σ).bind fun r17 => (some r17)) else ((X9_flag N 0 σ).bind fun r15 => (some r15))) else if v0 = 3 then (some (v1 + v2)) else if v0 = 4 then (some (v1 - v2)) else if v0 = 5 then (some (v1 * v2)) else (if v2 = 0 then (some 0) else (if v2 = 0 then none else some (v1 / v2)))
set_option maxRecDepth 100000 in
set_option maxHeartbeats 4000000 in
theorem X9_worked_ok {E : Ev}  {N : Nat} {v0 : Int32} {v1 : Int32} {v2 : Int32} {σ : Sg} {r : Int32} (h : X9_worked N  v0 v1 v2 σ = some r) : Cm E (1) yX9_worked cX9_worked 3 (some .int) [.int v0, .int v1, .int v2] SH0 SH0 σ σ (some (.int r)) 0 0 := by
  refine Cm.intro (by decide +kernel) (Nat.le_of_ble_eq_true rfl) (fun _ h => by obtain ⟨_, _, _, _, _, _, h⟩ := h; exact h) (fun Z C hE => ?_)
  show Wm E Z 0 0 SH0 σ 0 [(0, .int v0), (1, .int v1), (2, .int v2)] []
  unfold X9_worked at h
  refine r_iload_n (pc' := 1) C dX9_worked_0 rfl 0 rfl ?_
  by_cases c1 : v0 = 0
  · rw [if_pos c1] at h
    refine r_tabIn (tgt := 40) C dX9_worked_1 (by rw [c1]; decide) (by rw [c1]; decide) (by rw [c1]; rfl) rfl ?_
    refine r_iload_n (pc' := 41) C dX9_worked_40 rfl 1 rfl ?_
    refine r_iload_n (pc' := 42) C dX9_worked_41 rfl 2 rfl ?_
    refine r_icmp_ge (tgt := 49) (pc' := 45) C dX9_worked_42 rfl rfl (fun c2 => ?_) (fun c2 => ?_)
    · rw [if_pos c2] at h
      refine r_iconst (pc' := 50) C dX9_worked_49 rfl kc_0 ?_
      obtain ⟨r3, e4, h⟩ := bd h
      refine r_cS1 (pc' := 53) C (X9_flag_ok  e4) mlX9_159 ceX9_flag csX9_flag rfl (Nat.le_of_ble_eq_true rfl) rfl (Nat.le_of_ble_eq_true rfl) dX9_worked_50 rfl (kk := ?_)
      have h := Option.some.inj h
      subst h
      exact r_ret C rfl dX9_worked_53 hE
    · rw [if_neg c2] at h
      refine r_iconst (pc' := 46) C dX9_worked_45 rfl kc_1 ?_
      refine r_goto (tgt := 50) C dX9_worked_46 rfl ?_
      obtain ⟨r5, e6, h⟩ := bd h
      refine r_cS1 (pc' := 53) C (X9_flag_ok  e6) mlX9_159 ceX9_flag csX9_flag rfl (Nat.le_of_ble_eq_true rfl) rfl (Nat.le_of_ble_eq_true rfl) dX9_worked_50 rfl (kk := ?_)
      have h := Option.some.inj h
      subst h
      exact r_ret C rfl dX9_worked_53 hE
  rw [if_neg c1] at h
  by_cases c7 : v0 = 1
  · rw [if_pos c7] at h
    refine r_tabIn (tgt := 54) C dX9_worked_1 (by rw [c7]; decide) (by rw [c7]; decide) (by rw [c7]; rfl) rfl ?_
    refine r_iload_n (pc' := 55) C dX9_worked_54 rfl 1 rfl ?_
    refine r_iload_n (pc' := 56) C dX9_worked_55 rfl 2 rfl ?_
    refine r_icmp_le (tgt := 63) (pc' := 59) C dX9_worked_56 rfl rfl (fun c8 => ?_) (fun c8 => ?_)
    · rw [if_pos c8] at h
      refine r_iconst (pc' := 64) C dX9_worked_63 rfl kc_0 ?_
      obtain ⟨r9, e10, h⟩ := bd h
      refine r_cS1 (pc' := 67) C (X9_flag_ok  e10) mlX9_159 ceX9_flag csX9_flag rfl (Nat.le_of_ble_eq_true rfl) rfl (Nat.le_of_ble_eq_true rfl) dX9_worked_64 rfl (kk := ?_)
      have h := Option.some.inj h
      subst h
      exact r_ret C rfl dX9_worked_67 hE
    · rw [if_neg c8] at h
      refine r_iconst (pc' := 60) C dX9_worked_59 rfl kc_1 ?_
      refine r_goto (tgt := 64) C dX9_worked_60 rfl ?_
      obtain ⟨r11, e12, h⟩ := bd h
      refine r_cS1 (pc' := 67) C (X9_flag_ok  e12) mlX9_159 ceX9_flag csX9_flag rfl (Nat.le_of_ble_eq_true rfl) rfl (Nat.le_of_ble_eq_true rfl) dX9_worked_64 rfl (kk := ?_)
      have h := Option.some.inj h
      subst h
      exact r_ret C rfl dX9_worked_67 hE
  rw [if_neg c7] at h
  by_cases c13 : v0 = 2
  · rw [if_pos c13] at h
    refine r_tabIn (tgt := 68) C dX9_worked_1 (by rw [c13]; decide) (by rw [c13]; decide) (by rw [c13]; rfl) rfl ?_
    refine r_iload_n (pc' := 69) C dX9_worked_68 rfl 1 rfl ?_
    refine r_iload_n (pc' := 70) C dX9_worked_69 rfl 2 rfl ?_
    refine r_icmp_ne (tgt := 77) (pc' := 73) C dX9_worked_70 rfl rfl (fun c14 => ?_) (fun c14 => ?_)
    · rw [if_neg c14] at h
      refine r_iconst (pc' := 78) C dX9_worked_77 rfl kc_0 ?_
      obtain ⟨r15, e16, h⟩ := bd h
      refine r_cS1 (pc' := 81) C (X9_flag_ok  e16) mlX9_159 ceX9_flag csX9_flag rfl (Nat.le_of_ble_eq_true rfl) rfl (Nat.le_of_ble_eq_true rfl) dX9_worked_78 rfl (kk := ?_)
      have h := Option.some.inj h
      subst h
      exact r_ret C rfl dX9_worked_81 hE
    · rw [if_pos c14] at h
      refine r_iconst (pc' := 74) C dX9_worked_73 rfl kc_1 ?_
      refine r_goto (tgt := 78) C dX9_worked_74 rfl ?_
      obtain ⟨r17, e18, h⟩ := bd h
      refine r_cS1 (pc' := 81) C (X9_flag_ok  e18) mlX9_159 ceX9_flag csX9_flag rfl (Nat.le_of_ble_eq_true rfl) rfl (Nat.le_of_ble_eq_true rfl) dX9_worked_78 rfl (kk := ?_)
      have h := Option.some.inj h
      subst h
      exact r_ret C rfl dX9_worked_81 hE
  rw [if_neg c13] at h
  by_cases c19 : v0 = 3
  · rw [if_pos c19] at h
    refine r_tabIn (tgt := 82) C dX9_worked_1 (by rw [c19]; decide) (by rw [c19]; decide) (by rw [c19]; rfl) rfl ?_
    refine r_iload_n (pc' := 83) C dX9_worked_82 rfl 1 rfl ?_
    refine r_iload_n (pc' := 84) C dX9_worked_83 rfl 2 rfl ?_
    refine r_iadd (pc' := 85) C dX9_worked_84 rfl ?_
    have h := Option.some.inj h
    subst h
    exact r_ret C rfl dX9_worked_85 hE
  rw [if_neg c19] at h
  by_cases c20 : v0 = 4
  · rw [if_pos c20] at h
    refine r_tabIn (tgt := 86) C dX9_worked_1 (by rw [c20]; decide) (by rw [c20]; decide) (by rw [c20]; rfl) rfl ?_
    refine r_iload_n (pc' := 87) C dX9_worked_86 rfl 1 rfl ?_
    refine r_iload_n (pc' := 88) C dX9_worked_87 rfl 2 rfl ?_
    refine r_isub (pc' := 89) C dX9_worked_88 rfl ?_
    have h := Option.some.inj h
    subst h
    exact r_ret C rfl dX9_worked_89 hE
  rw [if_neg c20] at h
  by_cases c21 : v0 = 5
  · rw [if_pos c21] at h
    refine r_tabIn (tgt := 90) C dX9_worked_1 (by rw [c21]; decide) (by rw [c21]; decide) (by rw [c21]; rfl) rfl ?_
    refine r_iload_n (pc' := 91) C dX9_worked_90 rfl 1 rfl ?_
    refine r_iload_n (pc' := 92) C dX9_worked_91 rfl 2 rfl ?_
    refine r_imul (pc' := 93) C dX9_worked_92 rfl ?_
    have h := Option.some.inj h
    subst h
    exact r_ret C rfl dX9_worked_93 hE
  rw [if_neg c21] at h
  have o24 : v0.toInt < 0 ∨ 5 < v0.toInt := by
    refine tab_out (fun k h1 h2 => ?_) (by decide) (by decide)
    have hk : k = 0 ∨ k = 1 ∨ k = 2 ∨ k = 3 ∨ k = 4 ∨ k = 5 := by omega
    rcases hk with rfl | rfl | rfl | rfl | rfl | rfl
    · exact c1
    · exact c7
    · exact c13
    · exact c19
    · exact c20
    · exact c21
  refine r_tabOut (tgt := 94) C dX9_worked_1 o24 rfl ?_
  refine r_iload_n (pc' := 95) C dX9_worked_94 rfl 2 rfl ?_
  refine r_if_ne (tgt := 102) (pc' := 98) C dX9_worked_95 rfl rfl (fun c22 => ?_) (fun c22 => ?_)
  · rw [if_neg c22] at h
    refine r_iload_n (pc' := 103) C dX9_worked_102 rfl 1 rfl ?_
    refine r_iload_n (pc' := 104) C dX9_worked_103 rfl 2 rfl ?_
    obtain ⟨q23, h⟩ := ck0 h
    refine r_idiv (pc' := 105) C dX9_worked_104 rfl q23 ?_
    have h := Option.some.inj h
    subst h
    exact r_ret C rfl dX9_worked_105 hE
  · rw [if_pos c22] at h
    refine r_iconst (pc' := 99) C dX9_worked_98 rfl kc_0 ?_
    refine r_goto (tgt := 105) C dX9_worked_99 rfl ?_
    have h := Option.some.inj h
    subst h
    exact r_ret C rfl dX9_worked_105 hE

/-! BorrowedWeightModel.ruled()I -/
def X9_ruled_l4 (N : Nat)  (k125 : Sg → Option (Int32 × Sg))  : Nat → Int32 → Int32 → Sg → Option (Int32 × Sg)
  | 0, _, _, _ => none
  | n + 1, v1, v2, σ =>
    if (gi σ 149 19) ≤ v2 then (k125 σ) else (if inb v2 80 = true then if (gi σ 157 v2.toNatClampNeg) = 3000 then (if inb (v1 - 1) 80 = true then if inb (v1 - 1) 80 = true then bnS (wi σ 159 (v1 - 1).toNatClampNeg (-(gi σ 159 (v1 - 1).toNatClampNeg))) fun σ22 => X9_ruled_l4 N k125 n v1 (v2 + 1) σ22 else none else none) else (if (gi σ 157 v2.toNatClampNeg) < 2000 then (if (gi σ 157 v2.toNatClampNeg) < 1000 then (if inb v1 80 = true then bnS (wi σ 159 v1.toNatClampNeg (gi σ 157 v2.toNatClampNeg)) fun σ7 => X9_ruled_l4 N k125 n (v1 + 1) (v2 + 1) σ7 else none) else (if inb ((gi σ 157 v2.toNatClampNeg) - 1000) 8 = true then if inb v1 80 = true then bnS (wi σ 159 v1.toNatClampNeg (gi σ 160 ((gi σ 157 v2.toNatClampNeg) - 1000).toNatClampNeg)) fun σ11 => X9_ruled_l4 N k125 n (v1 + 1) (v2 + 1) σ11 else none else none)) else (if inb ((v1 + (-1)) - 1) 80 = true then if inb (v1 + (-1)) 80 = true then (X9_worked N ((gi σ 157 v2.toNatClampNeg) - 2000) (gi σ 159 ((v1 + (-1)) - 1).toNatClampNeg) (gi σ 159 (v1 + (-1)).toNatClampNeg) σ).bind fun r15 => (if inb ((v1 + (-1)) - 1) 80 = true then bnS (wi σ 159 ((v1 + (-1)) - 1).toNatClampNeg r15) fun σ18 => X9_ruled_l4 N k125 n (v1 + (-1)) (v2 + 1) σ18 else none) else none else none)) else none)
set_option maxRecDepth 100000 in
set_option maxHeartbeats 4000000 in
theorem X9_ruled_l4_ok {E : Ev}  {N : Nat} {k125 : Sg → Option (Int32 × Sg)}  (hk125 : ∀ (σ : Sg) (r : Int32 × Sg), k125 σ = some r → Gp E RX9 cX9_ruled (some .int) 4 (2) SH0 r.2 (some (.int r.1)) σ 125 [(0, .ref 149)] []) : ∀ (n : Nat) (v1 : Int32) (v2 : Int32) (σ : Sg) (r : Int32 × Sg), X9_ruled_l4 N k125 n v1 v2 σ = some r → Gp E RX9 cX9_ruled (some .int) 4 (2) SH0 r.2 (some (.int r.1)) σ 4 [(0, .ref 149), (1, .int v1), (2, .int v2)] [] := by
  intro n
  induction n with
  | zero => intro v1 v2 σ r h; cases h
  | succ n ih =>
    intro v1 v2 σ r h Z C hE
    unfold X9_ruled_l4 at h
    refine r_iload_n (pc' := 5) C dX9_ruled_4 rfl 2 rfl ?_
    refine r_aload_n (pc' := 6) C dX9_ruled_5 rfl 0 rfl ?_
    refine r_getI (pc' := 9) C flX9_247 sh_149 rfl dX9_ruled_6 rfl ?_
    refine r_icmp_ge (tgt := 125) (pc' := 12) C dX9_ruled_9 rfl rfl (fun c1 => ?_) (fun c1 => ?_)
    · rw [if_pos c1] at h
      refine r_sub [0] rfl ?_
      exact hk125 _ _ h Z C hE
    · rw [if_neg c1] at h
      refine r_aload_n (pc' := 13) C dX9_ruled_12 rfl 0 rfl ?_
      refine r_getR (pc' := 16) C flX9_46 sh_149 rfl dX9_ruled_13 rfl ?_
      refine r_iload_n (pc' := 17) C dX9_ruled_16 rfl 2 rfl ?_
      obtain ⟨q2, h⟩ := ck h
      refine r_iald (pc' := 18) C sh_157 (vin q2) dX9_ruled_17 rfl ?_
      refine r_istore_n (pc' := 19) (lv2 := [(3, .int (gi σ 157 v2.toNatClampNeg)), (0, .ref 149), (1, .int v1), (2, .int v2)]) C dX9_ruled_18 rfl rfl (Nat.le_of_ble_eq_true rfl) rfl ?_
      refine r_iload_n (pc' := 20) C dX9_ruled_19 rfl 0 rfl ?_
      refine r_sipush (pc' := 23) C dX9_ruled_20 rfl ks_3000 ?_
      refine r_icmp_ne (tgt := 46) (pc' := 26) C dX9_ruled_23 rfl rfl (fun c3 => ?_) (fun c3 => ?_)
      · rw [if_neg c3] at h
        refine r_iload_n (pc' := 47) C dX9_ruled_46 rfl 0 rfl ?_
        refine r_sipush (pc' := 50) C dX9_ruled_47 rfl ks_2000 ?_
        refine r_icmp_lt (tgt := 89) (pc' := 53) C dX9_ruled_50 rfl rfl (fun c4 => ?_) (fun c4 => ?_)
        · rw [if_pos c4] at h
          refine r_aload_n (pc' := 90) C dX9_ruled_89 rfl 1 rfl ?_
          refine r_getR (pc' := 93) C flX9_52 sh_149 rfl dX9_ruled_90 rfl ?_
          refine r_iload_n (pc' := 94) C dX9_ruled_93 rfl 2 rfl ?_
          refine r_iload_n (pc' := 95) C dX9_ruled_94 rfl 0 rfl ?_
          refine r_sipush (pc' := 98) C dX9_ruled_95 rfl ks_1000 ?_
          refine r_icmp_lt (tgt := 114) (pc' := 101) C dX9_ruled_98 rfl rfl (fun c5 => ?_) (fun c5 => ?_)
          · rw [if_pos c5] at h
            refine r_iload_n (pc' := 115) C dX9_ruled_114 rfl 0 rfl ?_
            obtain ⟨q6, h⟩ := ck h
            obtain ⟨σ7, e8, h⟩ := bs h
            refine r_iast (pc' := 116) (σ1 := σ7) C sh_159 (vin q6) dX9_ruled_115 rfl e8 ?_
            refine r_iinc (pc' := 119) (v := v1 + 1) (lv2 := [(1, .int (v1 + 1)), (3, .int (gi σ 157 v2.toNatClampNeg)), (0, .ref 149), (2, .int v2)]) C dX9_ruled_116 rfl 2 rfl rfl (Nat.le_of_ble_eq_true rfl) rfl ?_
            refine r_iinc (pc' := 122) (v := v2 + 1) (lv2 := [(2, .int (v2 + 1)), (1, .int (v1 + 1)), (3, .int (gi σ 157 v2.toNatClampNeg)), (0, .ref 149)]) C dX9_ruled_119 rfl 3 rfl rfl (Nat.le_of_ble_eq_true rfl) rfl ?_
            refine r_goto (tgt := 4) C dX9_ruled_122 rfl ?_
            refine r_sub [3, 1, 0] rfl ?_
            exact ih _ _ _ _ h Z C hE
          · rw [if_neg c5] at h
            refine r_aload_n (pc' := 102) C dX9_ruled_101 rfl 1 rfl ?_
            refine r_getR (pc' := 105) C flX9_55 sh_149 rfl dX9_ruled_102 rfl ?_
            refine r_iload_n (pc' := 106) C dX9_ruled_105 rfl 0 rfl ?_
            refine r_sipush (pc' := 109) C dX9_ruled_106 rfl ks_1000 ?_
            refine r_isub (pc' := 110) C dX9_ruled_109 rfl ?_
            obtain ⟨q9, h⟩ := ck h
            refine r_iald (pc' := 111) C sh_160 (vin q9) dX9_ruled_110 rfl ?_
            refine r_goto (tgt := 115) C dX9_ruled_111 rfl ?_
            obtain ⟨q10, h⟩ := ck h
            obtain ⟨σ11, e12, h⟩ := bs h
            refine r_iast (pc' := 116) (σ1 := σ11) C sh_159 (vin q10) dX9_ruled_115 rfl e12 ?_
            refine r_iinc (pc' := 119) (v := v1 + 1) (lv2 := [(1, .int (v1 + 1)), (3, .int (gi σ 157 v2.toNatClampNeg)), (0, .ref 149), (2, .int v2)]) C dX9_ruled_116 rfl 2 rfl rfl (Nat.le_of_ble_eq_true rfl) rfl ?_
            refine r_iinc (pc' := 122) (v := v2 + 1) (lv2 := [(2, .int (v2 + 1)), (1, .int (v1 + 1)), (3, .int (gi σ 157 v2.toNatClampNeg)), (0, .ref 149)]) C dX9_ruled_119 rfl 3 rfl rfl (Nat.le_of_ble_eq_true rfl) rfl ?_
            refine r_goto (tgt := 4) C dX9_ruled_122 rfl ?_
            refine r_sub [3, 1, 0] rfl ?_
            exact ih _ _ _ _ h Z C hE
        · rw [if_neg c4] at h
          refine r_iinc (pc' := 56) (v := v1 + (-1)) (lv2 := [(1, .int (v1 + (-1))), (3, .int (gi σ 157 v2.toNatClampNeg)), (0, .ref 149), (2, .int v2)]) C dX9_ruled_53 rfl 2 rfl rfl (Nat.le_of_ble_eq_true rfl) rfl ?_
          refine r_aload_n (pc' := 57) C dX9_ruled_56 rfl 2 rfl ?_
          refine r_getR (pc' := 60) C flX9_52 sh_149 rfl dX9_ruled_57 rfl ?_
          refine r_iload_n (pc' := 61) C dX9_ruled_60 rfl 0 rfl ?_
          refine r_iconst (pc' := 62) C dX9_ruled_61 rfl kc_1 ?_
          refine r_isub (pc' := 63) C dX9_ruled_62 rfl ?_
          refine r_iload_n (pc' := 64) C dX9_ruled_63 rfl 1 rfl ?_
          refine r_sipush (pc' := 67) C dX9_ruled_64 rfl ks_2000 ?_
          refine r_isub (pc' := 68) C dX9_ruled_67 rfl ?_
          refine r_aload_n (pc' := 69) C dX9_ruled_68 rfl 2 rfl ?_
          refine r_getR (pc' := 72) C flX9_52 sh_149 rfl dX9_ruled_69 rfl ?_
          refine r_iload_n (pc' := 73) C dX9_ruled_72 rfl 0 rfl ?_
          refine r_iconst (pc' := 74) C dX9_ruled_73 rfl kc_1 ?_
          refine r_isub (pc' := 75) C dX9_ruled_74 rfl ?_
          obtain ⟨q13, h⟩ := ck h
          refine r_iald (pc' := 76) C sh_159 (vin q13) dX9_ruled_75 rfl ?_
          refine r_aload_n (pc' := 77) C dX9_ruled_76 rfl 2 rfl ?_
          refine r_getR (pc' := 80) C flX9_52 sh_149 rfl dX9_ruled_77 rfl ?_
          refine r_iload_n (pc' := 81) C dX9_ruled_80 rfl 0 rfl ?_
          obtain ⟨q14, h⟩ := ck h
          refine r_iald (pc' := 82) C sh_159 (vin q14) dX9_ruled_81 rfl ?_
          obtain ⟨r15, e16, h⟩ := bd h
          refine r_cS1 (pc' := 85) C (X9_worked_ok  e16) mlX9_257 ceX9_worked csX9_worked rfl (Nat.le_of_ble_eq_true rfl) rfl (Nat.le_of_ble_eq_true rfl) dX9_ruled_82 rfl (kk := ?_)
          obtain ⟨q17, h⟩ := ck h
          obtain ⟨σ18, e19, h⟩ := bs h
          refine r_iast (pc' := 86) (σ1 := σ18) C sh_159 (vin q17) dX9_ruled_85 rfl e19 ?_
          refine r_goto (tgt := 119) C dX9_ruled_86 rfl ?_
          refine r_iinc (pc' := 122) (v := v2 + 1) (lv2 := [(2, .int (v2 + 1)), (1, .int (v1 + (-1))), (3, .int (gi σ 157 v2.toNatClampNeg)), (0, .ref 149)]) C dX9_ruled_119 rfl 3 rfl rfl (Nat.le_of_ble_eq_true rfl) rfl ?_
          refine r_goto (tgt := 4) C dX9_ruled_122 rfl ?_
          refine r_sub [3, 1, 0] rfl ?_
          exact ih _ _ _ _ h Z C hE
      · rw [if_pos c3] at h
        refine r_aload_n (pc' := 27) C dX9_ruled_26 rfl 1 rfl ?_
        refine r_getR (pc' := 30) C flX9_52 sh_149 rfl dX9_ruled_27 rfl ?_
        refine r_iload_n (pc' := 31) C dX9_ruled_30 rfl 2 rfl ?_
        refine r_iconst (pc' := 32) C dX9_ruled_31 rfl kc_1 ?_
        refine r_isub (pc' := 33) C dX9_ruled_32 rfl ?_
        refine r_aload_n (pc' := 34) C dX9_ruled_33 rfl 1 rfl ?_
        refine r_getR (pc' := 37) C flX9_52 sh_149 rfl dX9_ruled_34 rfl ?_
        refine r_iload_n (pc' := 38) C dX9_ruled_37 rfl 2 rfl ?_
        refine r_iconst (pc' := 39) C dX9_ruled_38 rfl kc_1 ?_
        refine r_isub (pc' := 40) C dX9_ruled_39 rfl ?_
        obtain ⟨q20, h⟩ := ck h
        refine r_iald (pc' := 41) C sh_159 (vin q20) dX9_ruled_40 rfl ?_
        refine r_ineg (pc' := 42) C dX9_ruled_41 rfl ?_
        obtain ⟨q21, h⟩ := ck h
        obtain ⟨σ22, e23, h⟩ := bs h
        refine r_iast (pc' := 43) (σ1 := σ22) C sh_159 (vin q21) dX9_ruled_42 rfl e23 ?_
        refine r_goto (tgt := 119) C dX9_ruled_43 rfl ?_
        refine r_iinc (pc' := 122) (v := v2 + 1) (lv2 := [(2, .int (v2 + 1)), (3, .int (gi σ 157 v2.toNatClampNeg)), (0, .ref 149), (1, .int v1)]) C dX9_ruled_119 rfl 3 rfl rfl (Nat.le_of_ble_eq_true rfl) rfl ?_
        refine r_goto (tgt := 4) C dX9_ruled_122 rfl ?_
        refine r_sub [2, 3, 0] rfl ?_
        exact ih _ _ _ _ h Z C hE
def X9_ruled_j125 (N : Nat)    (σ : Sg) : Option (Int32 × Sg) :=
  if (gi σ 149 19) = 0 then (if inb 0 8 = true then if inb 1 8 = true then some (((gi σ 160 (0 : Int32).toNatClampNeg) / 2) + ((gi σ 160 (1 : Int32).toNatClampNeg) / 3), σ) else none else none) else (if inb 0 80 = true then some (gi σ 159 (0 : Int32).toNatClampNeg, σ) else none)
set_option maxRecDepth 100000 in
set_option maxHeartbeats 4000000 in
theorem X9_ruled_j125_ok {E : Ev}  {N : Nat}     {σ : Sg} {r : Int32 × Sg} (h : X9_ruled_j125 N    σ = some r) : Gp E RX9 cX9_ruled (some .int) 4 (2) SH0 r.2 (some (.int r.1)) σ 125 [(0, .ref 149)] [] := by
  intro Z C hE
  unfold X9_ruled_j125 at h
  refine r_aload_n (pc' := 126) C dX9_ruled_125 rfl 0 rfl ?_
  refine r_getI (pc' := 129) C flX9_247 sh_149 rfl dX9_ruled_126 rfl ?_
  refine r_if_ne (tgt := 152) (pc' := 132) C dX9_ruled_129 rfl rfl (fun c24 => ?_) (fun c24 => ?_)
  · rw [if_neg c24] at h
    refine r_aload_n (pc' := 153) C dX9_ruled_152 rfl 0 rfl ?_
    refine r_getR (pc' := 156) C flX9_52 sh_149 rfl dX9_ruled_153 rfl ?_
    refine r_iconst (pc' := 157) C dX9_ruled_156 rfl kc_0 ?_
    obtain ⟨q25, h⟩ := ck h
    refine r_iald (pc' := 158) C sh_159 (vin q25) dX9_ruled_157 rfl ?_
    have h := Option.some.inj h
    subst h
    exact r_ret C rfl dX9_ruled_158 hE
  · rw [if_pos c24] at h
    refine r_aload_n (pc' := 133) C dX9_ruled_132 rfl 0 rfl ?_
    refine r_getR (pc' := 136) C flX9_55 sh_149 rfl dX9_ruled_133 rfl ?_
    refine r_iconst (pc' := 137) C dX9_ruled_136 rfl kc_0 ?_
    obtain ⟨q26, h⟩ := ck h
    refine r_iald (pc' := 138) C sh_160 (vin q26) dX9_ruled_137 rfl ?_
    refine r_iconst (pc' := 139) C dX9_ruled_138 rfl kc_2 ?_
    refine r_idiv (pc' := 140) C dX9_ruled_139 rfl (by decide) ?_
    refine r_aload_n (pc' := 141) C dX9_ruled_140 rfl 0 rfl ?_
    refine r_getR (pc' := 144) C flX9_55 sh_149 rfl dX9_ruled_141 rfl ?_
    refine r_iconst (pc' := 145) C dX9_ruled_144 rfl kc_1 ?_
    obtain ⟨q28, h⟩ := ck h
    refine r_iald (pc' := 146) C sh_160 (vin q28) dX9_ruled_145 rfl ?_
    refine r_iconst (pc' := 147) C dX9_ruled_146 rfl kc_3 ?_
    refine r_idiv (pc' := 148) C dX9_ruled_147 rfl (by decide) ?_
    refine r_iadd (pc' := 149) C dX9_ruled_148 rfl ?_
    refine r_goto (tgt := 158) C dX9_ruled_149 rfl ?_
    have h := Option.some.inj h
    subst h
    exact r_ret C rfl dX9_ruled_158 hE
def X9_ruled (N : Nat)   (σ : Sg) : Option (Int32 × Sg) :=
  X9_ruled_l4 N (fun σ => X9_ruled_j125 N σ) N 0 0 σ
set_option maxRecDepth 100000 in
set_option maxHeartbeats 4000000 in
theorem X9_ruled_ok {E : Ev}  {N : Nat}  {σ : Sg} {r : Int32 × Sg} (h : X9_ruled N   σ = some r) : Cm E (2) yX9_ruled cX9_ruled 4 (some .int) [.ref 149] SH0 SH0 σ r.2 (some (.int r.1)) 0 0 := by
  refine Cm.intro (by decide +kernel) (Nat.le_of_ble_eq_true rfl) (fun _ h => by obtain ⟨_, _, _, _, _, _, h⟩ := h; exact h) (fun Z C hE => ?_)
  show Wm E Z 0 0 SH0 σ 0 [(0, .ref 149)] []
  unfold X9_ruled at h
  refine r_iconst (pc' := 1) C dX9_ruled_0 rfl kc_0 ?_
  refine r_istore_n (pc' := 2) (lv2 := [(1, .int 0), (0, .ref 149)]) C dX9_ruled_1 rfl rfl (Nat.le_of_ble_eq_true rfl) rfl ?_
  refine r_iconst (pc' := 3) C dX9_ruled_2 rfl kc_0 ?_
  refine r_istore_n (pc' := 4) (lv2 := [(2, .int 0), (1, .int 0), (0, .ref 149)]) C dX9_ruled_3 rfl rfl (Nat.le_of_ble_eq_true rfl) rfl ?_
  refine r_sub [2, 1, 0] rfl ?_
  exact X9_ruled_l4_ok  (fun _ _ h Z C hE => by exact X9_ruled_j125_ok  h Z C hE) N _ _ _ _ h Z C hE

/-! BorrowedWeightModel.need([II)I -/
def X9_need (N : Nat) (k1 : Nat) (v2 : Int32) (σ : Sg) : Option (Int32 × Sg) :=
  if inb 32 37 = true then (X9_has N (gi σ k1 (32 : Int32).toNatClampNeg) v2 σ).bind fun r2 => (if r2 = 0 then (if inb v2 8 = true then if inb 0 8 = true then bnS (wi σ 160 (0 : Int32).toNatClampNeg (gi σ 151 v2.toNatClampNeg)) fun σ7 => if inb 36 37 = true then (X9_windOn N (gi σ7 k1 (36 : Int32).toNatClampNeg) σ7).bind fun r10 => (if inb 1 8 = true then bnS (wi σ7 160 (1 : Int32).toNatClampNeg r10) fun σ13 => if inb (24 + v2) 37 = true then (J6_bitCount_0f7a4 N (gi σ13 k1 (24 + v2).toNatClampNeg) σ13).bind fun r16 => (if inb 2 8 = true then bnS (wi σ13 160 (2 : Int32).toNatClampNeg r16) fun σ19 => if inb v2 37 = true then if inb 3 8 = true then bnS (wi σ19 160 (3 : Int32).toNatClampNeg (gi σ19 k1 v2.toNatClampNeg)) fun σ23 => if inb (8 + v2) 37 = true then if inb 4 8 = true then bnS (wi σ23 160 (4 : Int32).toNatClampNeg (gi σ23 k1 (8 + v2).toNatClampNeg)) fun σ27 => if inb (16 + v2) 37 = true then if inb 5 8 = true then bnS (wi σ27 160 (5 : Int32).toNatClampNeg (gi σ27 k1 (16 + v2).toNatClampNeg)) fun σ31 => if inb 6 8 = true then bnS (wi σ31 160 (6 : Int32).toNatClampNeg v2) fun σ34 => if inb 36 37 = true then if inb 7 8 = true then bnS (wi σ34 160 (7 : Int32).toNatClampNeg ((gi σ34 k1 (36 : Int32).toNatClampNeg) - (gi σ34 k1 (36 : Int32).toNatClampNeg) / 7 * 7)) fun σ39 => (X9_ruled N σ39).bind fun r41 => ((J9_min_7cf53 N 9 r41.1 r41.2).bind fun r43 => ((J9_max_7cf53 N 0 r43 r41.2).bind fun r45 => (some (r45, r41.2)))) else none else none else none else none else none else none else none else none else none else none) else none else none) else none else none else none) else (some (0, σ))) else none
set_option maxRecDepth 100000 in
set_option maxHeartbeats 4000000 in
theorem X9_need_ok {E : Ev} {k1 : Nat} (hk1 : MaAt SH0 k1) {N : Nat} {v2 : Int32} {σ : Sg} {r : Int32 × Sg} (h : X9_need N k1 v2 σ = some r) : Cm E (3) yX9_need cX9_need 3 (some .int) [.ref 149, .ref k1, .int v2] SH0 SH0 σ r.2 (some (.int r.1)) 0 0 := by
  refine Cm.intro (by decide +kernel) (Nat.le_of_ble_eq_true rfl) (fun _ h => by obtain ⟨_, _, _, _, _, _, h⟩ := h; exact h) (fun Z C hE => ?_)
  show Wm E Z 0 0 SH0 σ 0 [(0, .ref 149), (1, .ref k1), (2, .int v2)] []
  unfold X9_need at h
  refine r_aload_n (pc' := 1) C dX9_need_0 rfl 1 rfl ?_
  refine r_bipush (pc' := 3) C dX9_need_1 rfl kb_32 ?_
  obtain ⟨q1, h⟩ := ck h
  refine r_iald (pc' := 4) C hk1 (vin q1) dX9_need_3 rfl ?_
  refine r_iload_n (pc' := 5) C dX9_need_4 rfl 2 rfl ?_
  obtain ⟨r2, e3, h⟩ := bd h
  refine r_cS1 (pc' := 8) C (X9_has_ok  e3) mlX9_127 ceX9_has csX9_has rfl (Nat.le_of_ble_eq_true rfl) rfl (Nat.le_of_ble_eq_true rfl) dX9_need_5 rfl (kk := ?_)
  refine r_if_eq (tgt := 13) (pc' := 11) C dX9_need_8 rfl rfl (fun c4 => ?_) (fun c4 => ?_)
  · rw [if_pos c4] at h
    refine r_aload_n (pc' := 14) C dX9_need_13 rfl 0 rfl ?_
    refine r_getR (pc' := 17) C flX9_55 sh_149 rfl dX9_need_14 rfl ?_
    refine r_iconst (pc' := 18) C dX9_need_17 rfl kc_0 ?_
    refine r_aload_n (pc' := 19) C dX9_need_18 rfl 0 rfl ?_
    refine r_getR (pc' := 22) C flX9_27 sh_149 rfl dX9_need_19 rfl ?_
    refine r_iload_n (pc' := 23) C dX9_need_22 rfl 2 rfl ?_
    obtain ⟨q5, h⟩ := ck h
    refine r_iald (pc' := 24) C sh_151 (vin q5) dX9_need_23 rfl ?_
    obtain ⟨q6, h⟩ := ck h
    obtain ⟨σ7, e8, h⟩ := bs h
    refine r_iast (pc' := 25) (σ1 := σ7) C sh_160 (vin q6) dX9_need_24 rfl e8 ?_
    refine r_aload_n (pc' := 26) C dX9_need_25 rfl 0 rfl ?_
    refine r_getR (pc' := 29) C flX9_55 sh_149 rfl dX9_need_26 rfl ?_
    refine r_iconst (pc' := 30) C dX9_need_29 rfl kc_1 ?_
    refine r_aload_n (pc' := 31) C dX9_need_30 rfl 0 rfl ?_
    refine r_aload_n (pc' := 32) C dX9_need_31 rfl 1 rfl ?_
    refine r_bipush (pc' := 34) C dX9_need_32 rfl kb_36 ?_
    obtain ⟨q9, h⟩ := ck h
    refine r_iald (pc' := 35) C hk1 (vin q9) dX9_need_34 rfl ?_
    obtain ⟨r10, e11, h⟩ := bd h
    refine r_cV1 (pc' := 38) C (X9_windOn_ok  e11) mlX9_261 ceX9_windOn cvX9_windOn sh_149 rfl rfl rfl (Nat.le_of_ble_eq_true rfl) rfl (Nat.le_of_ble_eq_true rfl) dX9_need_35 rfl (kk := ?_)
    obtain ⟨q12, h⟩ := ck h
    obtain ⟨σ13, e14, h⟩ := bs h
    refine r_iast (pc' := 39) (σ1 := σ13) C sh_160 (vin q12) dX9_need_38 rfl e14 ?_
    refine r_aload_n (pc' := 40) C dX9_need_39 rfl 0 rfl ?_
    refine r_getR (pc' := 43) C flX9_55 sh_149 rfl dX9_need_40 rfl ?_
    refine r_iconst (pc' := 44) C dX9_need_43 rfl kc_2 ?_
    refine r_aload_n (pc' := 45) C dX9_need_44 rfl 1 rfl ?_
    refine r_bipush (pc' := 47) C dX9_need_45 rfl kb_24 ?_
    refine r_iload_n (pc' := 48) C dX9_need_47 rfl 2 rfl ?_
    refine r_iadd (pc' := 49) C dX9_need_48 rfl ?_
    obtain ⟨q15, h⟩ := ck h
    refine r_iald (pc' := 50) C hk1 (vin q15) dX9_need_49 rfl ?_
    obtain ⟨r16, e17, h⟩ := bd h
    refine r_cS1 (pc' := 53) C (J6_bitCount_0f7a4_ok  e17) mlX9_135 ceJ6_bitCount_0f7a4 csJ6_bitCount_0f7a4 rfl (Nat.le_of_ble_eq_true rfl) rfl (Nat.le_of_ble_eq_true rfl) dX9_need_50 rfl (kk := ?_)
    obtain ⟨q18, h⟩ := ck h
    obtain ⟨σ19, e20, h⟩ := bs h
    refine r_iast (pc' := 54) (σ1 := σ19) C sh_160 (vin q18) dX9_need_53 rfl e20 ?_
    refine r_aload_n (pc' := 55) C dX9_need_54 rfl 0 rfl ?_
    refine r_getR (pc' := 58) C flX9_55 sh_149 rfl dX9_need_55 rfl ?_
    refine r_iconst (pc' := 59) C dX9_need_58 rfl kc_3 ?_
    refine r_aload_n (pc' := 60) C dX9_need_59 rfl 1 rfl ?_
    refine r_iload_n (pc' := 61) C dX9_need_60 rfl 2 rfl ?_
    obtain ⟨q21, h⟩ := ck h
    refine r_iald (pc' := 62) C hk1 (vin q21) dX9_need_61 rfl ?_
    obtain ⟨q22, h⟩ := ck h
    obtain ⟨σ23, e24, h⟩ := bs h
    refine r_iast (pc' := 63) (σ1 := σ23) C sh_160 (vin q22) dX9_need_62 rfl e24 ?_
    refine r_aload_n (pc' := 64) C dX9_need_63 rfl 0 rfl ?_
    refine r_getR (pc' := 67) C flX9_55 sh_149 rfl dX9_need_64 rfl ?_
    refine r_iconst (pc' := 68) C dX9_need_67 rfl kc_4 ?_
    refine r_aload_n (pc' := 69) C dX9_need_68 rfl 1 rfl ?_
    refine r_bipush (pc' := 71) C dX9_need_69 rfl kb_8 ?_
    refine r_iload_n (pc' := 72) C dX9_need_71 rfl 2 rfl ?_
    refine r_iadd (pc' := 73) C dX9_need_72 rfl ?_
    obtain ⟨q25, h⟩ := ck h
    refine r_iald (pc' := 74) C hk1 (vin q25) dX9_need_73 rfl ?_
    obtain ⟨q26, h⟩ := ck h
    obtain ⟨σ27, e28, h⟩ := bs h
    refine r_iast (pc' := 75) (σ1 := σ27) C sh_160 (vin q26) dX9_need_74 rfl e28 ?_
    refine r_aload_n (pc' := 76) C dX9_need_75 rfl 0 rfl ?_
    refine r_getR (pc' := 79) C flX9_55 sh_149 rfl dX9_need_76 rfl ?_
    refine r_iconst (pc' := 80) C dX9_need_79 rfl kc_5 ?_
    refine r_aload_n (pc' := 81) C dX9_need_80 rfl 1 rfl ?_
    refine r_bipush (pc' := 83) C dX9_need_81 rfl kb_16 ?_
    refine r_iload_n (pc' := 84) C dX9_need_83 rfl 2 rfl ?_
    refine r_iadd (pc' := 85) C dX9_need_84 rfl ?_
    obtain ⟨q29, h⟩ := ck h
    refine r_iald (pc' := 86) C hk1 (vin q29) dX9_need_85 rfl ?_
    obtain ⟨q30, h⟩ := ck h
    obtain ⟨σ31, e32, h⟩ := bs h
    refine r_iast (pc' := 87) (σ1 := σ31) C sh_160 (vin q30) dX9_need_86 rfl e32 ?_
    refine r_aload_n (pc' := 88) C dX9_need_87 rfl 0 rfl ?_
    refine r_getR (pc' := 91) C flX9_55 sh_149 rfl dX9_need_88 rfl ?_
    refine r_bipush (pc' := 93) C dX9_need_91 rfl kb_6 ?_
    refine r_iload_n (pc' := 94) C dX9_need_93 rfl 2 rfl ?_
    obtain ⟨q33, h⟩ := ck h
    obtain ⟨σ34, e35, h⟩ := bs h
    refine r_iast (pc' := 95) (σ1 := σ34) C sh_160 (vin q33) dX9_need_94 rfl e35 ?_
    refine r_aload_n (pc' := 96) C dX9_need_95 rfl 0 rfl ?_
    refine r_getR (pc' := 99) C flX9_55 sh_149 rfl dX9_need_96 rfl ?_
    refine r_bipush (pc' := 101) C dX9_need_99 rfl kb_7 ?_
    refine r_aload_n (pc' := 102) C dX9_need_101 rfl 1 rfl ?_
    refine r_bipush (pc' := 104) C dX9_need_102 rfl kb_36 ?_
    obtain ⟨q36, h⟩ := ck h
    refine r_iald (pc' := 105) C hk1 (vin q36) dX9_need_104 rfl ?_
    refine r_bipush (pc' := 107) C dX9_need_105 rfl kb_7 ?_
    refine r_irem (pc' := 108) C dX9_need_107 rfl (by decide) ?_
    obtain ⟨q38, h⟩ := ck h
    obtain ⟨σ39, e40, h⟩ := bs h
    refine r_iast (pc' := 109) (σ1 := σ39) C sh_160 (vin q38) dX9_need_108 rfl e40 ?_
    refine r_iconst (pc' := 110) C dX9_need_109 rfl kc_0 ?_
    refine r_bipush (pc' := 112) C dX9_need_110 rfl kb_9 ?_
    refine r_aload_n (pc' := 113) C dX9_need_112 rfl 0 rfl ?_
    obtain ⟨r41, e42, h⟩ := bd h
    refine r_cV1 (pc' := 116) C (X9_ruled_ok  e42) mlX9_264 ceX9_ruled cvX9_ruled sh_149 rfl rfl rfl (Nat.le_of_ble_eq_true rfl) rfl (Nat.le_of_ble_eq_true rfl) dX9_need_113 rfl (kk := ?_)
    obtain ⟨r43, e44, h⟩ := bd h
    refine r_cS1 (pc' := 119) C (J9_min_7cf53_ok  e44) mlX9_150 ceJ9_min_7cf53 csJ9_min_7cf53 rfl (Nat.le_of_ble_eq_true rfl) rfl (Nat.le_of_ble_eq_true rfl) dX9_need_116 rfl (kk := ?_)
    obtain ⟨r45, e46, h⟩ := bd h
    refine r_cS1 (pc' := 122) C (J9_max_7cf53_ok  e46) mlX9_267 ceJ9_max_7cf53 csJ9_max_7cf53 rfl (Nat.le_of_ble_eq_true rfl) rfl (Nat.le_of_ble_eq_true rfl) dX9_need_119 rfl (kk := ?_)
    have h := Option.some.inj h
    subst h
    exact r_ret C rfl dX9_need_122 hE
  · rw [if_neg c4] at h
    refine r_iconst (pc' := 12) C dX9_need_11 rfl kc_0 ?_
    have h := Option.some.inj h
    subst h
    exact r_ret C rfl dX9_need_12 hE

/-! BorrowedWeightModel.bundle([II)I -/
def X9_bundle_l34 (N : Nat) (k1 : Nat) (k72 : Int32 → Int32 → Option (Int32)) (σ : Sg) : Nat → Int32 → Int32 → Int32 → Option (Int32)
  | 0, _, _, _ => none
  | n + 1, v3, v4, v5 =>
    if (gi σ 149 3) ≤ v5 then (k72 v3 v4) else ((X9_has N v3 v5 σ).bind fun r7 => (if r7 = 0 then (X9_bundle_l34 N k1 k72 σ n (v3 ||| 0) v4 (v5 + 1)) else (if inb (24 + v5) 37 = true then X9_bundle_l34 N k1 k72 σ n (v3 ||| (gi σ k1 (24 + v5).toNatClampNeg)) v4 (v5 + 1) else none)))
set_option maxRecDepth 100000 in
set_option maxHeartbeats 4000000 in
theorem X9_bundle_l34_ok {E : Ev} {k1 : Nat} (hk1 : MaAt SH0 k1) {N : Nat} {k72 : Int32 → Int32 → Option (Int32)} {σ : Sg} (hk72 : ∀ (v3 : Int32) (v4 : Int32) (r : Int32), k72 v3 v4 = some r → Gp E RX9 cX9_bundle (some .int) 6 (1) SH0 σ (some (.int r)) σ 72 [(0, .ref 149), (1, .ref k1), (3, .int v3), (4, .int v4)] []) : ∀ (n : Nat) (v3 : Int32) (v4 : Int32) (v5 : Int32) (r : Int32), X9_bundle_l34 N k1 k72 σ n v3 v4 v5 = some r → Gp E RX9 cX9_bundle (some .int) 6 (1) SH0 σ (some (.int r)) σ 34 [(0, .ref 149), (1, .ref k1), (3, .int v3), (4, .int v4), (5, .int v5)] [] := by
  intro n
  induction n with
  | zero => intro v3 v4 v5 r h; cases h
  | succ n ih =>
    intro v3 v4 v5 r h Z C hE
    unfold X9_bundle_l34 at h
    refine r_iload (pc' := 36) C dX9_bundle_34 rfl 4 rfl ?_
    refine r_aload_n (pc' := 37) C dX9_bundle_36 rfl 0 rfl ?_
    refine r_getI (pc' := 40) C flX9_116 sh_149 rfl dX9_bundle_37 rfl ?_
    refine r_icmp_ge (tgt := 72) (pc' := 43) C dX9_bundle_40 rfl rfl (fun c6 => ?_) (fun c6 => ?_)
    · rw [if_pos c6] at h
      refine r_sub [0, 1, 2, 3] rfl ?_
      exact hk72 _ _ _ h Z C hE
    · rw [if_neg c6] at h
      refine r_iload_n (pc' := 44) C dX9_bundle_43 rfl 2 rfl ?_
      refine r_iload_n (pc' := 45) C dX9_bundle_44 rfl 2 rfl ?_
      refine r_iload (pc' := 47) C dX9_bundle_45 rfl 4 rfl ?_
      obtain ⟨r7, e8, h⟩ := bd h
      refine r_cS1 (pc' := 50) C (X9_has_ok  e8) mlX9_127 ceX9_has csX9_has rfl (Nat.le_of_ble_eq_true rfl) rfl (Nat.le_of_ble_eq_true rfl) dX9_bundle_47 rfl (kk := ?_)
      refine r_if_eq (tgt := 63) (pc' := 53) C dX9_bundle_50 rfl rfl (fun c9 => ?_) (fun c9 => ?_)
      · rw [if_pos c9] at h
        refine r_iconst (pc' := 64) C dX9_bundle_63 rfl kc_0 ?_
        refine r_ior (pc' := 65) C dX9_bundle_64 rfl ?_
        refine r_istore_n (pc' := 66) (lv2 := [(3, .int (v3 ||| 0)), (0, .ref 149), (1, .ref k1), (4, .int v4), (5, .int v5)]) C dX9_bundle_65 rfl rfl (Nat.le_of_ble_eq_true rfl) rfl ?_
        refine r_iinc (pc' := 69) (v := v5 + 1) (lv2 := [(5, .int (v5 + 1)), (3, .int (v3 ||| 0)), (0, .ref 149), (1, .ref k1), (4, .int v4)]) C dX9_bundle_66 rfl 4 rfl rfl (Nat.le_of_ble_eq_true rfl) rfl ?_
        refine r_goto (tgt := 34) C dX9_bundle_69 rfl ?_
        refine r_sub [2, 3, 1, 4, 0] rfl ?_
        exact ih _ _ _ _ h Z C hE
      · rw [if_neg c9] at h
        refine r_aload_n (pc' := 54) C dX9_bundle_53 rfl 1 rfl ?_
        refine r_bipush (pc' := 56) C dX9_bundle_54 rfl kb_24 ?_
        refine r_iload (pc' := 58) C dX9_bundle_56 rfl 4 rfl ?_
        refine r_iadd (pc' := 59) C dX9_bundle_58 rfl ?_
        obtain ⟨q10, h⟩ := ck h
        refine r_iald (pc' := 60) C hk1 (vin q10) dX9_bundle_59 rfl ?_
        refine r_goto (tgt := 64) C dX9_bundle_60 rfl ?_
        refine r_ior (pc' := 65) C dX9_bundle_64 rfl ?_
        refine r_istore_n (pc' := 66) (lv2 := [(3, .int (v3 ||| (gi σ k1 (24 + v5).toNatClampNeg))), (0, .ref 149), (1, .ref k1), (4, .int v4), (5, .int v5)]) C dX9_bundle_65 rfl rfl (Nat.le_of_ble_eq_true rfl) rfl ?_
        refine r_iinc (pc' := 69) (v := v5 + 1) (lv2 := [(5, .int (v5 + 1)), (3, .int (v3 ||| (gi σ k1 (24 + v5).toNatClampNeg))), (0, .ref 149), (1, .ref k1), (4, .int v4)]) C dX9_bundle_66 rfl 4 rfl rfl (Nat.le_of_ble_eq_true rfl) rfl ?_
        refine r_goto (tgt := 34) C dX9_bundle_69 rfl ?_
        refine r_sub [2, 3, 1, 4, 0] rfl ?_
        exact ih _ _ _ _ h Z C hE
def X9_bundle_j72 (N : Nat) (k1 : Nat) (kr : Int32 → Int32 → Option (Int32)) (v3 : Int32) (v4 : Int32) (σ : Sg) : Option (Int32) :=
  kr v3 (v4 + 1)
set_option maxRecDepth 100000 in
set_option maxHeartbeats 4000000 in
theorem X9_bundle_j72_ok {E : Ev} {k1 : Nat} (hk1 : MaAt SH0 k1) {N : Nat} {kr : Int32 → Int32 → Option (Int32)} {σ : Sg}  (hkr : ∀ (v3 : Int32) (v4 : Int32) (r : Int32), kr v3 v4 = some r → Gp E RX9 cX9_bundle (some .int) 6 (1) SH0 σ (some (.int r)) σ 22 [(0, .ref 149), (1, .ref k1), (3, .int v3), (4, .int v4)] []) {v3 : Int32} {v4 : Int32} {r : Int32} (h : X9_bundle_j72 N k1 kr v3 v4 σ = some r) : Gp E RX9 cX9_bundle (some .int) 6 (1) SH0 σ (some (.int r)) σ 72 [(0, .ref 149), (1, .ref k1), (3, .int v3), (4, .int v4)] [] := by
  intro Z C hE
  unfold X9_bundle_j72 at h
  refine r_iinc (pc' := 75) (v := v4 + 1) (lv2 := [(4, .int (v4 + 1)), (0, .ref 149), (1, .ref k1), (3, .int v3)]) C dX9_bundle_72 rfl 3 rfl rfl (Nat.le_of_ble_eq_true rfl) rfl ?_
  refine r_goto (tgt := 22) C dX9_bundle_75 rfl ?_
  refine r_sub [1, 2, 3, 0] rfl ?_
  exact hkr _ _ _ h Z C hE
def X9_bundle_l22 (N : Nat) (k1 : Nat)  (σ : Sg) : Nat → Int32 → Int32 → Option (Int32)
  | 0, _, _ => none
  | n + 1, v3, v4 =>
    if (gi σ 149 3) ≤ v4 then (some v3) else (X9_bundle_l34 N k1 (fun v3 v4 => X9_bundle_j72 N k1 (fun v3 v4 => X9_bundle_l22 N k1 σ n v3 v4) v3 v4 σ) σ N v3 v4 0)
set_option maxRecDepth 100000 in
set_option maxHeartbeats 4000000 in
theorem X9_bundle_l22_ok {E : Ev} {k1 : Nat} (hk1 : MaAt SH0 k1) {N : Nat}  {σ : Sg}  : ∀ (n : Nat) (v3 : Int32) (v4 : Int32) (r : Int32), X9_bundle_l22 N k1 σ n v3 v4 = some r → Gp E RX9 cX9_bundle (some .int) 6 (1) SH0 σ (some (.int r)) σ 22 [(0, .ref 149), (1, .ref k1), (3, .int v3), (4, .int v4)] [] := by
  intro n
  induction n with
  | zero => intro v3 v4 r h; cases h
  | succ n ih =>
    intro v3 v4 r h Z C hE
    unfold X9_bundle_l22 at h
    refine r_iload (pc' := 24) C dX9_bundle_22 rfl 3 rfl ?_
    refine r_aload_n (pc' := 25) C dX9_bundle_24 rfl 0 rfl ?_
    refine r_getI (pc' := 28) C flX9_116 sh_149 rfl dX9_bundle_25 rfl ?_
    refine r_icmp_ge (tgt := 78) (pc' := 31) C dX9_bundle_28 rfl rfl (fun c5 => ?_) (fun c5 => ?_)
    · rw [if_pos c5] at h
      refine r_iload_n (pc' := 79) C dX9_bundle_78 rfl 2 rfl ?_
      have h := Option.some.inj h
      subst h
      exact r_ret C rfl dX9_bundle_79 hE
    · rw [if_neg c5] at h
      refine r_iconst (pc' := 32) C dX9_bundle_31 rfl kc_0 ?_
      refine r_istore (pc' := 34) (lv2 := [(5, .int 0), (0, .ref 149), (1, .ref k1), (3, .int v3), (4, .int v4)]) C dX9_bundle_32 rfl (Nat.le_of_ble_eq_true rfl) rfl ?_
      refine r_sub [1, 2, 3, 4, 0] rfl ?_
      exact X9_bundle_l34_ok hk1 (fun _ _ _ h Z C hE => by exact X9_bundle_j72_ok hk1 ih h Z C hE) N _ _ _ _ h Z C hE
def X9_bundle (N : Nat) (k1 : Nat) (v2 : Int32) (σ : Sg) : Option (Int32) :=
  if inb 32 37 = true then (X9_has N (gi σ k1 (32 : Int32).toNatClampNeg) v2 σ).bind fun r2 => (if r2 = 0 then (X9_bundle_l22 N k1 σ N (1 <<< (v2 &&& 31)) 0) else (X9_bundle_l22 N k1 σ N 0 0)) else none
set_option maxRecDepth 100000 in
set_option maxHeartbeats 4000000 in
theorem X9_bundle_ok {E : Ev} {k1 : Nat} (hk1 : MaAt SH0 k1) {N : Nat} {v2 : Int32} {σ : Sg} {r : Int32} (h : X9_bundle N k1 v2 σ = some r) : Cm E (1) yX9_bundle cX9_bundle 6 (some .int) [.ref 149, .ref k1, .int v2] SH0 SH0 σ σ (some (.int r)) 0 0 := by
  refine Cm.intro (by decide +kernel) (Nat.le_of_ble_eq_true rfl) (fun _ h => by obtain ⟨_, _, _, _, _, _, h⟩ := h; exact h) (fun Z C hE => ?_)
  show Wm E Z 0 0 SH0 σ 0 [(0, .ref 149), (1, .ref k1), (2, .int v2)] []
  unfold X9_bundle at h
  refine r_aload_n (pc' := 1) C dX9_bundle_0 rfl 1 rfl ?_
  refine r_bipush (pc' := 3) C dX9_bundle_1 rfl kb_32 ?_
  obtain ⟨q1, h⟩ := ck h
  refine r_iald (pc' := 4) C hk1 (vin q1) dX9_bundle_3 rfl ?_
  refine r_iload_n (pc' := 5) C dX9_bundle_4 rfl 2 rfl ?_
  obtain ⟨r2, e3, h⟩ := bd h
  refine r_cS1 (pc' := 8) C (X9_has_ok  e3) mlX9_127 ceX9_has csX9_has rfl (Nat.le_of_ble_eq_true rfl) rfl (Nat.le_of_ble_eq_true rfl) dX9_bundle_5 rfl (kk := ?_)
  refine r_if_eq (tgt := 15) (pc' := 11) C dX9_bundle_8 rfl rfl (fun c4 => ?_) (fun c4 => ?_)
  · rw [if_pos c4] at h
    refine r_iconst (pc' := 16) C dX9_bundle_15 rfl kc_1 ?_
    refine r_iload_n (pc' := 17) C dX9_bundle_16 rfl 2 rfl ?_
    refine r_ishl (pc' := 18) C dX9_bundle_17 rfl ?_
    refine r_istore_n (pc' := 19) (lv2 := [(3, .int (1 <<< (v2 &&& 31))), (0, .ref 149), (1, .ref k1), (2, .int v2)]) C dX9_bundle_18 rfl rfl (Nat.le_of_ble_eq_true rfl) rfl ?_
    refine r_iconst (pc' := 20) C dX9_bundle_19 rfl kc_0 ?_
    refine r_istore (pc' := 22) (lv2 := [(4, .int 0), (3, .int (1 <<< (v2 &&& 31))), (0, .ref 149), (1, .ref k1), (2, .int v2)]) C dX9_bundle_20 rfl (Nat.le_of_ble_eq_true rfl) rfl ?_
    refine r_sub [2, 3, 1, 0] rfl ?_
    exact X9_bundle_l22_ok hk1 N _ _ _ h Z C hE
  · rw [if_neg c4] at h
    refine r_iconst (pc' := 12) C dX9_bundle_11 rfl kc_0 ?_
    refine r_goto (tgt := 18) C dX9_bundle_12 rfl ?_
    refine r_istore_n (pc' := 19) (lv2 := [(3, .int 0), (0, .ref 149), (1, .ref k1), (2, .int v2)]) C dX9_bundle_18 rfl rfl (Nat.le_of_ble_eq_true rfl) rfl ?_
    refine r_iconst (pc' := 20) C dX9_bundle_19 rfl kc_0 ?_
    refine r_istore (pc' := 22) (lv2 := [(4, .int 0), (3, .int 0), (0, .ref 149), (1, .ref k1), (2, .int v2)]) C dX9_bundle_20 rfl (Nat.le_of_ble_eq_true rfl) rfl ?_
    refine r_sub [2, 3, 1, 0] rfl ?_
    exact X9_bundle_l22_ok hk1 N _ _ _ h Z C hE

/-! BorrowedWeightModel.thing(II)I -/
def X9_thing (N : Nat)  (v1 : Int32) (v2 : Int32) (σ : Sg) : Option (Int32 × Sg) :=
  bnS (wi σ 149 0 0) fun σ1 => (X9_isThing N v1 σ1).bind fun r3 => (if r3 = 0 then ((X9_refuse N σ1).bind fun r6 => (some (r6.1, r6.2))) else ((X9_in N v2.toInt64 0 7 σ1).bind fun r8 => (if r8 = 0 then ((X9_refuse N σ1).bind fun r33 => (some (r33.1, r33.2))) else (if v2 = 0 then (if inb v1 8 = true then some (gi σ1 151 v1.toNatClampNeg, σ1) else none) else if v2 = 1 then (if inb v1 37 = true then some (gi σ1 153 v1.toNatClampNeg, σ1) else none) else if v2 = 2 then (if inb (8 + v1) 37 = true then some (gi σ1 153 (8 + v1).toNatClampNeg, σ1) else none) else if v2 = 3 then (if inb (16 + v1) 37 = true then some (gi σ1 153 (16 + v1).toNatClampNeg, σ1) else none) else if v2 = 4 then (if inb 32 37 = true then (X9_has N (gi σ1 153 (32 : Int32).toNatClampNeg) v1 σ1).bind fun r21 => ((X9_flag N r21 σ1).bind fun r23 => (some (r23, σ1))) else none) else if v2 = 5 then ((X9_need N 153 v1 σ1).bind fun r26 => (some (r26.1, r26.2))) else if v2 = 6 then (if inb (24 + v1) 37 = true then some (gi σ1 153 (24 + v1).toNatClampNeg, σ1) else none) else ((X9_bundle N 153 v1 σ1).bind fun r30 => (some (r30, σ1)))))))
set_option maxRecDepth 100000 in
set_option maxHeartbeats 4000000 in
theorem X9_thing_ok {E : Ev}  {N : Nat} {v1 : Int32} {v2 : Int32} {σ : Sg} {r : Int32 × Sg} (h : X9_thing N  v1 v2 σ = some r) : Cm E (4) yX9_thing cX9_thing 3 (some .int) [.ref 149, .int v1, .int v2] SH0 SH0 σ r.2 (some (.int r.1)) 0 0 := by
  refine Cm.intro (by decide +kernel) (Nat.le_of_ble_eq_true rfl) (fun _ h => by obtain ⟨_, _, _, _, _, _, h⟩ := h; exact h) (fun Z C hE => ?_)
  show Wm E Z 0 0 SH0 σ 0 [(0, .ref 149), (1, .int v1), (2, .int v2)] []
  unfold X9_thing at h
  refine r_aload_n (pc' := 1) C dX9_thing_0 rfl 0 rfl ?_
  refine r_iconst (pc' := 2) C dX9_thing_1 rfl kc_0 ?_
  obtain ⟨σ1, e2, h⟩ := bs h
  refine r_putI (pc' := 5) (σ1 := σ1) C fpX9_3 sh_149 rfl rfl rfl dX9_thing_2 rfl e2 ?_
  refine r_aload_n (pc' := 6) C dX9_thing_5 rfl 0 rfl ?_
  refine r_iload_n (pc' := 7) C dX9_thing_6 rfl 1 rfl ?_
  obtain ⟨r3, e4, h⟩ := bd h
  refine r_cV1 (pc' := 10) C (X9_isThing_ok  e4) mlX9_123 ceX9_isThing cvX9_isThing sh_149 rfl rfl rfl (Nat.le_of_ble_eq_true rfl) rfl (Nat.le_of_ble_eq_true rfl) dX9_thing_7 rfl (kk := ?_)
  refine r_if_eq (tgt := 25) (pc' := 13) C dX9_thing_10 rfl rfl (fun c5 => ?_) (fun c5 => ?_)
  · rw [if_pos c5] at h
    refine r_aload_n (pc' := 26) C dX9_thing_25 rfl 0 rfl ?_
    obtain ⟨r6, e7, h⟩ := bd h
    refine r_cV1 (pc' := 29) C (X9_refuse_ok  e7) mlX9_292 ceX9_refuse cvX9_refuse sh_149 rfl rfl rfl (Nat.le_of_ble_eq_true rfl) rfl (Nat.le_of_ble_eq_true rfl) dX9_thing_26 rfl (kk := ?_)
    have h := Option.some.inj h
    subst h
    exact r_ret C rfl dX9_thing_29 hE
  · rw [if_neg c5] at h
    refine r_iload_n (pc' := 14) C dX9_thing_13 rfl 2 rfl ?_
    refine r_i2l (pc' := 15) C dX9_thing_14 rfl rfl ?_
    refine r_lconst (pc' := 16) C dX9_thing_15 rfl kl_0 ?_
    refine r_ldc2 (pc' := 19) C cnX9_290 dX9_thing_16 rfl ?_
    obtain ⟨r8, e9, h⟩ := bd h
    refine r_cS1 (pc' := 22) C (X9_in_ok  e9) mlX9_119 ceX9_in csX9_in rfl (Nat.le_of_ble_eq_true rfl) rfl (Nat.le_of_ble_eq_true rfl) dX9_thing_19 rfl (kk := ?_)
    refine r_if_ne (tgt := 30) (pc' := 25) C dX9_thing_22 rfl rfl (fun c10 => ?_) (fun c10 => ?_)
    · rw [if_neg c10] at h
      refine r_iload_n (pc' := 31) C dX9_thing_30 rfl 2 rfl ?_
      by_cases c11 : v2 = 0
      · rw [if_pos c11] at h
        refine r_tabIn (tgt := 72) C dX9_thing_31 (by rw [c11]; decide) (by rw [c11]; decide) (by rw [c11]; rfl) rfl ?_
        refine r_aload_n (pc' := 73) C dX9_thing_72 rfl 0 rfl ?_
        refine r_getR (pc' := 76) C flX9_27 sh_149 rfl dX9_thing_73 rfl ?_
        refine r_iload_n (pc' := 77) C dX9_thing_76 rfl 1 rfl ?_
        obtain ⟨q12, h⟩ := ck h
        refine r_iald (pc' := 78) C sh_151 (vin q12) dX9_thing_77 rfl ?_
        have h := Option.some.inj h
        subst h
        exact r_ret C rfl dX9_thing_78 hE
      rw [if_neg c11] at h
      by_cases c13 : v2 = 1
      · rw [if_pos c13] at h
        refine r_tabIn (tgt := 79) C dX9_thing_31 (by rw [c13]; decide) (by rw [c13]; decide) (by rw [c13]; rfl) rfl ?_
        refine r_aload_n (pc' := 80) C dX9_thing_79 rfl 0 rfl ?_
        refine r_getR (pc' := 83) C flX9_34 sh_149 rfl dX9_thing_80 rfl ?_
        refine r_iload_n (pc' := 84) C dX9_thing_83 rfl 1 rfl ?_
        obtain ⟨q14, h⟩ := ck h
        refine r_iald (pc' := 85) C sh_153 (vin q14) dX9_thing_84 rfl ?_
        have h := Option.some.inj h
        subst h
        exact r_ret C rfl dX9_thing_85 hE
      rw [if_neg c13] at h
      by_cases c15 : v2 = 2
      · rw [if_pos c15] at h
        refine r_tabIn (tgt := 86) C dX9_thing_31 (by rw [c15]; decide) (by rw [c15]; decide) (by rw [c15]; rfl) rfl ?_
        refine r_aload_n (pc' := 87) C dX9_thing_86 rfl 0 rfl ?_
        refine r_getR (pc' := 90) C flX9_34 sh_149 rfl dX9_thing_87 rfl ?_
        refine r_bipush (pc' := 92) C dX9_thing_90 rfl kb_8 ?_
        refine r_iload_n (pc' := 93) C dX9_thing_92 rfl 1 rfl ?_
        refine r_iadd (pc' := 94) C dX9_thing_93 rfl ?_
        obtain ⟨q16, h⟩ := ck h
        refine r_iald (pc' := 95) C sh_153 (vin q16) dX9_thing_94 rfl ?_
        have h := Option.some.inj h
        subst h
        exact r_ret C rfl dX9_thing_95 hE
      rw [if_neg c15] at h
      by_cases c17 : v2 = 3
      · rw [if_pos c17] at h
        refine r_tabIn (tgt := 96) C dX9_thing_31 (by rw [c17]; decide) (by rw [c17]; decide) (by rw [c17]; rfl) rfl ?_
        refine r_aload_n (pc' := 97) C dX9_thing_96 rfl 0 rfl ?_
        refine r_getR (pc' := 100) C flX9_34 sh_149 rfl dX9_thing_97 rfl ?_
        refine r_bipush (pc' := 102) C dX9_thing_100 rfl kb_16 ?_
        refine r_iload_n (pc' := 103) C dX9_thing_102 rfl 1 rfl ?_
        refine r_iadd (pc' := 104) C dX9_thing_103 rfl ?_
        obtain ⟨q18, h⟩ := ck h
        refine r_iald (pc' := 105) C sh_153 (vin q18) dX9_thing_104 rfl ?_
        have h := Option.some.inj h
        subst h
        exact r_ret C rfl dX9_thing_105 hE
      rw [if_neg c17] at h
      by_cases c19 : v2 = 4
      · rw [if_pos c19] at h
        refine r_tabIn (tgt := 106) C dX9_thing_31 (by rw [c19]; decide) (by rw [c19]; decide) (by rw [c19]; rfl) rfl ?_
        refine r_aload_n (pc' := 107) C dX9_thing_106 rfl 0 rfl ?_
        refine r_getR (pc' := 110) C flX9_34 sh_149 rfl dX9_thing_107 rfl ?_
        refine r_bipush (pc' := 112) C dX9_thing_110 rfl kb_32 ?_
        obtain ⟨q20, h⟩ := ck h
        refine r_iald (pc' := 113) C sh_153 (vin q20) dX9_thing_112 rfl ?_
        refine r_iload_n (pc' := 114) C dX9_thing_113 rfl 1 rfl ?_
        obtain ⟨r21, e22, h⟩ := bd h
        refine r_cS1 (pc' := 117) C (X9_has_ok  e22) mlX9_127 ceX9_has csX9_has rfl (Nat.le_of_ble_eq_true rfl) rfl (Nat.le_of_ble_eq_true rfl) dX9_thing_114 rfl (kk := ?_)
        obtain ⟨r23, e24, h⟩ := bd h
        refine r_cS1 (pc' := 120) C (X9_flag_ok  e24) mlX9_159 ceX9_flag csX9_flag rfl (Nat.le_of_ble_eq_true rfl) rfl (Nat.le_of_ble_eq_true rfl) dX9_thing_117 rfl (kk := ?_)
        have h := Option.some.inj h
        subst h
        exact r_ret C rfl dX9_thing_120 hE
      rw [if_neg c19] at h
      by_cases c25 : v2 = 5
      · rw [if_pos c25] at h
        refine r_tabIn (tgt := 121) C dX9_thing_31 (by rw [c25]; decide) (by rw [c25]; decide) (by rw [c25]; rfl) rfl ?_
        refine r_aload_n (pc' := 122) C dX9_thing_121 rfl 0 rfl ?_
        refine r_aload_n (pc' := 123) C dX9_thing_122 rfl 0 rfl ?_
        refine r_getR (pc' := 126) C flX9_34 sh_149 rfl dX9_thing_123 rfl ?_
        refine r_iload_n (pc' := 127) C dX9_thing_126 rfl 1 rfl ?_
        obtain ⟨r26, e27, h⟩ := bd h
        refine r_cV1 (pc' := 130) C (X9_need_ok mac_153 e27) mlX9_270 ceX9_need cvX9_need sh_149 rfl rfl rfl (Nat.le_of_ble_eq_true rfl) rfl (Nat.le_of_ble_eq_true rfl) dX9_thing_127 rfl (kk := ?_)
        have h := Option.some.inj h
        subst h
        exact r_ret C rfl dX9_thing_130 hE
      rw [if_neg c25] at h
      by_cases c28 : v2 = 6
      · rw [if_pos c28] at h
        refine r_tabIn (tgt := 131) C dX9_thing_31 (by rw [c28]; decide) (by rw [c28]; decide) (by rw [c28]; rfl) rfl ?_
        refine r_aload_n (pc' := 132) C dX9_thing_131 rfl 0 rfl ?_
        refine r_getR (pc' := 135) C flX9_34 sh_149 rfl dX9_thing_132 rfl ?_
        refine r_bipush (pc' := 137) C dX9_thing_135 rfl kb_24 ?_
        refine r_iload_n (pc' := 138) C dX9_thing_137 rfl 1 rfl ?_
        refine r_iadd (pc' := 139) C dX9_thing_138 rfl ?_
        obtain ⟨q29, h⟩ := ck h
        refine r_iald (pc' := 140) C sh_153 (vin q29) dX9_thing_139 rfl ?_
        have h := Option.some.inj h
        subst h
        exact r_ret C rfl dX9_thing_140 hE
      rw [if_neg c28] at h
      have o32 : v2.toInt < 0 ∨ 6 < v2.toInt := by
        refine tab_out (fun k h1 h2 => ?_) (by decide) (by decide)
        have hk : k = 0 ∨ k = 1 ∨ k = 2 ∨ k = 3 ∨ k = 4 ∨ k = 5 ∨ k = 6 := by omega
        rcases hk with rfl | rfl | rfl | rfl | rfl | rfl | rfl
        · exact c11
        · exact c13
        · exact c15
        · exact c17
        · exact c19
        · exact c25
        · exact c28
      refine r_tabOut (tgt := 141) C dX9_thing_31 o32 rfl ?_
      refine r_aload_n (pc' := 142) C dX9_thing_141 rfl 0 rfl ?_
      refine r_aload_n (pc' := 143) C dX9_thing_142 rfl 0 rfl ?_
      refine r_getR (pc' := 146) C flX9_34 sh_149 rfl dX9_thing_143 rfl ?_
      refine r_iload_n (pc' := 147) C dX9_thing_146 rfl 1 rfl ?_
      obtain ⟨r30, e31, h⟩ := bd h
      refine r_cV1 (pc' := 150) C (X9_bundle_ok mac_153 e31) mlX9_281 ceX9_bundle cvX9_bundle sh_149 rfl rfl rfl (Nat.le_of_ble_eq_true rfl) rfl (Nat.le_of_ble_eq_true rfl) dX9_thing_147 rfl (kk := ?_)
      have h := Option.some.inj h
      subst h
      exact r_ret C rfl dX9_thing_150 hE
    · rw [if_pos c10] at h
      refine r_aload_n (pc' := 26) C dX9_thing_25 rfl 0 rfl ?_
      obtain ⟨r33, e34, h⟩ := bd h
      refine r_cV1 (pc' := 29) C (X9_refuse_ok  e34) mlX9_292 ceX9_refuse cvX9_refuse sh_149 rfl rfl rfl (Nat.le_of_ble_eq_true rfl) rfl (Nat.le_of_ble_eq_true rfl) dX9_thing_26 rfl (kk := ?_)
      have h := Option.some.inj h
      subst h
      exact r_ret C rfl dX9_thing_29 hE

/-! BorrowedWeightModel.sheet(IIII)I -/
def X9_sheet_j112 (N : Nat)  (kr : Int32 → Int32 → Int32 → Int32 → Int32 → Int32 → Sg → Option (Int32 × Sg)) (v1 : Int32) (v2 : Int32) (v4 : Int32) (v5 : Int32) (v6 : Int32) (v7 : Int32) (s0 : Int32) (s1 : Int32) (σ : Sg) : Option (Int32 × Sg) :=
  if inb s1 8 = true then bnS (wi σ 151 s1.toNatClampNeg s0) fun σ13 => if inb v7 8 = true then kr v1 v2 v4 (v5 + (gi σ13 151 v7.toNatClampNeg)) (v6 + v4) (v7 + 1) σ13 else none else none
set_option maxRecDepth 100000 in
set_option maxHeartbeats 4000000 in
theorem X9_sheet_j112_ok {E : Ev}  {N : Nat} {kr : Int32 → Int32 → Int32 → Int32 → Int32 → Int32 → Sg → Option (Int32 × Sg)}  (hkr : ∀ (v1 : Int32) (v2 : Int32) (v4 : Int32) (v5 : Int32) (v6 : Int32) (v7 : Int32) (σ : Sg) (r : Int32 × Sg), kr v1 v2 v4 v5 v6 v7 σ = some r → Gp E RX9 cX9_sheet (some .int) 9 (1) SH0 r.2 (some (.int r.1)) σ 46 [(0, .ref 149), (1, .int v1), (2, .int v2), (4, .int v4), (5, .int v5), (6, .int v6), (7, .int v7)] []) {v1 : Int32} {v2 : Int32} {v4 : Int32} {v5 : Int32} {v6 : Int32} {v7 : Int32} {s0 : Int32} {s1 : Int32} {σ : Sg} {r : Int32 × Sg} (h : X9_sheet_j112 N  kr v1 v2 v4 v5 v6 v7 s0 s1 σ = some r) : Gp E RX9 cX9_sheet (some .int) 9 (1) SH0 r.2 (some (.int r.1)) σ 112 [(0, .ref 149), (1, .int v1), (2, .int v2), (4, .int v4), (5, .int v5), (6, .int v6), (7, .int v7)] [.int s0, .int s1, .ref 151] := by
  intro Z C hE
  unfold X9_sheet_j112 at h
  obtain ⟨q12, h⟩ := ck h
  obtain ⟨σ13, e14, h⟩ := bs h
  refine r_iast (pc' := 113) (σ1 := σ13) C sh_151 (vin q12) dX9_sheet_112 rfl e14 ?_
  refine r_iload (pc' := 115) C dX9_sheet_113 rfl 4 rfl ?_
  refine r_aload_n (pc' := 116) C dX9_sheet_115 rfl 0 rfl ?_
  refine r_getR (pc' := 119) C flX9_27 sh_149 rfl dX9_sheet_116 rfl ?_
  refine r_iload (pc' := 121) C dX9_sheet_119 rfl 6 rfl ?_
  obtain ⟨q15, h⟩ := ck h
  refine r_iald (pc' := 122) C sh_151 (vin q15) dX9_sheet_121 rfl ?_
  refine r_iadd (pc' := 123) C dX9_sheet_122 rfl ?_
  refine r_istore (pc' := 125) (lv2 := [(5, .int (v5 + (gi σ13 151 v7.toNatClampNeg))), (0, .ref 149), (1, .int v1), (2, .int v2), (4, .int v4), (6, .int v6), (7, .int v7)]) C dX9_sheet_123 rfl (Nat.le_of_ble_eq_true rfl) rfl ?_
  refine r_iload (pc' := 127) C dX9_sheet_125 rfl 5 rfl ?_
  refine r_iload (pc' := 129) C dX9_sheet_127 rfl 4 rfl ?_
  refine r_iadd (pc' := 130) C dX9_sheet_129 rfl ?_
  refine r_istore (pc' := 132) (lv2 := [(6, .int (v6 + v4)), (5, .int (v5 + (gi σ13 151 v7.toNatClampNeg))), (0, .ref 149), (1, .int v1), (2, .int v2), (4, .int v4), (7, .int v7)]) C dX9_sheet_130 rfl (Nat.le_of_ble_eq_true rfl) rfl ?_
  refine r_iinc (pc' := 135) (v := v7 + 1) (lv2 := [(7, .int (v7 + 1)), (6, .int (v6 + v4)), (5, .int (v5 + (gi σ13 151 v7.toNatClampNeg))), (0, .ref 149), (1, .int v1), (2, .int v2), (4, .int v4)]) C dX9_sheet_132 rfl 6 rfl rfl (Nat.le_of_ble_eq_true rfl) rfl ?_
  refine r_goto (tgt := 46) C dX9_sheet_135 rfl ?_
  refine r_sub [3, 4, 5, 6, 2, 1, 0] rfl ?_
  exact hkr _ _ _ _ _ _ _ _ h Z C hE
def X9_sheet_j78 (N : Nat)  (kr : Int32 → Int32 → Int32 → Int32 → Int32 → Int32 → Sg → Option (Int32 × Sg)) (v1 : Int32) (v2 : Int32) (v4 : Int32) (v5 : Int32) (v6 : Int32) (v7 : Int32) (s0 : Int32) (σ : Sg) : Option (Int32 × Sg) :=
  if v1 = 3 then (X9_sheet_j112 N kr v1 v2 v4 v5 v6 v7 1 v7 σ) else (if v7 < v2 then ((J9_min_7cf53 N 9 s0 σ).bind fun r17 => ((J9_max_7cf53 N 1 r17 σ).bind fun r19 => (X9_sheet_j112 N kr v1 v2 v4 v5 v6 v7 r19 v7 σ))) else (X9_sheet_j112 N kr v1 v2 v4 v5 v6 v7 1 v7 σ))
set_option maxRecDepth 100000 in
set_option maxHeartbeats 4000000 in
theorem X9_sheet_j78_ok {E : Ev}  {N : Nat} {kr : Int32 → Int32 → Int32 → Int32 → Int32 → Int32 → Sg → Option (Int32 × Sg)}  (hkr : ∀ (v1 : Int32) (v2 : Int32) (v4 : Int32) (v5 : Int32) (v6 : Int32) (v7 : Int32) (σ : Sg) (r : Int32 × Sg), kr v1 v2 v4 v5 v6 v7 σ = some r → Gp E RX9 cX9_sheet (some .int) 9 (1) SH0 r.2 (some (.int r.1)) σ 46 [(0, .ref 149), (1, .int v1), (2, .int v2), (4, .int v4), (5, .int v5), (6, .int v6), (7, .int v7)] []) {v1 : Int32} {v2 : Int32} {v4 : Int32} {v5 : Int32} {v6 : Int32} {v7 : Int32} {s0 : Int32} {σ : Sg} {r : Int32 × Sg} (h : X9_sheet_j78 N  kr v1 v2 v4 v5 v6 v7 s0 σ = some r) : Gp E RX9 cX9_sheet (some .int) 9 (1) SH0 r.2 (some (.int r.1)) σ 78 [(0, .ref 149), (1, .int v1), (2, .int v2), (4, .int v4), (5, .int v5), (6, .int v6), (7, .int v7)] [.int s0] := by
  intro Z C hE
  unfold X9_sheet_j78 at h
  refine r_istore (pc' := 80) (lv2 := [(8, .int s0), (0, .ref 149), (1, .int v1), (2, .int v2), (4, .int v4), (5, .int v5), (6, .int v6), (7, .int v7)]) C dX9_sheet_78 rfl (Nat.le_of_ble_eq_true rfl) rfl ?_
  refine r_aload_n (pc' := 81) C dX9_sheet_80 rfl 1 rfl ?_
  refine r_getR (pc' := 84) C flX9_27 sh_149 rfl dX9_sheet_81 rfl ?_
  refine r_iload (pc' := 86) C dX9_sheet_84 rfl 7 rfl ?_
  refine r_iload_n (pc' := 87) C dX9_sheet_86 rfl 2 rfl ?_
  refine r_iconst (pc' := 88) C dX9_sheet_87 rfl kc_3 ?_
  refine r_icmp_eq (tgt := 97) (pc' := 91) C dX9_sheet_88 rfl rfl (fun c11 => ?_) (fun c11 => ?_)
  · rw [if_pos c11] at h
    refine r_iconst (pc' := 98) C dX9_sheet_97 rfl kc_1 ?_
    refine r_goto (tgt := 112) C dX9_sheet_98 rfl ?_
    refine r_sub [1, 2, 3, 4, 5, 6, 7] rfl ?_
    exact X9_sheet_j112_ok  hkr h Z C hE
  · rw [if_neg c11] at h
    refine r_iload (pc' := 93) C dX9_sheet_91 rfl 7 rfl ?_
    refine r_iload_n (pc' := 94) C dX9_sheet_93 rfl 3 rfl ?_
    refine r_icmp_lt (tgt := 101) (pc' := 97) C dX9_sheet_94 rfl rfl (fun c16 => ?_) (fun c16 => ?_)
    · rw [if_pos c16] at h
      refine r_iconst (pc' := 102) C dX9_sheet_101 rfl kc_1 ?_
      refine r_bipush (pc' := 104) C dX9_sheet_102 rfl kb_9 ?_
      refine r_iload (pc' := 106) C dX9_sheet_104 rfl 0 rfl ?_
      obtain ⟨r17, e18, h⟩ := bd h
      refine r_cS1 (pc' := 109) C (J9_min_7cf53_ok  e18) mlX9_150 ceJ9_min_7cf53 csJ9_min_7cf53 rfl (Nat.le_of_ble_eq_true rfl) rfl (Nat.le_of_ble_eq_true rfl) dX9_sheet_106 rfl (kk := ?_)
      obtain ⟨r19, e20, h⟩ := bd h
      refine r_cS1 (pc' := 112) C (J9_max_7cf53_ok  e20) mlX9_267 ceJ9_max_7cf53 csJ9_max_7cf53 rfl (Nat.le_of_ble_eq_true rfl) rfl (Nat.le_of_ble_eq_true rfl) dX9_sheet_109 rfl (kk := ?_)
      refine r_sub [1, 2, 3, 4, 5, 6, 7] rfl ?_
      exact X9_sheet_j112_ok  hkr h Z C hE
    · rw [if_neg c16] at h
      refine r_iconst (pc' := 98) C dX9_sheet_97 rfl kc_1 ?_
      refine r_goto (tgt := 112) C dX9_sheet_98 rfl ?_
      refine r_sub [1, 2, 3, 4, 5, 6, 7] rfl ?_
      exact X9_sheet_j112_ok  hkr h Z C hE
def X9_sheet_l46 (N : Nat)  (k138 : Int32 → Int32 → Sg → Option (Int32 × Sg))  : Nat → Int32 → Int32 → Int32 → Int32 → Int32 → Int32 → Sg → Option (Int32 × Sg)
  | 0, _, _, _, _, _, _, _ => none
  | n + 1, v1, v2, v4, v5, v6, v7, σ =>
    if (gi σ 149 3) ≤ v7 then (k138 v1 v5 σ) else (if v1 = 0 then (X9_sheet_j78 N (fun v1 v2 v4 v5 v6 v7 σ => X9_sheet_l46 N k138 n v1 v2 v4 v5 v6 v7 σ) v1 v2 v4 v5 v6 v7 (i2b_ v6) σ) else (if v1 = 1 then (X9_sheet_j78 N (fun v1 v2 v4 v5 v6 v7 σ => X9_sheet_l46 N k138 n v1 v2 v4 v5 v6 v7 σ) v1 v2 v4 v5 v6 v7 (i2s_ v6) σ) else (X9_sheet_j78 N (fun v1 v2 v4 v5 v6 v7 σ => X9_sheet_l46 N k138 n v1 v2 v4 v5 v6 v7 σ) v1 v2 v4 v5 v6 v7 v6 σ)))
set_option maxRecDepth 100000 in
set_option maxHeartbeats 4000000 in
theorem X9_sheet_l46_ok {E : Ev}  {N : Nat} {k138 : Int32 → Int32 → Sg → Option (Int32 × Sg)}  (hk138 : ∀ (v1 : Int32) (v5 : Int32) (σ : Sg) (r : Int32 × Sg), k138 v1 v5 σ = some r → Gp E RX9 cX9_sheet (some .int) 9 (1) SH0 r.2 (some (.int r.1)) σ 138 [(1, .int v1), (5, .int v5)] []) : ∀ (n : Nat) (v1 : Int32) (v2 : Int32) (v4 : Int32) (v5 : Int32) (v6 : Int32) (v7 : Int32) (σ : Sg) (r : Int32 × Sg), X9_sheet_l46 N k138 n v1 v2 v4 v5 v6 v7 σ = some r → Gp E RX9 cX9_sheet (some .int) 9 (1) SH0 r.2 (some (.int r.1)) σ 46 [(0, .ref 149), (1, .int v1), (2, .int v2), (4, .int v4), (5, .int v5), (6, .int v6), (7, .int v7)] [] := by
  intro n
  induction n with
  | zero => intro v1 v2 v4 v5 v6 v7 σ r h; cases h
  | succ n ih =>
    intro v1 v2 v4 v5 v6 v7 σ r h Z C hE
    unfold X9_sheet_l46 at h
    refine r_iload (pc' := 48) C dX9_sheet_46 rfl 6 rfl ?_
    refine r_aload_n (pc' := 49) C dX9_sheet_48 rfl 0 rfl ?_
    refine r_getI (pc' := 52) C flX9_116 sh_149 rfl dX9_sheet_49 rfl ?_
    refine r_icmp_ge (tgt := 138) (pc' := 55) C dX9_sheet_52 rfl rfl (fun c8 => ?_) (fun c8 => ?_)
    · rw [if_pos c8] at h
      refine r_sub [1, 4] rfl ?_
      exact hk138 _ _ _ _ h Z C hE
    · rw [if_neg c8] at h
      refine r_iload_n (pc' := 56) C dX9_sheet_55 rfl 1 rfl ?_
      refine r_if_ne (tgt := 65) (pc' := 59) C dX9_sheet_56 rfl rfl (fun c9 => ?_) (fun c9 => ?_)
      · rw [if_neg c9] at h
        refine r_iload_n (pc' := 66) C dX9_sheet_65 rfl 1 rfl ?_
        refine r_iconst (pc' := 67) C dX9_sheet_66 rfl kc_1 ?_
        refine r_icmp_ne (tgt := 76) (pc' := 70) C dX9_sheet_67 rfl rfl (fun c10 => ?_) (fun c10 => ?_)
        · rw [if_neg c10] at h
          refine r_iload (pc' := 78) C dX9_sheet_76 rfl 5 rfl ?_
          exact X9_sheet_j78_ok  ih h Z C hE
        · rw [if_pos c10] at h
          refine r_iload (pc' := 72) C dX9_sheet_70 rfl 5 rfl ?_
          refine r_i2s (pc' := 73) (v := i2s_ v6) C dX9_sheet_72 rfl rfl ?_
          refine r_goto (tgt := 78) C dX9_sheet_73 rfl ?_
          exact X9_sheet_j78_ok  ih h Z C hE
      · rw [if_pos c9] at h
        refine r_iload (pc' := 61) C dX9_sheet_59 rfl 5 rfl ?_
        refine r_i2b (pc' := 62) (v := i2b_ v6) C dX9_sheet_61 rfl rfl ?_
        refine r_goto (tgt := 78) C dX9_sheet_62 rfl ?_
        exact X9_sheet_j78_ok  ih h Z C hE
def X9_sheet_j138 (N : Nat)   (v1 : Int32) (v5 : Int32) (σ : Sg) : Option (Int32 × Sg) :=
  if v1 = 3 then (some ((-3), σ)) else (some (v5, σ))
set_option maxRecDepth 100000 in
set_option maxHeartbeats 4000000 in
theorem X9_sheet_j138_ok {E : Ev}  {N : Nat}    {v1 : Int32} {v5 : Int32} {σ : Sg} {r : Int32 × Sg} (h : X9_sheet_j138 N   v1 v5 σ = some r) : Gp E RX9 cX9_sheet (some .int) 9 (1) SH0 r.2 (some (.int r.1)) σ 138 [(1, .int v1), (5, .int v5)] [] := by
  intro Z C hE
  unfold X9_sheet_j138 at h
  refine r_iload_n (pc' := 139) C dX9_sheet_138 rfl 0 rfl ?_
  refine r_iconst (pc' := 140) C dX9_sheet_139 rfl kc_3 ?_
  refine r_icmp_ne (tgt := 148) (pc' := 143) C dX9_sheet_140 rfl rfl (fun c21 => ?_) (fun c21 => ?_)
  · rw [if_neg c21] at h
    refine r_iload (pc' := 150) C dX9_sheet_148 rfl 1 rfl ?_
    have h := Option.some.inj h
    subst h
    exact r_ret C rfl dX9_sheet_150 hE
  · rw [if_pos c21] at h
    refine r_bipush (pc' := 145) C dX9_sheet_143 rfl kb_m3 ?_
    refine r_goto (tgt := 150) C dX9_sheet_145 rfl ?_
    have h := Option.some.inj h
    subst h
    exact r_ret C rfl dX9_sheet_150 hE
def X9_sheet_j37 (N : Nat)   (v1 : Int32) (v2 : Int32) (v3 : Int32) (v4 : Int32) (σ : Sg) : Option (Int32 × Sg) :=
  X9_sheet_l46 N (fun v1 v5 σ => X9_sheet_j138 N v1 v5 σ) N v1 v2 v4 0 v3 0 σ
set_option maxRecDepth 100000 in
set_option maxHeartbeats 4000000 in
theorem X9_sheet_j37_ok {E : Ev}  {N : Nat}    {v1 : Int32} {v2 : Int32} {v3 : Int32} {v4 : Int32} {σ : Sg} {r : Int32 × Sg} (h : X9_sheet_j37 N   v1 v2 v3 v4 σ = some r) : Gp E RX9 cX9_sheet (some .int) 9 (1) SH0 r.2 (some (.int r.1)) σ 37 [(0, .ref 149), (1, .int v1), (2, .int v2), (3, .int v3), (4, .int v4)] [] := by
  intro Z C hE
  unfold X9_sheet_j37 at h
  refine r_iconst (pc' := 38) C dX9_sheet_37 rfl kc_0 ?_
  refine r_istore (pc' := 40) (lv2 := [(5, .int 0), (0, .ref 149), (1, .int v1), (2, .int v2), (3, .int v3), (4, .int v4)]) C dX9_sheet_38 rfl (Nat.le_of_ble_eq_true rfl) rfl ?_
  refine r_iload_n (pc' := 41) C dX9_sheet_40 rfl 4 rfl ?_
  refine r_istore (pc' := 43) (lv2 := [(6, .int v3), (5, .int 0), (0, .ref 149), (1, .int v1), (2, .int v2), (3, .int v3), (4, .int v4)]) C dX9_sheet_41 rfl (Nat.le_of_ble_eq_true rfl) rfl ?_
  refine r_iconst (pc' := 44) C dX9_sheet_43 rfl kc_0 ?_
  refine r_istore (pc' := 46) (lv2 := [(7, .int 0), (6, .int v3), (5, .int 0), (0, .ref 149), (1, .int v1), (2, .int v2), (3, .int v3), (4, .int v4)]) C dX9_sheet_44 rfl (Nat.le_of_ble_eq_true rfl) rfl ?_
  refine r_sub [3, 4, 5, 7, 2, 1, 0] rfl ?_
  exact X9_sheet_l46_ok  (fun _ _ _ _ h Z C hE => by exact X9_sheet_j138_ok  h Z C hE) N _ _ _ _ _ _ _ _ h Z C hE
def X9_sheet (N : Nat)  (v1 : Int32) (v2 : Int32) (v3 : Int32) (v4 : Int32) (σ : Sg) : Option (Int32 × Sg) :=
  bnS (wi σ 149 0 0) fun σ1 => (X9_in N v1.toInt64 0 3 σ1).bind fun r3 => (if r3 = 0 then (some ((-1), σ1)) else (if v2 ≤ 8 then (if v1 = 3 then (X9_sheet_j37 N v1 v2 v3 v4 σ1) else (if 0 ≤ v2 then (X9_sheet_j37 N v1 v2 v3 v4 σ1) else (some ((-2), σ1)))) else (some ((-1), σ1))))
set_option maxRecDepth 100000 in
set_option maxHeartbeats 4000000 in
theorem X9_sheet_ok {E : Ev}  {N : Nat} {v1 : Int32} {v2 : Int32} {v3 : Int32} {v4 : Int32} {σ : Sg} {r : Int32 × Sg} (h : X9_sheet N  v1 v2 v3 v4 σ = some r) : Cm E (1) yX9_sheet cX9_sheet 9 (some .int) [.ref 149, .int v1, .int v2, .int v3, .int v4] SH0 SH0 σ r.2 (some (.int r.1)) 0 0 := by
  refine Cm.intro (by decide +kernel) (Nat.le_of_ble_eq_true rfl) (fun _ h => by obtain ⟨_, _, _, _, _, _, h⟩ := h; exact h) (fun Z C hE => ?_)
  show Wm E Z 0 0 SH0 σ 0 [(0, .ref 149), (1, .int v1), (2, .int v2), (3, .int v3), (4, .int v4)] []
  unfold X9_sheet at h
  refine r_aload_n (pc' := 1) C dX9_sheet_0 rfl 0 rfl ?_
  refine r_iconst (pc' := 2) C dX9_sheet_1 rfl kc_0 ?_
  obtain ⟨σ1, e2, h⟩ := bs h
  refine r_putI (pc' := 5) (σ1 := σ1) C fpX9_3 sh_149 rfl rfl rfl dX9_sheet_2 rfl e2 ?_
  refine r_iload_n (pc' := 6) C dX9_sheet_5 rfl 1 rfl ?_
  refine r_i2l (pc' := 7) C dX9_sheet_6 rfl rfl ?_
  refine r_lconst (pc' := 8) C dX9_sheet_7 rfl kl_0 ?_
  refine r_ldc2 (pc' := 11) C cnX9_295 dX9_sheet_8 rfl ?_
  obtain ⟨r3, e4, h⟩ := bd h
  refine r_cS1 (pc' := 14) C (X9_in_ok  e4) mlX9_119 ceX9_in csX9_in rfl (Nat.le_of_ble_eq_true rfl) rfl (Nat.le_of_ble_eq_true rfl) dX9_sheet_11 rfl (kk := ?_)
  refine r_if_eq (tgt := 23) (pc' := 17) C dX9_sheet_14 rfl rfl (fun c5 => ?_) (fun c5 => ?_)
  · rw [if_pos c5] at h
    refine r_iconst (pc' := 24) C dX9_sheet_23 rfl kc_m1 ?_
    have h := Option.some.inj h
    subst h
    exact r_ret C rfl dX9_sheet_24 hE
  · rw [if_neg c5] at h
    refine r_iload_n (pc' := 18) C dX9_sheet_17 rfl 2 rfl ?_
    refine r_bipush (pc' := 20) C dX9_sheet_18 rfl kb_8 ?_
    refine r_icmp_le (tgt := 25) (pc' := 23) C dX9_sheet_20 rfl rfl (fun c6 => ?_) (fun c6 => ?_)
    · rw [if_pos c6] at h
      refine r_iload_n (pc' := 26) C dX9_sheet_25 rfl 1 rfl ?_
      refine r_iconst (pc' := 27) C dX9_sheet_26 rfl kc_3 ?_
      refine r_icmp_eq (tgt := 37) (pc' := 30) C dX9_sheet_27 rfl rfl (fun c7 => ?_) (fun c7 => ?_)
      · rw [if_pos c7] at h
        exact X9_sheet_j37_ok  h Z C hE
      · rw [if_neg c7] at h
        refine r_iload_n (pc' := 31) C dX9_sheet_30 rfl 2 rfl ?_
        refine r_if_ge (tgt := 37) (pc' := 34) C dX9_sheet_31 rfl rfl (fun c22 => ?_) (fun c22 => ?_)
        · rw [if_pos c22] at h
          exact X9_sheet_j37_ok  h Z C hE
        · rw [if_neg c22] at h
          refine r_bipush (pc' := 36) C dX9_sheet_34 rfl kb_m2 ?_
          have h := Option.some.inj h
          subst h
          exact r_ret C rfl dX9_sheet_36 hE
    · rw [if_neg c6] at h
      refine r_iconst (pc' := 24) C dX9_sheet_23 rfl kc_m1 ?_
      have h := Option.some.inj h
      subst h
      exact r_ret C rfl dX9_sheet_24 hE

/-! BorrowedWeightModel.undo()I -/
def X9_undo_l26 (N : Nat)    : Nat → Int32 → Sg → Option (Int32 × Sg)
  | 0, _, _ => none
  | n + 1, v1, σ =>
    if 37 ≤ v1 then (some (gi σ 149 23, σ)) else (if inb ((37 * (gi σ 149 23)) + v1) 592 = true then if inb v1 37 = true then bnS (wi σ 153 v1.toNatClampNeg (gi σ 161 ((37 * (gi σ 149 23)) + v1).toNatClampNeg)) fun σ9 => X9_undo_l26 N n (v1 + 1) σ9 else none else none)
set_option maxRecDepth 100000 in
set_option maxHeartbeats 4000000 in
theorem X9_undo_l26_ok {E : Ev}  {N : Nat}    : ∀ (n : Nat) (v1 : Int32) (σ : Sg) (r : Int32 × Sg), X9_undo_l26 N n v1 σ = some r → Gp E RX9 cX9_undo (some .int) 2 (0) SH0 r.2 (some (.int r.1)) σ 26 [(0, .ref 149), (1, .int v1)] [] := by
  intro n
  induction n with
  | zero => intro v1 σ r h; cases h
  | succ n ih =>
    intro v1 σ r h Z C hE
    unfold X9_undo_l26 at h
    refine r_iload_n (pc' := 27) C dX9_undo_26 rfl 1 rfl ?_
    refine r_bipush (pc' := 29) C dX9_undo_27 rfl kb_37 ?_
    refine r_icmp_ge (tgt := 58) (pc' := 32) C dX9_undo_29 rfl rfl (fun c6 => ?_) (fun c6 => ?_)
    · rw [if_pos c6] at h
      refine r_aload_n (pc' := 59) C dX9_undo_58 rfl 0 rfl ?_
      refine r_getI (pc' := 62) C flX9_196 sh_149 rfl dX9_undo_59 rfl ?_
      have h := Option.some.inj h
      subst h
      exact r_ret C rfl dX9_undo_62 hE
    · rw [if_neg c6] at h
      refine r_aload_n (pc' := 33) C dX9_undo_32 rfl 0 rfl ?_
      refine r_getR (pc' := 36) C flX9_34 sh_149 rfl dX9_undo_33 rfl ?_
      refine r_iload_n (pc' := 37) C dX9_undo_36 rfl 1 rfl ?_
      refine r_aload_n (pc' := 38) C dX9_undo_37 rfl 0 rfl ?_
      refine r_getR (pc' := 41) C flX9_58 sh_149 rfl dX9_undo_38 rfl ?_
      refine r_bipush (pc' := 43) C dX9_undo_41 rfl kb_37 ?_
      refine r_aload_n (pc' := 44) C dX9_undo_43 rfl 0 rfl ?_
      refine r_getI (pc' := 47) C flX9_196 sh_149 rfl dX9_undo_44 rfl ?_
      refine r_imul (pc' := 48) C dX9_undo_47 rfl ?_
      refine r_iload_n (pc' := 49) C dX9_undo_48 rfl 1 rfl ?_
      refine r_iadd (pc' := 50) C dX9_undo_49 rfl ?_
      obtain ⟨q7, h⟩ := ck h
      refine r_iald (pc' := 51) C sh_161 (vin q7) dX9_undo_50 rfl ?_
      obtain ⟨q8, h⟩ := ck h
      obtain ⟨σ9, e10, h⟩ := bs h
      refine r_iast (pc' := 52) (σ1 := σ9) C sh_153 (vin q8) dX9_undo_51 rfl e10 ?_
      refine r_iinc (pc' := 55) (v := v1 + 1) (lv2 := [(1, .int (v1 + 1)), (0, .ref 149)]) C dX9_undo_52 rfl 1 rfl rfl (Nat.le_of_ble_eq_true rfl) rfl ?_
      refine r_goto (tgt := 26) C dX9_undo_55 rfl ?_
      refine r_sub [1, 0] rfl ?_
      exact ih _ _ _ h Z C hE
def X9_undo (N : Nat)   (σ : Sg) : Option (Int32 × Sg) :=
  bnS (wi σ 149 0 0) fun σ1 => if (gi σ1 149 23) = 0 then (some ((-1), σ1)) else (bnS (wi σ1 149 23 ((gi σ1 149 23) - 1)) fun σ4 => X9_undo_l26 N N 0 σ4)
set_option maxRecDepth 100000 in
set_option maxHeartbeats 4000000 in
theorem X9_undo_ok {E : Ev}  {N : Nat}  {σ : Sg} {r : Int32 × Sg} (h : X9_undo N   σ = some r) : Cm E (0) yX9_undo cX9_undo 2 (some .int) [.ref 149] SH0 SH0 σ r.2 (some (.int r.1)) 0 0 := by
  refine Cm.intro (by decide +kernel) (Nat.le_of_ble_eq_true rfl) (fun _ h => by obtain ⟨_, _, _, _, _, _, h⟩ := h; exact h) (fun Z C hE => ?_)
  show Wm E Z 0 0 SH0 σ 0 [(0, .ref 149)] []
  unfold X9_undo at h
  refine r_aload_n (pc' := 1) C dX9_undo_0 rfl 0 rfl ?_
  refine r_iconst (pc' := 2) C dX9_undo_1 rfl kc_0 ?_
  obtain ⟨σ1, e2, h⟩ := bs h
  refine r_putI (pc' := 5) (σ1 := σ1) C fpX9_3 sh_149 rfl rfl rfl dX9_undo_2 rfl e2 ?_
  refine r_aload_n (pc' := 6) C dX9_undo_5 rfl 0 rfl ?_
  refine r_getI (pc' := 9) C flX9_196 sh_149 rfl dX9_undo_6 rfl ?_
  refine r_if_ne (tgt := 14) (pc' := 12) C dX9_undo_9 rfl rfl (fun c3 => ?_) (fun c3 => ?_)
  · rw [if_neg c3] at h
    refine r_aload_n (pc' := 15) C dX9_undo_14 rfl 0 rfl ?_
    refine r_dup (pc' := 16) C dX9_undo_15 rfl rfl ?_
    refine r_getI (pc' := 19) C flX9_196 sh_149 rfl dX9_undo_16 rfl ?_
    refine r_iconst (pc' := 20) C dX9_undo_19 rfl kc_1 ?_
    refine r_isub (pc' := 21) C dX9_undo_20 rfl ?_
    obtain ⟨σ4, e5, h⟩ := bs h
    refine r_putI (pc' := 24) (σ1 := σ4) C fpX9_196 sh_149 rfl rfl rfl dX9_undo_21 rfl e5 ?_
    refine r_iconst (pc' := 25) C dX9_undo_24 rfl kc_0 ?_
    refine r_istore_n (pc' := 26) (lv2 := [(1, .int 0), (0, .ref 149)]) C dX9_undo_25 rfl rfl (Nat.le_of_ble_eq_true rfl) rfl ?_
    refine r_sub [1, 0] rfl ?_
    exact X9_undo_l26_ok  N _ _ _ h Z C hE
  · rw [if_pos c3] at h
    refine r_iconst (pc' := 13) C dX9_undo_12 rfl kc_m1 ?_
    have h := Option.some.inj h
    subst h
    exact r_ret C rfl dX9_undo_13 hE

/-! BorrowedWeightModel.sumOf([III)I -/
def X9_sumOf_l6 (N : Nat) (k1 : Nat)  (σ : Sg) : Nat → Int32 → Int32 → Int32 → Int32 → Option (Int32)
  | 0, _, _, _, _ => none
  | n + 1, v2, v3, v4, v5 =>
    if (gi σ 149 3) ≤ v5 then (some v4) else ((X9_has N v3 v5 σ).bind fun r2 => (if r2 = 0 then (X9_sumOf_l6 N k1 σ n v2 v3 (v4 + 0) (v5 + 1)) else (if inb (v2 + v5) 37 = true then X9_sumOf_l6 N k1 σ n v2 v3 (v4 + (gi σ k1 (v2 + v5).toNatClampNeg)) (v5 + 1) else none)))
set_option maxRecDepth 100000 in
set_option maxHeartbeats 4000000 in
theorem X9_sumOf_l6_ok {E : Ev} {k1 : Nat} (hk1 : MaAt SH0 k1) {N : Nat}  {σ : Sg}  : ∀ (n : Nat) (v2 : Int32) (v3 : Int32) (v4 : Int32) (v5 : Int32) (r : Int32), X9_sumOf_l6 N k1 σ n v2 v3 v4 v5 = some r → Gp E RX9 cX9_sumOf (some .int) 6 (1) SH0 σ (some (.int r)) σ 6 [(0, .ref 149), (1, .ref k1), (2, .int v2), (3, .int v3), (4, .int v4), (5, .int v5)] [] := by
  intro n
  induction n with
  | zero => intro v2 v3 v4 v5 r h; cases h
  | succ n ih =>
    intro v2 v3 v4 v5 r h Z C hE
    unfold X9_sumOf_l6 at h
    refine r_iload (pc' := 8) C dX9_sumOf_6 rfl 5 rfl ?_
    refine r_aload_n (pc' := 9) C dX9_sumOf_8 rfl 0 rfl ?_
    refine r_getI (pc' := 12) C flX9_116 sh_149 rfl dX9_sumOf_9 rfl ?_
    refine r_icmp_ge (tgt := 45) (pc' := 15) C dX9_sumOf_12 rfl rfl (fun c1 => ?_) (fun c1 => ?_)
    · rw [if_pos c1] at h
      refine r_iload (pc' := 47) C dX9_sumOf_45 rfl 4 rfl ?_
      have h := Option.some.inj h
      subst h
      exact r_ret C rfl dX9_sumOf_47 hE
    · rw [if_neg c1] at h
      refine r_iload (pc' := 17) C dX9_sumOf_15 rfl 4 rfl ?_
      refine r_iload_n (pc' := 18) C dX9_sumOf_17 rfl 3 rfl ?_
      refine r_iload (pc' := 20) C dX9_sumOf_18 rfl 5 rfl ?_
      obtain ⟨r2, e3, h⟩ := bd h
      refine r_cS1 (pc' := 23) C (X9_has_ok  e3) mlX9_127 ceX9_has csX9_has rfl (Nat.le_of_ble_eq_true rfl) rfl (Nat.le_of_ble_eq_true rfl) dX9_sumOf_20 rfl (kk := ?_)
      refine r_if_eq (tgt := 35) (pc' := 26) C dX9_sumOf_23 rfl rfl (fun c4 => ?_) (fun c4 => ?_)
      · rw [if_pos c4] at h
        refine r_iconst (pc' := 36) C dX9_sumOf_35 rfl kc_0 ?_
        refine r_iadd (pc' := 37) C dX9_sumOf_36 rfl ?_
        refine r_istore (pc' := 39) (lv2 := [(4, .int (v4 + 0)), (0, .ref 149), (1, .ref k1), (2, .int v2), (3, .int v3), (5, .int v5)]) C dX9_sumOf_37 rfl (Nat.le_of_ble_eq_true rfl) rfl ?_
        refine r_iinc (pc' := 42) (v := v5 + 1) (lv2 := [(5, .int (v5 + 1)), (4, .int (v4 + 0)), (0, .ref 149), (1, .ref k1), (2, .int v2), (3, .int v3)]) C dX9_sumOf_39 rfl 5 rfl rfl (Nat.le_of_ble_eq_true rfl) rfl ?_
        refine r_goto (tgt := 6) C dX9_sumOf_42 rfl ?_
        refine r_sub [2, 3, 4, 5, 1, 0] rfl ?_
        exact ih _ _ _ _ _ h Z C hE
      · rw [if_neg c4] at h
        refine r_aload_n (pc' := 27) C dX9_sumOf_26 rfl 1 rfl ?_
        refine r_iload_n (pc' := 28) C dX9_sumOf_27 rfl 2 rfl ?_
        refine r_iload (pc' := 30) C dX9_sumOf_28 rfl 5 rfl ?_
        refine r_iadd (pc' := 31) C dX9_sumOf_30 rfl ?_
        obtain ⟨q5, h⟩ := ck h
        refine r_iald (pc' := 32) C hk1 (vin q5) dX9_sumOf_31 rfl ?_
        refine r_goto (tgt := 36) C dX9_sumOf_32 rfl ?_
        refine r_iadd (pc' := 37) C dX9_sumOf_36 rfl ?_
        refine r_istore (pc' := 39) (lv2 := [(4, .int (v4 + (gi σ k1 (v2 + v5).toNatClampNeg))), (0, .ref 149), (1, .ref k1), (2, .int v2), (3, .int v3), (5, .int v5)]) C dX9_sumOf_37 rfl (Nat.le_of_ble_eq_true rfl) rfl ?_
        refine r_iinc (pc' := 42) (v := v5 + 1) (lv2 := [(5, .int (v5 + 1)), (4, .int (v4 + (gi σ k1 (v2 + v5).toNatClampNeg))), (0, .ref 149), (1, .ref k1), (2, .int v2), (3, .int v3)]) C dX9_sumOf_39 rfl 5 rfl rfl (Nat.le_of_ble_eq_true rfl) rfl ?_
        refine r_goto (tgt := 6) C dX9_sumOf_42 rfl ?_
        refine r_sub [2, 3, 4, 5, 1, 0] rfl ?_
        exact ih _ _ _ _ _ h Z C hE
def X9_sumOf (N : Nat) (k1 : Nat) (v2 : Int32) (v3 : Int32) (σ : Sg) : Option (Int32) :=
  X9_sumOf_l6 N k1 σ N v2 v3 0 0
set_option maxRecDepth 100000 in
set_option maxHeartbeats 4000000 in
theorem X9_sumOf_ok {E : Ev} {k1 : Nat} (hk1 : MaAt SH0 k1) {N : Nat} {v2 : Int32} {v3 : Int32} {σ : Sg} {r : Int32} (h : X9_sumOf N k1 v2 v3 σ = some r) : Cm E (1) yX9_sumOf cX9_sumOf 6 (some .int) [.ref 149, .ref k1, .int v2, .int v3] SH0 SH0 σ σ (some (.int r)) 0 0 := by
  refine Cm.intro (by decide +kernel) (Nat.le_of_ble_eq_true rfl) (fun _ h => by obtain ⟨_, _, _, _, _, _, h⟩ := h; exact h) (fun Z C hE => ?_)
  show Wm E Z 0 0 SH0 σ 0 [(0, .ref 149), (1, .ref k1), (2, .int v2), (3, .int v3)] []
  unfold X9_sumOf at h
  refine r_iconst (pc' := 1) C dX9_sumOf_0 rfl kc_0 ?_
  refine r_istore (pc' := 3) (lv2 := [(4, .int 0), (0, .ref 149), (1, .ref k1), (2, .int v2), (3, .int v3)]) C dX9_sumOf_1 rfl (Nat.le_of_ble_eq_true rfl) rfl ?_
  refine r_iconst (pc' := 4) C dX9_sumOf_3 rfl kc_0 ?_
  refine r_istore (pc' := 6) (lv2 := [(5, .int 0), (4, .int 0), (0, .ref 149), (1, .ref k1), (2, .int v2), (3, .int v3)]) C dX9_sumOf_4 rfl (Nat.le_of_ble_eq_true rfl) rfl ?_
  refine r_sub [2, 3, 4, 5, 1, 0] rfl ?_
  exact X9_sumOf_l6_ok hk1 N _ _ _ _ _ h Z C hE
