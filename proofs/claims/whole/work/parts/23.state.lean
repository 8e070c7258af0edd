theorem kb_30 : (Int8.ofInt (30)).toInt32 = 30 := by decide
theorem aw_int : Cond.arrayClass .int ∈ lw_good := wg 236 (by decide +kernel) (by decide +kernel)
theorem aw_char : Cond.arrayClass .char ∈ lw_good := wg 130 (by decide +kernel) (by decide +kernel)
theorem aw_long : Cond.arrayClass .long ∈ lw_good := wg 146 (by decide +kernel) (by decide +kernel)
theorem aw_boolean : Cond.arrayClass .boolean ∈ lw_good := wg 437 (by decide +kernel) (by decide +kernel)
theorem ow_i : Cond.instanceMethod Lib.objectInit ∈ lw_good := wg 112 (by decide +kernel) (by decide +kernel)
theorem ow_c : Cond.code Lib.objectInit ⟨#[0xb1]⟩ 1 none ∈ lw_good := wg 113 (by decide +kernel) (by decide +kernel)
theorem ceX0_init : Ce yX0_init cX0_init 1 none 0 := ⟨wg 89 (by decide +kernel) (by decide +kernel), wg 151 (by decide +kernel) (by decide +kernel), by decide +kernel, by decide⟩
theorem ciX0_init : Cond.instanceMethod yX0_init ∈ lw_good := wg 150 (by decide +kernel) (by decide +kernel)
theorem ceX1_init : Ce yX1_init cX1_init 2 none 0 := ⟨wg 93 (by decide +kernel) (by decide +kernel), wg 332 (by decide +kernel) (by decide +kernel), by decide +kernel, by decide⟩
theorem ciX1_init : Cond.instanceMethod yX1_init ∈ lw_good := wg 331 (by decide +kernel) (by decide +kernel)
theorem ceX2_init : Ce yX2_init cX2_init 1 none 0 := ⟨wg 88 (by decide +kernel) (by decide +kernel), wg 135 (by decide +kernel) (by decide +kernel), by decide +kernel, by decide⟩
theorem ciX2_init : Cond.instanceMethod yX2_init ∈ lw_good := wg 134 (by decide +kernel) (by decide +kernel)
theorem ceX3_init : Ce yX3_init cX3_init 1 none 0 := ⟨wg 90 (by decide +kernel) (by decide +kernel), wg 157 (by decide +kernel) (by decide +kernel), by decide +kernel, by decide⟩
theorem ciX3_init : Cond.instanceMethod yX3_init ∈ lw_good := wg 156 (by decide +kernel) (by decide +kernel)
theorem ceX4_init : Ce yX4_init cX4_init 2 none 0 := ⟨wg 94 (by decide +kernel) (by decide +kernel), wg 352 (by decide +kernel) (by decide +kernel), by decide +kernel, by decide⟩
theorem ciX4_init : Cond.instanceMethod yX4_init ∈ lw_good := wg 351 (by decide +kernel) (by decide +kernel)
theorem ceX5_init : Ce yX5_init cX5_init 1 none 0 := ⟨wg 92 (by decide +kernel) (by decide +kernel), wg 280 (by decide +kernel) (by decide +kernel), by decide +kernel, by decide⟩
theorem ciX5_init : Cond.instanceMethod yX5_init ∈ lw_good := wg 279 (by decide +kernel) (by decide +kernel)
theorem ceX6_init : Ce yX6_init cX6_init 1 none 0 := ⟨wg 87 (by decide +kernel) (by decide +kernel), wg 118 (by decide +kernel) (by decide +kernel), by decide +kernel, by decide⟩
theorem ciX6_init : Cond.instanceMethod yX6_init ∈ lw_good := wg 117 (by decide +kernel) (by decide +kernel)
theorem ceX7_init : Ce yX7_init cX7_init 1 none 0 := ⟨wg 95 (by decide +kernel) (by decide +kernel), wg 367 (by decide +kernel) (by decide +kernel), by decide +kernel, by decide⟩
theorem ciX7_init : Cond.instanceMethod yX7_init ∈ lw_good := wg 366 (by decide +kernel) (by decide +kernel)
theorem ceX8_init : Ce yX8_init cX8_init 1 none 0 := ⟨wg 86 (by decide +kernel) (by decide +kernel), wg 110 (by decide +kernel) (by decide +kernel), by decide +kernel, by decide⟩
theorem ciX8_init : Cond.instanceMethod yX8_init ∈ lw_good := wg 109 (by decide +kernel) (by decide +kernel)
theorem ceX9_init : Ce yX9_init cX9_init 1 none 0 := ⟨wg 96 (by decide +kernel) (by decide +kernel), wg 1089 (by decide +kernel) (by decide +kernel), by decide +kernel, by decide⟩
theorem ciX9_init : Cond.instanceMethod yX9_init ∈ lw_good := wg 1088 (by decide +kernel) (by decide +kernel)
theorem olX5_3 : Cond.methodLink RX5 3 Lib.objectInit ∈ lw_good := wg 281 (by decide +kernel) (by decide +kernel)
theorem fcX5_9 : Flp RX5 9 5 0 (.array .int) true := ⟨(RX5, TX5, 9), tyX5, rfl, by decide, ci_5, wg 282 (by decide +kernel) (by decide +kernel), rfl, tyX5_ok, rfl, nmX5, rfl⟩
theorem fcX5_15 : Flp RX5 15 5 1 (.array .int) true := ⟨(RX5, TX5, 9), tyX5, rfl, by decide, ci_5, wg 286 (by decide +kernel) (by decide +kernel), rfl, tyX5_ok, rfl, nmX5, rfl⟩
theorem fcX5_18 : Flp RX5 18 5 2 (.array .int) true := ⟨(RX5, TX5, 9), tyX5, rfl, by decide, ci_5, wg 289 (by decide +kernel) (by decide +kernel), rfl, tyX5_ok, rfl, nmX5, rfl⟩
theorem fcX5_21 : Flp RX5 21 5 3 (.array .int) true := ⟨(RX5, TX5, 9), tyX5, rfl, by decide, ci_5, wg 292 (by decide +kernel) (by decide +kernel), rfl, tyX5_ok, rfl, nmX5, rfl⟩
theorem fcX5_24 : Flp RX5 24 5 5 .int false := ⟨(RX5, TX5, 9), tyX5, rfl, by decide, ci_5, wg 298 (by decide +kernel) (by decide +kernel), rfl, tyX5_ok, rfl, nmX5, rfl⟩
def stS (S : List Sh) (k : Nat) : List Sh := ((((((((S ++ ([.inr (.inl (.int, 8))] : List Sh)).set k (.inl (5, [some (some (some S.length)), some none, some none, some none, none, none, none, none, none]))) ++ ([.inr (.inl (.int, 8))] : List Sh)).set k (.inl (5, [some (some (some S.length)), some (some (some (S.length + 1))), some none, some none, none, none, none, none, none]))) ++ ([.inr (.inl (.int, 8))] : List Sh)).set k (.inl (5, [some (some (some S.length)), some (some (some (S.length + 1))), some (some (some (S.length + 2))), some none, none, none, none, none, none]))) ++ ([.inr (.inl (.int, 8))] : List Sh)).set k (.inl (5, [some (some (some S.length)), some (some (some (S.length + 1))), some (some (some (S.length + 2))), some (some (some (S.length + 3))), none, none, none, none, none])))
def stG (σ : Sg) (k n : Nat) : Sg := wi (zi (zi (zi (zi σ n) (n + 1)) (n + 2)) (n + 3)) k 5 30
set_option maxRecDepth 100000 in
set_option maxHeartbeats 4000000 in
theorem X5_init_c {E : Ev} {S : List Sh} {σ : Sg} {k : Nat} (hcl : Cl S) (hlen : S.length + 4 < 900) (hk : S[k]? = some (.inl (5, [some none, some none, some none, some none, none, none, none, none, none]))) : Cn E 1 yX5_init cX5_init 1 [.ref k] S (stS S k) σ (stG σ k S.length) 4 32 := by
  refine Cn.intro (by decide +kernel) rfl (Nat.le_of_ble_eq_true rfl) (fun Z C hNm hE => ?_)
  show Wm E Z 0 0 S σ 0 [(0, .ref k)] []
  refine r_aload_n (pc' := 1) C dX5_init_0 rfl 0 rfl ?_
  refine r_objI (pc' := 4) C olX5_3 ow_i ow_c (Nat.le_of_ble_eq_true rfl) dX5_init_1 rfl ?_
  refine r_aload_n (pc' := 5) C dX5_init_4 rfl 0 rfl ?_
  refine r_bipush (pc' := 7) C dX5_init_5 rfl kb_8 ?_
  obtain ⟨S1, eS1⟩ : ∃ z : List Sh, z = (S ++ ([.inr (.inl (.int, 8))] : List Sh)).set k (.inl (5, [some (some (some S.length)), some none, some none, some none, none, none, none, none, none])) := ⟨_, rfl⟩
  refine r_mk (aty := .int) (pc' := 9) (pc2 := 12) (N := 8) (x := .inr (.inl (.int, 8))) (j := 0) (fks := [some none, some none, some none, some none, none, none, none, none, none]) (S' := S1) C hNm aw_int (Or.inl ⟨rfl, cell_int 8⟩) hcl (by decide) (by decide) (by decide) (Nat.le_of_ble_eq_true rfl) (Nat.le_of_ble_eq_true rfl) fcX5_9 ⟨_, rfl, rfl⟩ hk rfl dX5_init_7 rfl dX5_init_9 rfl (by rw [eS1]; rfl) (fun E1 X1 C => ?_)
  have l1 : S1.length = S.length + 1 := by rw [eS1, mk_len]
  have g1 : S1[k]? = some (.inl (5, [some (some (some S.length)), some none, some none, some none, none, none, none, none, none])) := by rw [eS1]; exact mk_get hk
  have q1 : Cl S1 := by rw [eS1]; exact mk_Cl hcl (by omega) clX_arr (by intro z hz; simp only [List.mem_cons, List.not_mem_nil, or_false] at hz; rcases hz with rfl | rfl | rfl | rfl | rfl | rfl | rfl | rfl | rfl <;> first | trivial | (left; omega))
  refine r_aload_n (pc' := 13) C dX5_init_12 rfl 0 rfl ?_
  refine r_bipush (pc' := 15) C dX5_init_13 rfl kb_8 ?_
  obtain ⟨S2, eS2⟩ : ∃ z : List Sh, z = (S1 ++ ([.inr (.inl (.int, 8))] : List Sh)).set k (.inl (5, [some (some (some S.length)), some (some (some (S.length + 1))), some none, some none, none, none, none, none, none])) := ⟨_, rfl⟩
  refine r_mk (aty := .int) (pc' := 17) (pc2 := 20) (N := 8) (x := .inr (.inl (.int, 8))) (j := 1) (fks := [some (some (some S.length)), some none, some none, some none, none, none, none, none, none]) (S' := S2) C hNm aw_int (Or.inl ⟨rfl, cell_int 8⟩) q1 (by decide) (by decide) (by decide) (Nat.le_of_ble_eq_true rfl) (Nat.le_of_ble_eq_true rfl) fcX5_15 ⟨_, rfl, rfl⟩ g1 rfl dX5_init_15 rfl dX5_init_17 rfl (by rw [eS2, l1]; rfl) (fun E2 X2 C => ?_)
  have l2 : S2.length = S.length + 2 := by rw [eS2, mk_len, l1]
  have g2 : S2[k]? = some (.inl (5, [some (some (some S.length)), some (some (some (S.length + 1))), some none, some none, none, none, none, none, none])) := by rw [eS2]; exact mk_get g1
  have q2 : Cl S2 := by rw [eS2]; exact mk_Cl q1 (by rw [l1]; omega) clX_arr (by intro z hz; simp only [List.mem_cons, List.not_mem_nil, or_false] at hz; rcases hz with rfl | rfl | rfl | rfl | rfl | rfl | rfl | rfl | rfl <;> first | trivial | (left; rw [l1]; omega))
  refine r_aload_n (pc' := 21) C dX5_init_20 rfl 0 rfl ?_
  refine r_bipush (pc' := 23) C dX5_init_21 rfl kb_8 ?_
  obtain ⟨S3, eS3⟩ : ∃ z : List Sh, z = (S2 ++ ([.inr (.inl (.int, 8))] : List Sh)).set k (.inl (5, [some (some (some S.length)), some (some (some (S.length + 1))), some (some (some (S.length + 2))), some none, none, none, none, none, none])) := ⟨_, rfl⟩
  refine r_mk (aty := .int) (pc' := 25) (pc2 := 28) (N := 8) (x := .inr (.inl (.int, 8))) (j := 2) (fks := [some (some (some S.length)), some (some (some (S.length + 1))), some none, some none, none, none, none, none, none]) (S' := S3) C hNm aw_int (Or.inl ⟨rfl, cell_int 8⟩) q2 (by decide) (by decide) (by decide) (Nat.le_of_ble_eq_true rfl) (Nat.le_of_ble_eq_true rfl) fcX5_18 ⟨_, rfl, rfl⟩ g2 rfl dX5_init_23 rfl dX5_init_25 rfl (by rw [eS3, l2]; rfl) (fun E3 X3 C => ?_)
  have l3 : S3.length = S.length + 3 := by rw [eS3, mk_len, l2]
  have g3 : S3[k]? = some (.inl (5, [some (some (some S.length)), some (some (some (S.length + 1))), some (some (some (S.length + 2))), some none, none, none, none, none, none])) := by rw [eS3]; exact mk_get g2
  have q3 : Cl S3 := by rw [eS3]; exact mk_Cl q2 (by rw [l2]; omega) clX_arr (by intro z hz; simp only [List.mem_cons, List.not_mem_nil, or_false] at hz; rcases hz with rfl | rfl | rfl | rfl | rfl | rfl | rfl | rfl | rfl <;> first | trivial | (left; rw [l2]; omega))
  refine r_aload_n (pc' := 29) C dX5_init_28 rfl 0 rfl ?_
  refine r_bipush (pc' := 31) C dX5_init_29 rfl kb_8 ?_
  obtain ⟨S4, eS4⟩ : ∃ z : List Sh, z = (S3 ++ ([.inr (.inl (.int, 8))] : List Sh)).set k (.inl (5, [some (some (some S.length)), some (some (some (S.length + 1))), some (some (some (S.length + 2))), some (some (some (S.length + 3))), none, none, none, none, none])) := ⟨_, rfl⟩
  refine r_mk (aty := .int) (pc' := 33) (pc2 := 36) (N := 8) (x := .inr (.inl (.int, 8))) (j := 3) (fks := [some (some (some S.length)), some (some (some (S.length + 1))), some (some (some (S.length + 2))), some none, none, none, none, none, none]) (S' := S4) C hNm aw_int (Or.inl ⟨rfl, cell_int 8⟩) q3 (by decide) (by decide) (by decide) (Nat.le_of_ble_eq_true rfl) (Nat.le_of_ble_eq_true rfl) fcX5_21 ⟨_, rfl, rfl⟩ g3 rfl dX5_init_31 rfl dX5_init_33 rfl (by rw [eS4, l3]; rfl) (fun E4 X4 C => ?_)
  have l4 : S4.length = S.length + 4 := by rw [eS4, mk_len, l3]
  have g4 : S4[k]? = some (.inl (5, [some (some (some S.length)), some (some (some (S.length + 1))), some (some (some (S.length + 2))), some (some (some (S.length + 3))), none, none, none, none, none])) := by rw [eS4]; exact mk_get g3
  have q4 : Cl S4 := by rw [eS4]; exact mk_Cl q3 (by rw [l3]; omega) clX_arr (by intro z hz; simp only [List.mem_cons, List.not_mem_nil, or_false] at hz; rcases hz with rfl | rfl | rfl | rfl | rfl | rfl | rfl | rfl | rfl <;> first | trivial | (left; rw [l3]; omega))
  obtain ⟨σ1, hσ⟩ : ∃ z : Sg, z = stG σ k S.length := ⟨_, rfl⟩
  refine r_aload_n (pc' := 37) C dX5_init_36 rfl 0 rfl ?_
  refine r_bipush (pc' := 39) C dX5_init_37 rfl kb_30 ?_
  refine r_putI (pc' := 42) (σ1 := σ1) C fcX5_24 g4 rfl rfl rfl dX5_init_39 rfl (by rw [hσ, l1, l2, l3]; rfl) ?_
  exact r_vretN C (X1.trans (X2.trans (X3.trans X4 (by omega)) (by omega)) (by omega)) (by rw [hσ, show S4 = stS S k by rw [eS4, eS3, eS2, eS1]; rfl]; exact hE) dX5_init_42
