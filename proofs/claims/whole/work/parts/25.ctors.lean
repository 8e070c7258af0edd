/-! ===== the other constructors, at the shapes at which they are called ===== -/
def clFb (n : Nat) : FK → Bool
  | none => true
  | some none => true
  | some (some none) => false
  | some (some (some t)) => decide (t < n) || decide (1000 ≤ t)
def clXb (n : Nat) : Sh → Bool
  | .inl o => o.2.all (clFb n)
  | .inr (.inl _) => true
  | .inr (.inr (.inl _)) => true
  | .inr (.inr (.inr a)) => a.2.all (fun o => match o with | none => true | some t => decide (t < n) || decide (1000 ≤ t))
theorem clX_of {n : Nat} {x : Sh} (h : clXb n x = true) : clX n x := by
  match x, h with
  | .inl o, h =>
    intro f hf
    have := List.all_eq_true.mp h f hf
    match f, this with
    | none, _ => trivial
    | some none, _ => trivial
    | some (some (some t)), this => show t < n ∨ 1000 ≤ t; simpa [clFb] using this
  | .inr (.inl _), _ => trivial
  | .inr (.inr (.inl _)), _ => trivial
  | .inr (.inr (.inr a)), h =>
    intro o ho t e
    subst e
    simpa using List.all_eq_true.mp h (some t) ho
theorem Cl_of {S : List Sh} (h : (decide (S.length < 900) && S.all (clXb S.length)) = true) : Cl S := by
  rw [Bool.and_eq_true, decide_eq_true_eq] at h
  exact ⟨h.1, fun k x hx => clX_of (List.all_eq_true.mp h.2 x (List.mem_of_getElem? hx))⟩
def clVb (n : Nat) : Value → Bool
  | .ref k => decide (k < n) || decide (1000 ≤ k)
  | _ => true
theorem clV_of {n : Nat} {v : Value} (h : clVb n v = true) : clV n v := by
  cases v with
  | ref k => show k < n ∨ 1000 ≤ k; simpa [clVb] using h
  | _ => trivial
theorem okV_of {n : Nat} {lv : List (Nat × Value)} {st : List Value} (h : (lv.all (fun q => clVb n q.2) && st.all (clVb n)) = true) : okV n lv st := by
  rw [Bool.and_eq_true] at h
  exact ⟨fun q hq => clV_of (List.all_eq_true.mp h.1 q hq), fun v hv => clV_of (List.all_eq_true.mp h.2 v hv)⟩
theorem gk {K : List Sh} {k : Nat} {x : Sh} (h : (K[k]?.map (fun y => decide (y = x))) = some true) : K[k]? = some x := by
  cases hk : K[k]? with
  | none => rw [hk] at h; cases h
  | some y =>
    rw [hk] at h
    have h2 : decide (y = x) = true := Option.some.inj h
    rw [of_decide_eq_true h2]
theorem some_of {α : Type} {x : Option (Int32 × α)} {z : Int32 × α} (h : x.isSome = true) : x = some ((x.getD z).1, (x.getD z).2) := by
  cases x with
  | none => cases h
  | some a => rfl
theorem r_SG {E : Ev} {Z : Zx} {cells slots : Nat} {S S2 : List Sh} {σ σ2 : Sg} {pc : Nat} {lv : List (Nat × Value)} {st : List Value} (h1 : S = S2) (h2 : σ = σ2) (k : Wm E Z cells slots S2 σ2 pc lv st) : Wm E Z cells slots S σ pc lv st := by
  subst h1; subst h2; exact k
theorem kb_111 : (Int8.ofInt (111)).toInt32 = 111 := by decide
theorem kb_13 : (Int8.ofInt (13)).toInt32 = 13 := by decide
theorem ks_189 : (Int16.ofInt (189)).toInt32 = 189 := by decide
theorem ks_441 : (Int16.ofInt (441)).toInt32 = 441 := by decide
theorem ks_592 : (Int16.ofInt (592)).toInt32 = 592 := by decide
theorem olX8_1 : Cond.methodLink RX8 1 Lib.objectInit ∈ lw_good := wg 111 (by decide +kernel) (by decide +kernel)
theorem wcX8_7 : Cond.classLink RX8 7 RX6 ∈ lw_good := wg 114 (by decide +kernel) (by decide +kernel)
theorem wn_6 : Cond.instantiable RX6 2 ∈ lw_good := wg 115 (by decide +kernel) (by decide +kernel)
theorem wt_6 : Cond.initialized RX6 ∈ lw_good := wg 87 (by decide +kernel) (by decide +kernel)
theorem olX6_3 : Cond.methodLink RX6 3 Lib.objectInit ∈ lw_good := wg 119 (by decide +kernel) (by decide +kernel)
theorem fcX6_9 : Flp RX6 9 6 0 (.array .char) true := ⟨(RX6, TX6, 2), tyX6, rfl, by decide, ci_6, wg 120 (by decide +kernel) (by decide +kernel), rfl, tyX6_ok, rfl, nmX6, rfl⟩
theorem liX8_9 : Cond.methodLinkNest RX8 9 yX6_init "BorrowedWeight" ∈ lw_nest := wn 116 (by decide +kernel) rfl
theorem fcX8_10 : Flp RX8 10 8 0 (.object "BorrowedWeight$Text") true := ⟨(RX8, TX8, 15), tyX8, rfl, by decide, ci_8, wg 391 (by decide +kernel) (by decide +kernel), rfl, tyX8_ok, rfl, nmX8, rfl⟩
theorem wcX8_16 : Cond.classLink RX8 16 RX2 ∈ lw_good := wg 131 (by decide +kernel) (by decide +kernel)
theorem wn_2 : Cond.instantiable RX2 2 ∈ lw_good := wg 132 (by decide +kernel) (by decide +kernel)
theorem wt_2 : Cond.initialized RX2 ∈ lw_good := wg 88 (by decide +kernel) (by decide +kernel)
theorem olX2_3 : Cond.methodLink RX2 3 Lib.objectInit ∈ lw_good := wg 136 (by decide +kernel) (by decide +kernel)
theorem fcX2_11 : Flp RX2 11 2 0 (.array .long) true := ⟨(RX2, TX2, 2), tyX2, rfl, by decide, ci_2, wg 137 (by decide +kernel) (by decide +kernel), rfl, tyX2_ok, rfl, nmX2, rfl⟩
theorem liX8_18 : Cond.methodLinkNest RX8 18 yX2_init "BorrowedWeight" ∈ lw_nest := wn 133 (by decide +kernel) rfl
theorem fcX8_19 : Flp RX8 19 8 1 (.object "BorrowedWeight$Row") true := ⟨(RX8, TX8, 15), tyX8, rfl, by decide, ci_8, wg 392 (by decide +kernel) (by decide +kernel), rfl, tyX8_ok, rfl, nmX8, rfl⟩
theorem wcX8_23 : Cond.classLink RX8 23 RX0 ∈ lw_good := wg 147 (by decide +kernel) (by decide +kernel)
theorem wn_0 : Cond.instantiable RX0 10 ∈ lw_good := wg 148 (by decide +kernel) (by decide +kernel)
theorem wt_0 : Cond.initialized RX0 ∈ lw_good := wg 89 (by decide +kernel) (by decide +kernel)
theorem olX0_3 : Cond.methodLink RX0 3 Lib.objectInit ∈ lw_good := wg 152 (by decide +kernel) (by decide +kernel)
theorem fcX0_9 : Flp RX0 9 0 0 (.array .int) true := ⟨(RX0, TX0, 10), tyX0, rfl, by decide, ci_0, wg 237 (by decide +kernel) (by decide +kernel), rfl, tyX0_ok, rfl, nmX0, rfl⟩
theorem wcX0_15 : Cond.classLink RX0 15 RX3 ∈ lw_good := wg 153 (by decide +kernel) (by decide +kernel)
theorem wn_3 : Cond.instantiable RX3 9 ∈ lw_good := wg 154 (by decide +kernel) (by decide +kernel)
theorem wt_3 : Cond.initialized RX3 ∈ lw_good := wg 90 (by decide +kernel) (by decide +kernel)
theorem olX3_5 : Cond.methodLink RX3 5 Lib.objectInit ∈ lw_good := wg 158 (by decide +kernel) (by decide +kernel)
theorem fcX3_11 : Flp RX3 11 3 0 (.array .int) true := ⟨(RX3, TX3, 9), tyX3, rfl, by decide, ci_3, wg 208 (by decide +kernel) (by decide +kernel), rfl, tyX3_ok, rfl, nmX3, rfl⟩
theorem fcX3_15 : Flp RX3 15 3 1 (.array .int) true := ⟨(RX3, TX3, 9), tyX3, rfl, by decide, ci_3, wg 209 (by decide +kernel) (by decide +kernel), rfl, tyX3_ok, rfl, nmX3, rfl⟩
theorem fcX3_18 : Flp RX3 18 3 2 (.array .char) true := ⟨(RX3, TX3, 9), tyX3, rfl, by decide, ci_3, wg 210 (by decide +kernel) (by decide +kernel), rfl, tyX3_ok, rfl, nmX3, rfl⟩
theorem gsX3_22 : Cond.fieldLinkNest RX3 22 (oN 1000).1 (oN 1000).2.1 (oN 1000).2.2 "BorrowedWeight" ∈ lw_nest := wn 159 (by decide +kernel) rfl
theorem liX0_17 : Cond.methodLink RX0 17 yX3_init ∈ lw_good := wg 155 (by decide +kernel) (by decide +kernel)
theorem fcX0_18 : Flp RX0 18 0 2 (.object "BorrowedWeight$Rule") false := ⟨(RX0, TX0, 10), tyX0, rfl, by decide, ci_0, wg 241 (by decide +kernel) (by decide +kernel), rfl, tyX0_ok, rfl, nmX0, rfl⟩
theorem fcX0_22 : Flp RX0 22 0 3 (.object "BorrowedWeight$Rule") false := ⟨(RX0, TX0, 10), tyX0, rfl, by decide, ci_0, wg 244 (by decide +kernel) (by decide +kernel), rfl, tyX0_ok, rfl, nmX0, rfl⟩
theorem fcX0_25 : Flp RX0 25 0 4 (.array .int) true := ⟨(RX0, TX0, 10), tyX0, rfl, by decide, ci_0, wg 246 (by decide +kernel) (by decide +kernel), rfl, tyX0_ok, rfl, nmX0, rfl⟩
theorem fcX0_28 : Flp RX0 28 0 5 (.array .int) true := ⟨(RX0, TX0, 10), tyX0, rfl, by decide, ci_0, wg 248 (by decide +kernel) (by decide +kernel), rfl, tyX0_ok, rfl, nmX0, rfl⟩
theorem fcX0_31 : Flp RX0 31 0 7 (.array .int) true := ⟨(RX0, TX0, 10), tyX0, rfl, by decide, ci_0, wg 252 (by decide +kernel) (by decide +kernel), rfl, tyX0_ok, rfl, nmX0, rfl⟩
theorem fcX0_34 : Flp RX0 34 0 8 .int false := ⟨(RX0, TX0, 10), tyX0, rfl, by decide, ci_0, wg 253 (by decide +kernel) (by decide +kernel), rfl, tyX0_ok, rfl, nmX0, rfl⟩
theorem fcX0_38 : Flp RX0 38 0 9 (.array .int) true := ⟨(RX0, TX0, 10), tyX0, rfl, by decide, ci_0, wg 254 (by decide +kernel) (by decide +kernel), rfl, tyX0_ok, rfl, nmX0, rfl⟩
theorem liX8_25 : Cond.methodLinkNest RX8 25 yX0_init "BorrowedWeight" ∈ lw_nest := wn 149 (by decide +kernel) rfl
theorem fcX8_26 : Flp RX8 26 8 2 (.object "BorrowedWeight$Land") true := ⟨(RX8, TX8, 15), tyX8, rfl, by decide, ci_8, wg 393 (by decide +kernel) (by decide +kernel), rfl, tyX8_ok, rfl, nmX8, rfl⟩
theorem wcX8_30 : Cond.classLink RX8 30 RX5 ∈ lw_good := wg 276 (by decide +kernel) (by decide +kernel)
theorem wn_5 : Cond.instantiable RX5 9 ∈ lw_good := wg 277 (by decide +kernel) (by decide +kernel)
theorem wt_5 : Cond.initialized RX5 ∈ lw_good := wg 92 (by decide +kernel) (by decide +kernel)
theorem liX8_32 : Cond.methodLinkNest RX8 32 yX5_init "BorrowedWeight" ∈ lw_nest := wn 278 (by decide +kernel) rfl
theorem fcX8_33 : Flp RX8 33 8 3 (.object "BorrowedWeight$State") true := ⟨(RX8, TX8, 15), tyX8, rfl, by decide, ci_8, wg 394 (by decide +kernel) (by decide +kernel), rfl, tyX8_ok, rfl, nmX8, rfl⟩
theorem fcX8_37 : Flp RX8 37 8 4 (.object "BorrowedWeight$State") true := ⟨(RX8, TX8, 15), tyX8, rfl, by decide, ci_8, wg 395 (by decide +kernel) (by decide +kernel), rfl, tyX8_ok, rfl, nmX8, rfl⟩
theorem wcX8_40 : Cond.classLink RX8 40 RX1 ∈ lw_good := wg 328 (by decide +kernel) (by decide +kernel)
theorem wn_1 : Cond.instantiable RX1 3 ∈ lw_good := wg 329 (by decide +kernel) (by decide +kernel)
theorem wt_1 : Cond.initialized RX1 ∈ lw_good := wg 93 (by decide +kernel) (by decide +kernel)
theorem olX1_3 : Cond.methodLink RX1 3 Lib.objectInit ∈ lw_good := wg 333 (by decide +kernel) (by decide +kernel)
theorem wcX1_11 : Cond.classLink RX1 11 RX5 ∈ lw_good := wg 334 (by decide +kernel) (by decide +kernel)
theorem fcX1_13 : Flp RX1 13 1 0 (.array (.object "BorrowedWeight$State")) true := ⟨(RX1, TX1, 3), tyX1, rfl, by decide, ci_1, wg 337 (by decide +kernel) (by decide +kernel), rfl, tyX1_ok, rfl, nmX1, rfl⟩
theorem liX1_17 : Cond.methodLinkNest RX1 17 yX5_init "BorrowedWeight" ∈ lw_nest := wn 336 (by decide +kernel) rfl
theorem liX8_42 : Cond.methodLink RX8 42 yX1_init ∈ lw_good := wg 330 (by decide +kernel) (by decide +kernel)
theorem fcX8_43 : Flp RX8 43 8 5 (.object "BorrowedWeight$Past") true := ⟨(RX8, TX8, 15), tyX8, rfl, by decide, ci_8, wg 396 (by decide +kernel) (by decide +kernel), rfl, tyX8_ok, rfl, nmX8, rfl⟩
theorem wcX8_47 : Cond.classLink RX8 47 RX4 ∈ lw_good := wg 348 (by decide +kernel) (by decide +kernel)
theorem wn_4 : Cond.instantiable RX4 2 ∈ lw_good := wg 349 (by decide +kernel) (by decide +kernel)
theorem wt_4 : Cond.initialized RX4 ∈ lw_good := wg 94 (by decide +kernel) (by decide +kernel)
theorem olX4_1 : Cond.methodLink RX4 1 Lib.objectInit ∈ lw_good := wg 353 (by decide +kernel) (by decide +kernel)
theorem wcX4_9 : Cond.classLink RX4 9 RX5 ∈ lw_good := wg 354 (by decide +kernel) (by decide +kernel)
theorem fcX4_11 : Flp RX4 11 4 0 (.array (.object "BorrowedWeight$State")) true := ⟨(RX4, TX4, 2), tyX4, rfl, by decide, ci_4, wg 356 (by decide +kernel) (by decide +kernel), rfl, tyX4_ok, rfl, nmX4, rfl⟩
theorem liX4_15 : Cond.methodLinkNest RX4 15 yX5_init "BorrowedWeight" ∈ lw_nest := wn 355 (by decide +kernel) rfl
theorem liX8_49 : Cond.methodLink RX8 49 yX4_init ∈ lw_good := wg 350 (by decide +kernel) (by decide +kernel)
theorem fcX8_50 : Flp RX8 50 8 6 (.object "BorrowedWeight$Shelf") true := ⟨(RX8, TX8, 15), tyX8, rfl, by decide, ci_8, wg 397 (by decide +kernel) (by decide +kernel), rfl, tyX8_ok, rfl, nmX8, rfl⟩
theorem wcX8_54 : Cond.classLink RX8 54 RX7 ∈ lw_good := wg 363 (by decide +kernel) (by decide +kernel)
theorem wn_7 : Cond.instantiable RX7 6 ∈ lw_good := wg 364 (by decide +kernel) (by decide +kernel)
theorem wt_7 : Cond.initialized RX7 ∈ lw_good := wg 95 (by decide +kernel) (by decide +kernel)
theorem olX7_3 : Cond.methodLink RX7 3 Lib.objectInit ∈ lw_good := wg 368 (by decide +kernel) (by decide +kernel)
theorem fcX7_11 : Flp RX7 11 7 0 (.array .int) true := ⟨(RX7, TX7, 6), tyX7, rfl, by decide, ci_7, wg 371 (by decide +kernel) (by decide +kernel), rfl, tyX7_ok, rfl, nmX7, rfl⟩
theorem fcX7_15 : Flp RX7 15 7 1 (.array .int) true := ⟨(RX7, TX7, 6), tyX7, rfl, by decide, ci_7, wg 372 (by decide +kernel) (by decide +kernel), rfl, tyX7_ok, rfl, nmX7, rfl⟩
theorem fcX7_18 : Flp RX7 18 7 2 (.array .int) true := ⟨(RX7, TX7, 6), tyX7, rfl, by decide, ci_7, wg 373 (by decide +kernel) (by decide +kernel), rfl, tyX7_ok, rfl, nmX7, rfl⟩
theorem wcX7_21 : Cond.classLink RX7 21 "[[I" ∈ lw_good := wg 369 (by decide +kernel) (by decide +kernel)
theorem fcX7_23 : Flp RX7 23 7 4 (.array (.array .int)) true := ⟨(RX7, TX7, 6), tyX7, rfl, by decide, ci_7, wg 376 (by decide +kernel) (by decide +kernel), rfl, tyX7_ok, rfl, nmX7, rfl⟩
theorem liX8_56 : Cond.methodLinkNest RX8 56 yX7_init "BorrowedWeight" ∈ lw_nest := wn 365 (by decide +kernel) rfl
theorem fcX8_57 : Flp RX8 57 8 7 (.object "BorrowedWeight$Watch") true := ⟨(RX8, TX8, 15), tyX8, rfl, by decide, ci_8, wg 398 (by decide +kernel) (by decide +kernel), rfl, tyX8_ok, rfl, nmX8, rfl⟩
theorem fcX8_61 : Flp RX8 61 8 8 (.array .int) true := ⟨(RX8, TX8, 15), tyX8, rfl, by decide, ci_8, wg 399 (by decide +kernel) (by decide +kernel), rfl, tyX8_ok, rfl, nmX8, rfl⟩
theorem fcX8_65 : Flp RX8 65 8 9 (.array .int) true := ⟨(RX8, TX8, 15), tyX8, rfl, by decide, ci_8, wg 400 (by decide +kernel) (by decide +kernel), rfl, tyX8_ok, rfl, nmX8, rfl⟩
theorem fcX8_68 : Flp RX8 68 8 10 (.array .int) true := ⟨(RX8, TX8, 15), tyX8, rfl, by decide, ci_8, wg 401 (by decide +kernel) (by decide +kernel), rfl, tyX8_ok, rfl, nmX8, rfl⟩
theorem fcX8_71 : Flp RX8 71 8 11 (.array .int) true := ⟨(RX8, TX8, 15), tyX8, rfl, by decide, ci_8, wg 402 (by decide +kernel) (by decide +kernel), rfl, tyX8_ok, rfl, nmX8, rfl⟩
theorem fcX8_74 : Flp RX8 74 8 12 (.array .int) true := ⟨(RX8, TX8, 15), tyX8, rfl, by decide, ci_8, wg 403 (by decide +kernel) (by decide +kernel), rfl, tyX8_ok, rfl, nmX8, rfl⟩
theorem fcX8_77 : Flp RX8 77 8 13 (.array .int) true := ⟨(RX8, TX8, 15), tyX8, rfl, by decide, ci_8, wg 404 (by decide +kernel) (by decide +kernel), rfl, tyX8_ok, rfl, nmX8, rfl⟩
theorem fcX8_80 : Flp RX8 80 8 14 (.array .boolean) true := ⟨(RX8, TX8, 15), tyX8, rfl, by decide, ci_8, wg 405 (by decide +kernel) (by decide +kernel), rfl, tyX8_ok, rfl, nmX8, rfl⟩
theorem olX9_18 : Cond.methodLink RX9 18 Lib.objectInit ∈ lw_good := wg 1090 (by decide +kernel) (by decide +kernel)
theorem fcX9_11 : Flp RX9 11 9 2 (.array .long) true := ⟨(RX9, TX9, 48), tyX9, rfl, by decide, ci_9, wg 1093 (by decide +kernel) (by decide +kernel), rfl, tyX9_ok, rfl, nmX9, rfl⟩
theorem fcX9_24 : Flp RX9 24 9 5 .int false := ⟨(RX9, TX9, 48), tyX9, rfl, by decide, ci_9, wg 1096 (by decide +kernel) (by decide +kernel), rfl, tyX9_ok, rfl, nmX9, rfl⟩
theorem fcX9_27 : Flp RX9 27 9 6 (.array .int) true := ⟨(RX9, TX9, 48), tyX9, rfl, by decide, ci_9, wg 1097 (by decide +kernel) (by decide +kernel), rfl, tyX9_ok, rfl, nmX9, rfl⟩
theorem fcX9_31 : Flp RX9 31 9 7 (.array .int) true := ⟨(RX9, TX9, 48), tyX9, rfl, by decide, ci_9, wg 1098 (by decide +kernel) (by decide +kernel), rfl, tyX9_ok, rfl, nmX9, rfl⟩
theorem fcX9_34 : Flp RX9 34 9 8 (.array .int) true := ⟨(RX9, TX9, 48), tyX9, rfl, by decide, ci_9, wg 1099 (by decide +kernel) (by decide +kernel), rfl, tyX9_ok, rfl, nmX9, rfl⟩
theorem fcX9_37 : Flp RX9 37 9 9 (.array .int) true := ⟨(RX9, TX9, 48), tyX9, rfl, by decide, ci_9, wg 1100 (by decide +kernel) (by decide +kernel), rfl, tyX9_ok, rfl, nmX9, rfl⟩
theorem fcX9_40 : Flp RX9 40 9 10 (.array .int) true := ⟨(RX9, TX9, 48), tyX9, rfl, by decide, ci_9, wg 1101 (by decide +kernel) (by decide +kernel), rfl, tyX9_ok, rfl, nmX9, rfl⟩
theorem fcX9_43 : Flp RX9 43 9 15 (.array .int) true := ⟨(RX9, TX9, 48), tyX9, rfl, by decide, ci_9, wg 1106 (by decide +kernel) (by decide +kernel), rfl, tyX9_ok, rfl, nmX9, rfl⟩
theorem fcX9_46 : Flp RX9 46 9 17 (.array .int) true := ⟨(RX9, TX9, 48), tyX9, rfl, by decide, ci_9, wg 1108 (by decide +kernel) (by decide +kernel), rfl, tyX9_ok, rfl, nmX9, rfl⟩
theorem fcX9_49 : Flp RX9 49 9 18 (.array .int) true := ⟨(RX9, TX9, 48), tyX9, rfl, by decide, ci_9, wg 1109 (by decide +kernel) (by decide +kernel), rfl, tyX9_ok, rfl, nmX9, rfl⟩
theorem fcX9_52 : Flp RX9 52 9 21 (.array .int) true := ⟨(RX9, TX9, 48), tyX9, rfl, by decide, ci_9, wg 1112 (by decide +kernel) (by decide +kernel), rfl, tyX9_ok, rfl, nmX9, rfl⟩
theorem fcX9_55 : Flp RX9 55 9 22 (.array .int) true := ⟨(RX9, TX9, 48), tyX9, rfl, by decide, ci_9, wg 1113 (by decide +kernel) (by decide +kernel), rfl, tyX9_ok, rfl, nmX9, rfl⟩
theorem fcX9_58 : Flp RX9 58 9 24 (.array .int) true := ⟨(RX9, TX9, 48), tyX9, rfl, by decide, ci_9, wg 1115 (by decide +kernel) (by decide +kernel), rfl, tyX9_ok, rfl, nmX9, rfl⟩
theorem fcX9_61 : Flp RX9 61 9 27 (.array .int) true := ⟨(RX9, TX9, 48), tyX9, rfl, by decide, ci_9, wg 1118 (by decide +kernel) (by decide +kernel), rfl, tyX9_ok, rfl, nmX9, rfl⟩
theorem fcX9_64 : Flp RX9 64 9 28 (.array .int) true := ⟨(RX9, TX9, 48), tyX9, rfl, by decide, ci_9, wg 1119 (by decide +kernel) (by decide +kernel), rfl, tyX9_ok, rfl, nmX9, rfl⟩
theorem fcX9_67 : Flp RX9 67 9 29 (.array .int) true := ⟨(RX9, TX9, 48), tyX9, rfl, by decide, ci_9, wg 1120 (by decide +kernel) (by decide +kernel), rfl, tyX9_ok, rfl, nmX9, rfl⟩
theorem fcX9_70 : Flp RX9 70 9 31 (.array .int) true := ⟨(RX9, TX9, 48), tyX9, rfl, by decide, ci_9, wg 1122 (by decide +kernel) (by decide +kernel), rfl, tyX9_ok, rfl, nmX9, rfl⟩
theorem fcX9_73 : Flp RX9 73 9 32 (.array .int) true := ⟨(RX9, TX9, 48), tyX9, rfl, by decide, ci_9, wg 1123 (by decide +kernel) (by decide +kernel), rfl, tyX9_ok, rfl, nmX9, rfl⟩
theorem fcX9_76 : Flp RX9 76 9 33 (.array .int) true := ⟨(RX9, TX9, 48), tyX9, rfl, by decide, ci_9, wg 1124 (by decide +kernel) (by decide +kernel), rfl, tyX9_ok, rfl, nmX9, rfl⟩
theorem fcX9_79 : Flp RX9 79 9 34 (.array .int) true := ⟨(RX9, TX9, 48), tyX9, rfl, by decide, ci_9, wg 1125 (by decide +kernel) (by decide +kernel), rfl, tyX9_ok, rfl, nmX9, rfl⟩
theorem fcX9_82 : Flp RX9 82 9 36 (.array .int) true := ⟨(RX9, TX9, 48), tyX9, rfl, by decide, ci_9, wg 1127 (by decide +kernel) (by decide +kernel), rfl, tyX9_ok, rfl, nmX9, rfl⟩
theorem fcX9_85 : Flp RX9 85 9 37 (.array .int) true := ⟨(RX9, TX9, 48), tyX9, rfl, by decide, ci_9, wg 1128 (by decide +kernel) (by decide +kernel), rfl, tyX9_ok, rfl, nmX9, rfl⟩
theorem fcX9_88 : Flp RX9 88 9 38 (.array .int) true := ⟨(RX9, TX9, 48), tyX9, rfl, by decide, ci_9, wg 1129 (by decide +kernel) (by decide +kernel), rfl, tyX9_ok, rfl, nmX9, rfl⟩
theorem fcX9_91 : Flp RX9 91 9 39 (.array .int) true := ⟨(RX9, TX9, 48), tyX9, rfl, by decide, ci_9, wg 1130 (by decide +kernel) (by decide +kernel), rfl, tyX9_ok, rfl, nmX9, rfl⟩
theorem fcX9_94 : Flp RX9 94 9 40 (.array .int) true := ⟨(RX9, TX9, 48), tyX9, rfl, by decide, ci_9, wg 1131 (by decide +kernel) (by decide +kernel), rfl, tyX9_ok, rfl, nmX9, rfl⟩
theorem fcX9_97 : Flp RX9 97 9 41 (.array .int) true := ⟨(RX9, TX9, 48), tyX9, rfl, by decide, ci_9, wg 1132 (by decide +kernel) (by decide +kernel), rfl, tyX9_ok, rfl, nmX9, rfl⟩
theorem fcX9_100 : Flp RX9 100 9 42 (.array .boolean) true := ⟨(RX9, TX9, 48), tyX9, rfl, by decide, ci_9, wg 1133 (by decide +kernel) (by decide +kernel), rfl, tyX9_ok, rfl, nmX9, rfl⟩
theorem fcX9_104 : Flp RX9 104 9 43 (.array .int) true := ⟨(RX9, TX9, 48), tyX9, rfl, by decide, ci_9, wg 1134 (by decide +kernel) (by decide +kernel), rfl, tyX9_ok, rfl, nmX9, rfl⟩
theorem fcX9_107 : Flp RX9 107 9 45 (.array .boolean) true := ⟨(RX9, TX9, 48), tyX9, rfl, by decide, ci_9, wg 1136 (by decide +kernel) (by decide +kernel), rfl, tyX9_ok, rfl, nmX9, rfl⟩
theorem fcX9_110 : Flp RX9 110 9 46 (.array .int) true := ⟨(RX9, TX9, 48), tyX9, rfl, by decide, ci_9, wg 1137 (by decide +kernel) (by decide +kernel), rfl, tyX9_ok, rfl, nmX9, rfl⟩
theorem fcX9_113 : Flp RX9 113 9 47 (.array .int) true := ⟨(RX9, TX9, 48), tyX9, rfl, by decide, ci_9, wg 1138 (by decide +kernel) (by decide +kernel), rfl, tyX9_ok, rfl, nmX9, rfl⟩
theorem mlX3_25 : Cond.methodLink RX3 25 yX3_compile ∈ lw_good := wg 161 (by decide +kernel) (by decide +kernel)
def K0 : List Sh := [.inl (8, [some none, some none, some none, some none, some none, some none, some none, some none, some none, some none, some none, some none, some none, some none, some none])]
theorem cK0 : Cl K0 := Cl_of (by decide +kernel)
def H0 : Sg := (fun _ _ => 0, fun _ _ => 0)
def K1 : List Sh := K0 ++ ([.inl (6, [some none, none])] : List Sh)
theorem cK1 : Cl K1 := Cl_of (by decide +kernel)
def H1 : Sg := zi H0 1
def K2 : List Sh := K1 ++ ([.inr (.inl (.char, 80))] : List Sh)
theorem cK2 : Cl K2 := Cl_of (by decide +kernel)
def H2 : Sg := zi H1 2
def K3 : List Sh := K2.set 1 (.inl (6, [some (some (some 2)), none]))
theorem cK3 : Cl K3 := Cl_of (by decide +kernel)
set_option maxRecDepth 100000 in
set_option maxHeartbeats 4000000 in
theorem X6_init_c1 {E : Ev} : Cn E 1 yX6_init cX6_init 1 [.ref 1] K1 K3 H1 H2 1 80 := by
  refine Cn.intro (by decide +kernel) rfl (Nat.le_of_ble_eq_true rfl) (fun Z C hNm hE => ?_)
  show Wm E Z 0 0 K1 H1 0 [(0, .ref 1)] []
  refine r_aload_n (pc' := 1) C dX6_init_0 rfl 0 rfl ?_
  refine r_objI (pc' := 4) C olX6_3 ow_i ow_c (Nat.le_of_ble_eq_true rfl) dX6_init_1 rfl ?_
  refine r_aload_n (pc' := 5) C dX6_init_4 rfl 0 rfl ?_
  refine r_bipush (pc' := 7) C dX6_init_5 rfl kb_80 ?_
  refine r_newa (pc' := 9) (aty := .char) (N := 80) (x := .inr (.inl (.char, 80))) C aw_char (Or.inl ⟨rfl, cell_char 80⟩) cK1 (okV_of (by decide +kernel)) (by decide) (by decide) (by decide) (by decide) (by decide) dX6_init_7 rfl (fun E1 Y1 C => ?_)
  have X := Y1
  refine r_SG (S2 := K2) (σ2 := H2) rfl rfl ?_
  show Wm _ _ _ _ _ _ _ [(0, .ref 1)] [.ref 2, .ref 1]
  refine r_putR (pc' := 12) (S' := K3) (fks := [some none, none]) C hNm fcX6_9 ⟨_, rfl, rfl⟩ (gk (by decide +kernel)) rfl (fun _ => rfl) (fun _ => rfl) dX6_init_9 rfl rfl ?_
  exact r_vretN C X hE dX6_init_12
def K4 : List Sh := K3.set 0 (.inl (8, [some (some (some 1)), some none, some none, some none, some none, some none, some none, some none, some none, some none, some none, some none, some none, some none, some none]))
theorem cK4 : Cl K4 := Cl_of (by decide +kernel)
def K5 : List Sh := K4 ++ ([.inl (2, [some none, none])] : List Sh)
theorem cK5 : Cl K5 := Cl_of (by decide +kernel)
def H3 : Sg := zi H2 3
def K6 : List Sh := K5 ++ ([.inr (.inr (.inl 10))] : List Sh)
theorem cK6 : Cl K6 := Cl_of (by decide +kernel)
def H4 : Sg := zi H3 4
def K7 : List Sh := K6.set 3 (.inl (2, [some (some (some 4)), none]))
theorem cK7 : Cl K7 := Cl_of (by decide +kernel)
set_option maxRecDepth 100000 in
set_option maxHeartbeats 4000000 in
theorem X2_init_c3 {E : Ev} : Cn E 1 yX2_init cX2_init 1 [.ref 3] K5 K7 H3 H4 1 10 := by
  refine Cn.intro (by decide +kernel) rfl (Nat.le_of_ble_eq_true rfl) (fun Z C hNm hE => ?_)
  show Wm E Z 0 0 K5 H3 0 [(0, .ref 3)] []
  refine r_aload_n (pc' := 1) C dX2_init_0 rfl 0 rfl ?_
  refine r_objI (pc' := 4) C olX2_3 ow_i ow_c (Nat.le_of_ble_eq_true rfl) dX2_init_1 rfl ?_
  refine r_aload_n (pc' := 5) C dX2_init_4 rfl 0 rfl ?_
  refine r_bipush (pc' := 7) C dX2_init_5 rfl kb_10 ?_
  refine r_newa (pc' := 9) (aty := .long) (N := 10) (x := .inr (.inr (.inl 10))) C aw_long (Or.inr ⟨rfl, rfl⟩) cK5 (okV_of (by decide +kernel)) (by decide) (by decide) (by decide) (by decide) (by decide) dX2_init_7 rfl (fun E1 Y1 C => ?_)
  have X := Y1
  refine r_SG (S2 := K6) (σ2 := H4) rfl rfl ?_
  show Wm _ _ _ _ _ _ _ [(0, .ref 3)] [.ref 4, .ref 3]
  refine r_putR (pc' := 12) (S' := K7) (fks := [some none, none]) C hNm fcX2_11 ⟨_, rfl, rfl⟩ (gk (by decide +kernel)) rfl (fun _ => rfl) (fun _ => rfl) dX2_init_9 rfl rfl ?_
  exact r_vretN C X hE dX2_init_12
def K8 : List Sh := K7.set 0 (.inl (8, [some (some (some 1)), some (some (some 3)), some none, some none, some none, some none, some none, some none, some none, some none, some none, some none, some none, some none, some none]))
theorem cK8 : Cl K8 := Cl_of (by decide +kernel)
def K9 : List Sh := K8 ++ ([.inl (0, [some none, none, some none, some none, some none, some none, none, some none, none, some none])] : List Sh)
theorem cK9 : Cl K9 := Cl_of (by decide +kernel)
def H5 : Sg := zi H4 5
def K10 : List Sh := K9 ++ ([.inr (.inl (.int, 8))] : List Sh)
theorem cK10 : Cl K10 := Cl_of (by decide +kernel)
def H6 : Sg := zi H5 6
def K11 : List Sh := K10.set 5 (.inl (0, [some (some (some 6)), none, some none, some none, some none, some none, none, some none, none, some none]))
theorem cK11 : Cl K11 := Cl_of (by decide +kernel)
def K12 : List Sh := K11 ++ ([.inl (3, [some none, some none, some none, none, none, none, none, none, none])] : List Sh)
theorem cK12 : Cl K12 := Cl_of (by decide +kernel)
def H7 : Sg := zi H6 7
def K13 : List Sh := K12 ++ ([.inr (.inl (.int, 40))] : List Sh)
theorem cK13 : Cl K13 := Cl_of (by decide +kernel)
def H8 : Sg := zi H7 8
def K14 : List Sh := K13.set 7 (.inl (3, [some (some (some 8)), some none, some none, none, none, none, none, none, none]))
theorem cK14 : Cl K14 := Cl_of (by decide +kernel)
def K15 : List Sh := K14 ++ ([.inr (.inl (.int, 40))] : List Sh)
theorem cK15 : Cl K15 := Cl_of (by decide +kernel)
def H9 : Sg := zi H8 9
def K16 : List Sh := K15.set 7 (.inl (3, [some (some (some 8)), some (some (some 9)), some none, none, none, none, none, none, none]))
theorem cK16 : Cl K16 := Cl_of (by decide +kernel)
def K17 : List Sh := K16 ++ ([.inr (.inl (.char, 40))] : List Sh)
theorem cK17 : Cl K17 := Cl_of (by decide +kernel)
def H10 : Sg := zi H9 10
def K18 : List Sh := K17.set 7 (.inl (3, [some (some (some 8)), some (some (some 9)), some (some (some 10)), none, none, none, none, none, none]))
theorem cK18 : Cl K18 := Cl_of (by decide +kernel)
def H11 : Sg := ((X3_compileP 5000 7 7 H10).getD (0, H10)).2
def A11 : Int32 := ((X3_compileP 5000 7 7 H10).getD (0, H10)).1
theorem cA11 : X3_compileP 5000 7 7 H10 = some (A11, H11) := some_of (by decide +kernel)
set_option maxRecDepth 100000 in
set_option maxHeartbeats 4000000 in
theorem X3_init_c7 {E : Ev} : Cn E 6 yX3_init cX3_init 1 [.ref 7] K12 K18 H7 H11 3 120 := by
  refine Cn.intro (by decide +kernel) rfl (Nat.le_of_ble_eq_true rfl) (fun Z C hNm hE => ?_)
  show Wm E Z 0 0 K12 H7 0 [(0, .ref 7)] []
  refine r_aload_n (pc' := 1) C dX3_init_0 rfl 0 rfl ?_
  refine r_objI (pc' := 4) C olX3_5 ow_i ow_c (Nat.le_of_ble_eq_true rfl) dX3_init_1 rfl ?_
  refine r_aload_n (pc' := 5) C dX3_init_4 rfl 0 rfl ?_
  refine r_bipush (pc' := 7) C dX3_init_5 rfl kb_40 ?_
  refine r_newa (pc' := 9) (aty := .int) (N := 40) (x := .inr (.inl (.int, 40))) C aw_int (Or.inl ⟨rfl, cell_int 40⟩) cK12 (okV_of (by decide +kernel)) (by decide) (by decide) (by decide) (by decide) (by decide) dX3_init_7 rfl (fun E1 Y1 C => ?_)
  have X := Y1
  refine r_SG (S2 := K13) (σ2 := H8) rfl rfl ?_
  show Wm _ _ _ _ _ _ _ [(0, .ref 7)] [.ref 8, .ref 7]
  refine r_putR (pc' := 12) (S' := K14) (fks := [some none, some none, some none, none, none, none, none, none, none]) C hNm fcX3_11 ⟨_, rfl, rfl⟩ (gk (by decide +kernel)) rfl (fun _ => rfl) (fun _ => rfl) dX3_init_9 rfl rfl ?_
  refine r_aload_n (pc' := 13) C dX3_init_12 rfl 0 rfl ?_
  refine r_bipush (pc' := 15) C dX3_init_13 rfl kb_40 ?_
  refine r_newa (pc' := 17) (aty := .int) (N := 40) (x := .inr (.inl (.int, 40))) C aw_int (Or.inl ⟨rfl, cell_int 40⟩) cK14 (okV_of (by decide +kernel)) (by decide) (by decide) (by decide) (by decide) (by decide) dX3_init_15 rfl (fun E2 Y2 C => ?_)
  have X := X.trans Y2 (by decide +kernel)
  refine r_SG (S2 := K15) (σ2 := H9) rfl rfl ?_
  show Wm _ _ _ _ _ _ _ [(0, .ref 7)] [.ref 9, .ref 7]
  refine r_putR (pc' := 20) (S' := K16) (fks := [some (some (some 8)), some none, some none, none, none, none, none, none, none]) C hNm fcX3_15 ⟨_, rfl, rfl⟩ (gk (by decide +kernel)) rfl (fun _ => rfl) (fun _ => rfl) dX3_init_17 rfl rfl ?_
  refine r_aload_n (pc' := 21) C dX3_init_20 rfl 0 rfl ?_
  refine r_bipush (pc' := 23) C dX3_init_21 rfl kb_40 ?_
  refine r_newa (pc' := 25) (aty := .char) (N := 40) (x := .inr (.inl (.char, 40))) C aw_char (Or.inl ⟨rfl, cell_char 40⟩) cK16 (okV_of (by decide +kernel)) (by decide) (by decide) (by decide) (by decide) (by decide) dX3_init_23 rfl (fun E3 Y3 C => ?_)
  have X := X.trans Y3 (by decide +kernel)
  refine r_SG (S2 := K17) (σ2 := H10) rfl rfl ?_
  show Wm _ _ _ _ _ _ _ [(0, .ref 7)] [.ref 10, .ref 7]
  refine r_putR (pc' := 28) (S' := K18) (fks := [some (some (some 8)), some (some (some 9)), some none, none, none, none, none, none, none]) C hNm fcX3_18 ⟨_, rfl, rfl⟩ (gk (by decide +kernel)) rfl (fun _ => rfl) (fun _ => rfl) dX3_init_25 rfl rfl ?_
  refine r_aload_n (pc' := 29) C dX3_init_28 rfl 0 rfl ?_
  refine r_getsN (pc' := 32) C rfl gsX3_22 dX3_init_29 rfl ?_
  refine r_getsN (pc' := 35) C rfl gsX3_22 dX3_init_32 rfl ?_
  refine r_oldL (pc' := 36) (a := (.char, oC0)) (v := 7) C rfl rfl dX3_init_35 rfl ?_
  refine r_cV1 (pc' := 39) C (X3_compileP_ok (S := K18) (k0 := 7) (N := 5000) (v2 := 7) ⟨gk (by decide +kernel), gk (by decide +kernel), gk (by decide +kernel), gk (by decide +kernel)⟩ cA11) mlX3_25 ceX3_compile cvX3_compile (ci := 3) (fks := [some (some (some 8)), some (some (some 9)), some (some (some 10)), none, none, none, none, none, none]) (gk (by decide +kernel)) rfl rfl rfl (Nat.le_of_ble_eq_true rfl) rfl (Nat.le_of_ble_eq_true rfl) dX3_init_36 rfl (hf := ⟨by decide, by decide⟩) ?_
  refine r_pop (pc' := 40) C dX3_init_39 rfl rfl ?_
  exact r_vretN C X hE dX3_init_40
def K19 : List Sh := K18.set 5 (.inl (0, [some (some (some 6)), none, some (some (some 7)), some none, some none, some none, none, some none, none, some none]))
theorem cK19 : Cl K19 := Cl_of (by decide +kernel)
def K20 : List Sh := K19 ++ ([.inl (3, [some none, some none, some none, none, none, none, none, none, none])] : List Sh)
theorem cK20 : Cl K20 := Cl_of (by decide +kernel)
def H12 : Sg := zi H11 11
def K21 : List Sh := K20 ++ ([.inr (.inl (.int, 40))] : List Sh)
theorem cK21 : Cl K21 := Cl_of (by decide +kernel)
def H13 : Sg := zi H12 12
def K22 : List Sh := K21.set 11 (.inl (3, [some (some (some 12)), some none, some none, none, none, none, none, none, none]))
theorem cK22 : Cl K22 := Cl_of (by decide +kernel)
def K23 : List Sh := K22 ++ ([.inr (.inl (.int, 40))] : List Sh)
theorem cK23 : Cl K23 := Cl_of (by decide +kernel)
def H14 : Sg := zi H13 13
def K24 : List Sh := K23.set 11 (.inl (3, [some (some (some 12)), some (some (some 13)), some none, none, none, none, none, none, none]))
theorem cK24 : Cl K24 := Cl_of (by decide +kernel)
def K25 : List Sh := K24 ++ ([.inr (.inl (.char, 40))] : List Sh)
theorem cK25 : Cl K25 := Cl_of (by decide +kernel)
def H15 : Sg := zi H14 14
def K26 : List Sh := K25.set 11 (.inl (3, [some (some (some 12)), some (some (some 13)), some (some (some 14)), none, none, none, none, none, none]))
theorem cK26 : Cl K26 := Cl_of (by decide +kernel)
def H16 : Sg := ((X3_compileP 5000 11 7 H15).getD (0, H15)).2
def A16 : Int32 := ((X3_compileP 5000 11 7 H15).getD (0, H15)).1
theorem cA16 : X3_compileP 5000 11 7 H15 = some (A16, H16) := some_of (by decide +kernel)
set_option maxRecDepth 100000 in
set_option maxHeartbeats 4000000 in
theorem X3_init_c11 {E : Ev} : Cn E 6 yX3_init cX3_init 1 [.ref 11] K20 K26 H12 H16 3 120 := by
  refine Cn.intro (by decide +kernel) rfl (Nat.le_of_ble_eq_true rfl) (fun Z C hNm hE => ?_)
  show Wm E Z 0 0 K20 H12 0 [(0, .ref 11)] []
  refine r_aload_n (pc' := 1) C dX3_init_0 rfl 0 rfl ?_
  refine r_objI (pc' := 4) C olX3_5 ow_i ow_c (Nat.le_of_ble_eq_true rfl) dX3_init_1 rfl ?_
  refine r_aload_n (pc' := 5) C dX3_init_4 rfl 0 rfl ?_
  refine r_bipush (pc' := 7) C dX3_init_5 rfl kb_40 ?_
  refine r_newa (pc' := 9) (aty := .int) (N := 40) (x := .inr (.inl (.int, 40))) C aw_int (Or.inl ⟨rfl, cell_int 40⟩) cK20 (okV_of (by decide +kernel)) (by decide) (by decide) (by decide) (by decide) (by decide) dX3_init_7 rfl (fun E1 Y1 C => ?_)
  have X := Y1
  refine r_SG (S2 := K21) (σ2 := H13) rfl rfl ?_
  show Wm _ _ _ _ _ _ _ [(0, .ref 11)] [.ref 12, .ref 11]
  refine r_putR (pc' := 12) (S' := K22) (fks := [some none, some none, some none, none, none, none, none, none, none]) C hNm fcX3_11 ⟨_, rfl, rfl⟩ (gk (by decide +kernel)) rfl (fun _ => rfl) (fun _ => rfl) dX3_init_9 rfl rfl ?_
  refine r_aload_n (pc' := 13) C dX3_init_12 rfl 0 rfl ?_
  refine r_bipush (pc' := 15) C dX3_init_13 rfl kb_40 ?_
  refine r_newa (pc' := 17) (aty := .int) (N := 40) (x := .inr (.inl (.int, 40))) C aw_int (Or.inl ⟨rfl, cell_int 40⟩) cK22 (okV_of (by decide +kernel)) (by decide) (by decide) (by decide) (by decide) (by decide) dX3_init_15 rfl (fun E2 Y2 C => ?_)
  have X := X.trans Y2 (by decide +kernel)
  refine r_SG (S2 := K23) (σ2 := H14) rfl rfl ?_
  show Wm _ _ _ _ _ _ _ [(0, .ref 11)] [.ref 13, .ref 11]
  refine r_putR (pc' := 20) (S' := K24) (fks := [some (some (some 12)), some none, some none, none, none, none, none, none, none]) C hNm fcX3_15 ⟨_, rfl, rfl⟩ (gk (by decide +kernel)) rfl (fun _ => rfl) (fun _ => rfl) dX3_init_17 rfl rfl ?_
  refine r_aload_n (pc' := 21) C dX3_init_20 rfl 0 rfl ?_
  refine r_bipush (pc' := 23) C dX3_init_21 rfl kb_40 ?_
  refine r_newa (pc' := 25) (aty := .char) (N := 40) (x := .inr (.inl (.char, 40))) C aw_char (Or.inl ⟨rfl, cell_char 40⟩) cK24 (okV_of (by decide +kernel)) (by decide) (by decide) (by decide) (by decide) (by decide) dX3_init_23 rfl (fun E3 Y3 C => ?_)
  have X := X.trans Y3 (by decide +kernel)
  refine r_SG (S2 := K25) (σ2 := H15) rfl rfl ?_
  show Wm _ _ _ _ _ _ _ [(0, .ref 11)] [.ref 14, .ref 11]
  refine r_putR (pc' := 28) (S' := K26) (fks := [some (some (some 12)), some (some (some 13)), some none, none, none, none, none, none, none]) C hNm fcX3_18 ⟨_, rfl, rfl⟩ (gk (by decide +kernel)) rfl (fun _ => rfl) (fun _ => rfl) dX3_init_25 rfl rfl ?_
  refine r_aload_n (pc' := 29) C dX3_init_28 rfl 0 rfl ?_
  refine r_getsN (pc' := 32) C rfl gsX3_22 dX3_init_29 rfl ?_
  refine r_getsN (pc' := 35) C rfl gsX3_22 dX3_init_32 rfl ?_
  refine r_oldL (pc' := 36) (a := (.char, oC0)) (v := 7) C rfl rfl dX3_init_35 rfl ?_
  refine r_cV1 (pc' := 39) C (X3_compileP_ok (S := K26) (k0 := 11) (N := 5000) (v2 := 7) ⟨gk (by decide +kernel), gk (by decide +kernel), gk (by decide +kernel), gk (by decide +kernel)⟩ cA16) mlX3_25 ceX3_compile cvX3_compile (ci := 3) (fks := [some (some (some 12)), some (some (some 13)), some (some (some 14)), none, none, none, none, none, none]) (gk (by decide +kernel)) rfl rfl rfl (Nat.le_of_ble_eq_true rfl) rfl (Nat.le_of_ble_eq_true rfl) dX3_init_36 rfl (hf := ⟨by decide, by decide⟩) ?_
  refine r_pop (pc' := 40) C dX3_init_39 rfl rfl ?_
  exact r_vretN C X hE dX3_init_40
def K27 : List Sh := K26.set 5 (.inl (0, [some (some (some 6)), none, some (some (some 7)), some (some (some 11)), some none, some none, none, some none, none, some none]))
theorem cK27 : Cl K27 := Cl_of (by decide +kernel)
def K28 : List Sh := K27 ++ ([.inr (.inl (.int, 8))] : List Sh)
theorem cK28 : Cl K28 := Cl_of (by decide +kernel)
def H17 : Sg := zi H16 15
def K29 : List Sh := K28.set 5 (.inl (0, [some (some (some 6)), none, some (some (some 7)), some (some (some 11)), some (some (some 15)), some none, none, some none, none, some none]))
theorem cK29 : Cl K29 := Cl_of (by decide +kernel)
def K30 : List Sh := K29 ++ ([.inr (.inl (.int, 8))] : List Sh)
theorem cK30 : Cl K30 := Cl_of (by decide +kernel)
def H18 : Sg := zi H17 16
def K31 : List Sh := K30.set 5 (.inl (0, [some (some (some 6)), none, some (some (some 7)), some (some (some 11)), some (some (some 15)), some (some (some 16)), none, some none, none, some none]))
theorem cK31 : Cl K31 := Cl_of (by decide +kernel)
def K32 : List Sh := K31 ++ ([.inr (.inl (.int, 20))] : List Sh)
theorem cK32 : Cl K32 := Cl_of (by decide +kernel)
def H19 : Sg := zi H18 17
def K33 : List Sh := K32.set 5 (.inl (0, [some (some (some 6)), none, some (some (some 7)), some (some (some 11)), some (some (some 15)), some (some (some 16)), none, some (some (some 17)), none, some none]))
theorem cK33 : Cl K33 := Cl_of (by decide +kernel)
def H20 : Sg := wi H19 5 8 1
def K34 : List Sh := K33 ++ ([.inr (.inl (.int, 8))] : List Sh)
theorem cK34 : Cl K34 := Cl_of (by decide +kernel)
def H21 : Sg := zi H20 18
def K35 : List Sh := K34.set 5 (.inl (0, [some (some (some 6)), none, some (some (some 7)), some (some (some 11)), some (some (some 15)), some (some (some 16)), none, some (some (some 17)), none, some (some (some 18))]))
theorem cK35 : Cl K35 := Cl_of (by decide +kernel)
set_option maxRecDepth 100000 in
set_option maxHeartbeats 4000000 in
theorem X0_init_c5 {E : Ev} : Cn E 8 yX0_init cX0_init 1 [.ref 5] K9 K35 H5 H21 13 310 := by
  refine Cn.intro (by decide +kernel) rfl (Nat.le_of_ble_eq_true rfl) (fun Z C hNm hE => ?_)
  show Wm E Z 0 0 K9 H5 0 [(0, .ref 5)] []
  refine r_aload_n (pc' := 1) C dX0_init_0 rfl 0 rfl ?_
  refine r_objI (pc' := 4) C olX0_3 ow_i ow_c (Nat.le_of_ble_eq_true rfl) dX0_init_1 rfl ?_
  refine r_aload_n (pc' := 5) C dX0_init_4 rfl 0 rfl ?_
  refine r_bipush (pc' := 7) C dX0_init_5 rfl kb_8 ?_
  refine r_newa (pc' := 9) (aty := .int) (N := 8) (x := .inr (.inl (.int, 8))) C aw_int (Or.inl ⟨rfl, cell_int 8⟩) cK9 (okV_of (by decide +kernel)) (by decide) (by decide) (by decide) (by decide) (by decide) dX0_init_7 rfl (fun E1 Y1 C => ?_)
  have X := Y1
  refine r_SG (S2 := K10) (σ2 := H6) rfl rfl ?_
  show Wm _ _ _ _ _ _ _ [(0, .ref 5)] [.ref 6, .ref 5]
  refine r_putR (pc' := 12) (S' := K11) (fks := [some none, none, some none, some none, some none, some none, none, some none, none, some none]) C hNm fcX0_9 ⟨_, rfl, rfl⟩ (gk (by decide +kernel)) rfl (fun _ => rfl) (fun _ => rfl) dX0_init_9 rfl rfl ?_
  refine r_aload_n (pc' := 13) C dX0_init_12 rfl 0 rfl ?_
  refine r_new (pc' := 16) (ci := 3) (q := (RX3, TX3, 9)) (fks := [some none, some none, some none, none, none, none, none, none, none]) C tyX3 rfl ci_3 tyX3_ok wcX0_15 wn_3 wt_3 (by decide +kernel) (by decide +kernel) cK11 (okV_of (by decide +kernel)) (by decide) (by decide) dX0_init_13 rfl (fun E2 Y2 C => ?_)
  have X := X.trans Y2 (by decide +kernel)
  refine r_SG (S2 := K12) (σ2 := H7) rfl rfl ?_
  show Wm _ _ _ _ _ _ _ [(0, .ref 5)] [.ref 7, .ref 5]
  refine r_dup (pc' := 17) C dX0_init_16 rfl rfl ?_
  refine r_callN (pc' := 20) C X3_init_c7 (Or.inr liX0_17) ceX3_init ciX3_init rfl hNm.az cK12 (okV_of (by decide +kernel)) rfl (Nat.le_of_ble_eq_true rfl) rfl (Nat.le_of_ble_eq_true rfl) ⟨by decide, by decide⟩ dX0_init_17 rfl (fun E3 Y3 C => ?_)
  have X := X.trans Y3 (by decide +kernel)
  refine r_SG (S2 := K18) (σ2 := H11) rfl rfl ?_
  refine r_putR (pc' := 23) (S' := K19) (fks := [some (some (some 6)), none, some none, some none, some none, some none, none, some none, none, some none]) C hNm fcX0_18 ⟨_, rfl, rfl⟩ (gk (by decide +kernel)) rfl (fun _ => rfl) (fun _ => rfl) dX0_init_20 rfl rfl ?_
  refine r_aload_n (pc' := 24) C dX0_init_23 rfl 0 rfl ?_
  refine r_new (pc' := 27) (ci := 3) (q := (RX3, TX3, 9)) (fks := [some none, some none, some none, none, none, none, none, none, none]) C tyX3 rfl ci_3 tyX3_ok wcX0_15 wn_3 wt_3 (by decide +kernel) (by decide +kernel) cK19 (okV_of (by decide +kernel)) (by decide) (by decide) dX0_init_24 rfl (fun E4 Y4 C => ?_)
  have X := X.trans Y4 (by decide +kernel)
  refine r_SG (S2 := K20) (σ2 := H12) rfl rfl ?_
  show Wm _ _ _ _ _ _ _ [(0, .ref 5)] [.ref 11, .ref 5]
  refine r_dup (pc' := 28) C dX0_init_27 rfl rfl ?_
  refine r_callN (pc' := 31) C X3_init_c11 (Or.inr liX0_17) ceX3_init ciX3_init rfl hNm.az cK20 (okV_of (by decide +kernel)) rfl (Nat.le_of_ble_eq_true rfl) rfl (Nat.le_of_ble_eq_true rfl) ⟨by decide, by decide⟩ dX0_init_28 rfl (fun E5 Y5 C => ?_)
  have X := X.trans Y5 (by decide +kernel)
  refine r_SG (S2 := K26) (σ2 := H16) rfl rfl ?_
  refine r_putR (pc' := 34) (S' := K27) (fks := [some (some (some 6)), none, some (some (some 7)), some none, some none, some none, none, some none, none, some none]) C hNm fcX0_22 ⟨_, rfl, rfl⟩ (gk (by decide +kernel)) rfl (fun _ => rfl) (fun _ => rfl) dX0_init_31 rfl rfl ?_
  refine r_aload_n (pc' := 35) C dX0_init_34 rfl 0 rfl ?_
  refine r_bipush (pc' := 37) C dX0_init_35 rfl kb_8 ?_
  refine r_newa (pc' := 39) (aty := .int) (N := 8) (x := .inr (.inl (.int, 8))) C aw_int (Or.inl ⟨rfl, cell_int 8⟩) cK27 (okV_of (by decide +kernel)) (by decide) (by decide) (by decide) (by decide) (by decide) dX0_init_37 rfl (fun E6 Y6 C => ?_)
  have X := X.trans Y6 (by decide +kernel)
  refine r_SG (S2 := K28) (σ2 := H17) rfl rfl ?_
  show Wm _ _ _ _ _ _ _ [(0, .ref 5)] [.ref 15, .ref 5]
  refine r_putR (pc' := 42) (S' := K29) (fks := [some (some (some 6)), none, some (some (some 7)), some (some (some 11)), some none, some none, none, some none, none, some none]) C hNm fcX0_25 ⟨_, rfl, rfl⟩ (gk (by decide +kernel)) rfl (fun _ => rfl) (fun _ => rfl) dX0_init_39 rfl rfl ?_
  refine r_aload_n (pc' := 43) C dX0_init_42 rfl 0 rfl ?_
  refine r_bipush (pc' := 45) C dX0_init_43 rfl kb_8 ?_
  refine r_newa (pc' := 47) (aty := .int) (N := 8) (x := .inr (.inl (.int, 8))) C aw_int (Or.inl ⟨rfl, cell_int 8⟩) cK29 (okV_of (by decide +kernel)) (by decide) (by decide) (by decide) (by decide) (by decide) dX0_init_45 rfl (fun E7 Y7 C => ?_)
  have X := X.trans Y7 (by decide +kernel)
  refine r_SG (S2 := K30) (σ2 := H18) rfl rfl ?_
  show Wm _ _ _ _ _ _ _ [(0, .ref 5)] [.ref 16, .ref 5]
  refine r_putR (pc' := 50) (S' := K31) (fks := [some (some (some 6)), none, some (some (some 7)), some (some (some 11)), some (some (some 15)), some none, none, some none, none, some none]) C hNm fcX0_28 ⟨_, rfl, rfl⟩ (gk (by decide +kernel)) rfl (fun _ => rfl) (fun _ => rfl) dX0_init_47 rfl rfl ?_
  refine r_aload_n (pc' := 51) C dX0_init_50 rfl 0 rfl ?_
  refine r_bipush (pc' := 53) C dX0_init_51 rfl kb_20 ?_
  refine r_newa (pc' := 55) (aty := .int) (N := 20) (x := .inr (.inl (.int, 20))) C aw_int (Or.inl ⟨rfl, cell_int 20⟩) cK31 (okV_of (by decide +kernel)) (by decide) (by decide) (by decide) (by decide) (by decide) dX0_init_53 rfl (fun E8 Y8 C => ?_)
  have X := X.trans Y8 (by decide +kernel)
  refine r_SG (S2 := K32) (σ2 := H19) rfl rfl ?_
  show Wm _ _ _ _ _ _ _ [(0, .ref 5)] [.ref 17, .ref 5]
  refine r_putR (pc' := 58) (S' := K33) (fks := [some (some (some 6)), none, some (some (some 7)), some (some (some 11)), some (some (some 15)), some (some (some 16)), none, some none, none, some none]) C hNm fcX0_31 ⟨_, rfl, rfl⟩ (gk (by decide +kernel)) rfl (fun _ => rfl) (fun _ => rfl) dX0_init_55 rfl rfl ?_
  refine r_aload_n (pc' := 59) C dX0_init_58 rfl 0 rfl ?_
  refine r_iconst (pc' := 60) C dX0_init_59 rfl kc_1 ?_
  refine r_putI (pc' := 63) (σ1 := H20) C fcX0_34 (fks := [some (some (some 6)), none, some (some (some 7)), some (some (some 11)), some (some (some 15)), some (some (some 16)), none, some (some (some 17)), none, some none]) (gk (by decide +kernel)) rfl rfl rfl dX0_init_60 rfl rfl ?_
  refine r_aload_n (pc' := 64) C dX0_init_63 rfl 0 rfl ?_
  refine r_bipush (pc' := 66) C dX0_init_64 rfl kb_8 ?_
  refine r_newa (pc' := 68) (aty := .int) (N := 8) (x := .inr (.inl (.int, 8))) C aw_int (Or.inl ⟨rfl, cell_int 8⟩) cK33 (okV_of (by decide +kernel)) (by decide) (by decide) (by decide) (by decide) (by decide) dX0_init_66 rfl (fun E9 Y9 C => ?_)
  have X := X.trans Y9 (by decide +kernel)
  refine r_SG (S2 := K34) (σ2 := H21) rfl rfl ?_
  show Wm _ _ _ _ _ _ _ [(0, .ref 5)] [.ref 18, .ref 5]
  refine r_putR (pc' := 71) (S' := K35) (fks := [some (some (some 6)), none, some (some (some 7)), some (some (some 11)), some (some (some 15)), some (some (some 16)), none, some (some (some 17)), none, some none]) C hNm fcX0_38 ⟨_, rfl, rfl⟩ (gk (by decide +kernel)) rfl (fun _ => rfl) (fun _ => rfl) dX0_init_68 rfl rfl ?_
  exact r_vretN C X hE dX0_init_71
def K36 : List Sh := K35.set 0 (.inl (8, [some (some (some 1)), some (some (some 3)), some (some (some 5)), some none, some none, some none, some none, some none, some none, some none, some none, some none, some none, some none, some none]))
theorem cK36 : Cl K36 := Cl_of (by decide +kernel)
def K37 : List Sh := K36 ++ ([.inl (5, [some none, some none, some none, some none, none, none, none, none, none])] : List Sh)
theorem cK37 : Cl K37 := Cl_of (by decide +kernel)
def H22 : Sg := zi H21 19
def K38 : List Sh := stS K37 19
theorem cK38 : Cl K38 := Cl_of (by decide +kernel)
def H23 : Sg := stG H22 19 20
def K39 : List Sh := K38.set 0 (.inl (8, [some (some (some 1)), some (some (some 3)), some (some (some 5)), some (some (some 19)), some none, some none, some none, some none, some none, some none, some none, some none, some none, some none, some none]))
theorem cK39 : Cl K39 := Cl_of (by decide +kernel)
def K40 : List Sh := K39 ++ ([.inl (5, [some none, some none, some none, some none, none, none, none, none, none])] : List Sh)
theorem cK40 : Cl K40 := Cl_of (by decide +kernel)
def H24 : Sg := zi H23 24
def K41 : List Sh := stS K40 24
theorem cK41 : Cl K41 := Cl_of (by decide +kernel)
def H25 : Sg := stG H24 24 25
def K42 : List Sh := K41.set 0 (.inl (8, [some (some (some 1)), some (some (some 3)), some (some (some 5)), some (some (some 19)), some (some (some 24)), some none, some none, some none, some none, some none, some none, some none, some none, some none, some none]))
theorem cK42 : Cl K42 := Cl_of (by decide +kernel)
def K43 : List Sh := K42 ++ ([.inl (1, [some none, none, none])] : List Sh)
theorem cK43 : Cl K43 := Cl_of (by decide +kernel)
def H26 : Sg := zi H25 29
def K44 : List Sh := K43 ++ ([.inr (.inr (.inr (.object "BorrowedWeight$State", [none, none, none, none, none, none, none, none, none, none, none, none, none, none, none, none])))] : List Sh)
theorem cK44 : Cl K44 := Cl_of (by decide +kernel)
def H27 : Sg := zi H26 30
def K45 : List Sh := K44.set 29 (.inl (1, [some (some (some 30)), none, none]))
theorem cK45 : Cl K45 := Cl_of (by decide +kernel)
def K46 : List Sh := K45 ++ ([.inl (5, [some none, some none, some none, some none, none, none, none, none, none])] : List Sh)
theorem cK46 : Cl K46 := Cl_of (by decide +kernel)
def H28 : Sg := zi H27 31
def K47 : List Sh := stS K46 31
theorem cK47 : Cl K47 := Cl_of (by decide +kernel)
def H29 : Sg := stG H28 31 32
def K48 : List Sh := K47.set 30 (.inr (.inr (.inr (.object "BorrowedWeight$State", [some 31, none, none, none, none, none, none, none, none, none, none, none, none, none, none, none]))))
theorem cK48 : Cl K48 := Cl_of (by decide +kernel)
def K49 : List Sh := K48 ++ ([.inl (5, [some none, some none, some none, some none, none, none, none, none, none])] : List Sh)
theorem cK49 : Cl K49 := Cl_of (by decide +kernel)
def H30 : Sg := zi H29 36
def K50 : List Sh := stS K49 36
theorem cK50 : Cl K50 := Cl_of (by decide +kernel)
def H31 : Sg := stG H30 36 37
def K51 : List Sh := K50.set 30 (.inr (.inr (.inr (.object "BorrowedWeight$State", [some 31, some 36, none, none, none, none, none, none, none, none, none, none, none, none, none, none]))))
theorem cK51 : Cl K51 := Cl_of (by decide +kernel)
def K52 : List Sh := K51 ++ ([.inl (5, [some none, some none, some none, some none, none, none, none, none, none])] : List Sh)
theorem cK52 : Cl K52 := Cl_of (by decide +kernel)
def H32 : Sg := zi H31 41
def K53 : List Sh := stS K52 41
theorem cK53 : Cl K53 := Cl_of (by decide +kernel)
def H33 : Sg := stG H32 41 42
def K54 : List Sh := K53.set 30 (.inr (.inr (.inr (.object "BorrowedWeight$State", [some 31, some 36, some 41, none, none, none, none, none, none, none, none, none, none, none, none, none]))))
theorem cK54 : Cl K54 := Cl_of (by decide +kernel)
def K55 : List Sh := K54 ++ ([.inl (5, [some none, some none, some none, some none, none, none, none, none, none])] : List Sh)
theorem cK55 : Cl K55 := Cl_of (by decide +kernel)
def H34 : Sg := zi H33 46
def K56 : List Sh := stS K55 46
theorem cK56 : Cl K56 := Cl_of (by decide +kernel)
def H35 : Sg := stG H34 46 47
def K57 : List Sh := K56.set 30 (.inr (.inr (.inr (.object "BorrowedWeight$State", [some 31, some 36, some 41, some 46, none, none, none, none, none, none, none, none, none, none, none, none]))))
theorem cK57 : Cl K57 := Cl_of (by decide +kernel)
def K58 : List Sh := K57 ++ ([.inl (5, [some none, some none, some none, some none, none, none, none, none, none])] : List Sh)
theorem cK58 : Cl K58 := Cl_of (by decide +kernel)
def H36 : Sg := zi H35 51
def K59 : List Sh := stS K58 51
theorem cK59 : Cl K59 := Cl_of (by decide +kernel)
def H37 : Sg := stG H36 51 52
def K60 : List Sh := K59.set 30 (.inr (.inr (.inr (.object "BorrowedWeight$State", [some 31, some 36, some 41, some 46, some 51, none, none, none, none, none, none, none, none, none, none, none]))))
theorem cK60 : Cl K60 := Cl_of (by decide +kernel)
def K61 : List Sh := K60 ++ ([.inl (5, [some none, some none, some none, some none, none, none, none, none, none])] : List Sh)
theorem cK61 : Cl K61 := Cl_of (by decide +kernel)
def H38 : Sg := zi H37 56
def K62 : List Sh := stS K61 56
theorem cK62 : Cl K62 := Cl_of (by decide +kernel)
def H39 : Sg := stG H38 56 57
def K63 : List Sh := K62.set 30 (.inr (.inr (.inr (.object "BorrowedWeight$State", [some 31, some 36, some 41, some 46, some 51, some 56, none, none, none, none, none, none, none, none, none, none]))))
theorem cK63 : Cl K63 := Cl_of (by decide +kernel)
def K64 : List Sh := K63 ++ ([.inl (5, [some none, some none, some none, some none, none, none, none, none, none])] : List Sh)
theorem cK64 : Cl K64 := Cl_of (by decide +kernel)
def H40 : Sg := zi H39 61
def K65 : List Sh := stS K64 61
theorem cK65 : Cl K65 := Cl_of (by decide +kernel)
def H41 : Sg := stG H40 61 62
def K66 : List Sh := K65.set 30 (.inr (.inr (.inr (.object "BorrowedWeight$State", [some 31, some 36, some 41, some 46, some 51, some 56, some 61, none, none, none, none, none, none, none, none, none]))))
theorem cK66 : Cl K66 := Cl_of (by decide +kernel)
def K67 : List Sh := K66 ++ ([.inl (5, [some none, some none, some none, some none, none, none, none, none, none])] : List Sh)
theorem cK67 : Cl K67 := Cl_of (by decide +kernel)
def H42 : Sg := zi H41 66
def K68 : List Sh := stS K67 66
theorem cK68 : Cl K68 := Cl_of (by decide +kernel)
def H43 : Sg := stG H42 66 67
def K69 : List Sh := K68.set 30 (.inr (.inr (.inr (.object "BorrowedWeight$State", [some 31, some 36, some 41, some 46, some 51, some 56, some 61, some 66, none, none, none, none, none, none, none, none]))))
theorem cK69 : Cl K69 := Cl_of (by decide +kernel)
def K70 : List Sh := K69 ++ ([.inl (5, [some none, some none, some none, some none, none, none, none, none, none])] : List Sh)
theorem cK70 : Cl K70 := Cl_of (by decide +kernel)
def H44 : Sg := zi H43 71
def K71 : List Sh := stS K70 71
theorem cK71 : Cl K71 := Cl_of (by decide +kernel)
def H45 : Sg := stG H44 71 72
def K72 : List Sh := K71.set 30 (.inr (.inr (.inr (.object "BorrowedWeight$State", [some 31, some 36, some 41, some 46, some 51, some 56, some 61, some 66, some 71, none, none, none, none, none, none, none]))))
theorem cK72 : Cl K72 := Cl_of (by decide +kernel)
def K73 : List Sh := K72 ++ ([.inl (5, [some none, some none, some none, some none, none, none, none, none, none])] : List Sh)
theorem cK73 : Cl K73 := Cl_of (by decide +kernel)
def H46 : Sg := zi H45 76
def K74 : List Sh := stS K73 76
theorem cK74 : Cl K74 := Cl_of (by decide +kernel)
def H47 : Sg := stG H46 76 77
def K75 : List Sh := K74.set 30 (.inr (.inr (.inr (.object "BorrowedWeight$State", [some 31, some 36, some 41, some 46, some 51, some 56, some 61, some 66, some 71, some 76, none, none, none, none, none, none]))))
theorem cK75 : Cl K75 := Cl_of (by decide +kernel)
def K76 : List Sh := K75 ++ ([.inl (5, [some none, some none, some none, some none, none, none, none, none, none])] : List Sh)
theorem cK76 : Cl K76 := Cl_of (by decide +kernel)
def H48 : Sg := zi H47 81
def K77 : List Sh := stS K76 81
theorem cK77 : Cl K77 := Cl_of (by decide +kernel)
def H49 : Sg := stG H48 81 82
def K78 : List Sh := K77.set 30 (.inr (.inr (.inr (.object "BorrowedWeight$State", [some 31, some 36, some 41, some 46, some 51, some 56, some 61, some 66, some 71, some 76, some 81, none, none, none, none, none]))))
theorem cK78 : Cl K78 := Cl_of (by decide +kernel)
def K79 : List Sh := K78 ++ ([.inl (5, [some none, some none, some none, some none, none, none, none, none, none])] : List Sh)
theorem cK79 : Cl K79 := Cl_of (by decide +kernel)
def H50 : Sg := zi H49 86
def K80 : List Sh := stS K79 86
theorem cK80 : Cl K80 := Cl_of (by decide +kernel)
def H51 : Sg := stG H50 86 87
def K81 : List Sh := K80.set 30 (.inr (.inr (.inr (.object "BorrowedWeight$State", [some 31, some 36, some 41, some 46, some 51, some 56, some 61, some 66, some 71, some 76, some 81, some 86, none, none, none, none]))))
theorem cK81 : Cl K81 := Cl_of (by decide +kernel)
def K82 : List Sh := K81 ++ ([.inl (5, [some none, some none, some none, some none, none, none, none, none, none])] : List Sh)
theorem cK82 : Cl K82 := Cl_of (by decide +kernel)
def H52 : Sg := zi H51 91
def K83 : List Sh := stS K82 91
theorem cK83 : Cl K83 := Cl_of (by decide +kernel)
def H53 : Sg := stG H52 91 92
def K84 : List Sh := K83.set 30 (.inr (.inr (.inr (.object "BorrowedWeight$State", [some 31, some 36, some 41, some 46, some 51, some 56, some 61, some 66, some 71, some 76, some 81, some 86, some 91, none, none, none]))))
theorem cK84 : Cl K84 := Cl_of (by decide +kernel)
def K85 : List Sh := K84 ++ ([.inl (5, [some none, some none, some none, some none, none, none, none, none, none])] : List Sh)
theorem cK85 : Cl K85 := Cl_of (by decide +kernel)
def H54 : Sg := zi H53 96
def K86 : List Sh := stS K85 96
theorem cK86 : Cl K86 := Cl_of (by decide +kernel)
def H55 : Sg := stG H54 96 97
def K87 : List Sh := K86.set 30 (.inr (.inr (.inr (.object "BorrowedWeight$State", [some 31, some 36, some 41, some 46, some 51, some 56, some 61, some 66, some 71, some 76, some 81, some 86, some 91, some 96, none, none]))))
theorem cK87 : Cl K87 := Cl_of (by decide +kernel)
def K88 : List Sh := K87 ++ ([.inl (5, [some none, some none, some none, some none, none, none, none, none, none])] : List Sh)
theorem cK88 : Cl K88 := Cl_of (by decide +kernel)
def H56 : Sg := zi H55 101
def K89 : List Sh := stS K88 101
theorem cK89 : Cl K89 := Cl_of (by decide +kernel)
def H57 : Sg := stG H56 101 102
def K90 : List Sh := K89.set 30 (.inr (.inr (.inr (.object "BorrowedWeight$State", [some 31, some 36, some 41, some 46, some 51, some 56, some 61, some 66, some 71, some 76, some 81, some 86, some 91, some 96, some 101, none]))))
theorem cK90 : Cl K90 := Cl_of (by decide +kernel)
def K91 : List Sh := K90 ++ ([.inl (5, [some none, some none, some none, some none, none, none, none, none, none])] : List Sh)
theorem cK91 : Cl K91 := Cl_of (by decide +kernel)
def H58 : Sg := zi H57 106
def K92 : List Sh := stS K91 106
theorem cK92 : Cl K92 := Cl_of (by decide +kernel)
def H59 : Sg := stG H58 106 107
def K93 : List Sh := K92.set 30 (.inr (.inr (.inr (.object "BorrowedWeight$State", [some 31, some 36, some 41, some 46, some 51, some 56, some 61, some 66, some 71, some 76, some 81, some 86, some 91, some 96, some 101, some 106]))))
theorem cK93 : Cl K93 := Cl_of (by decide +kernel)
set_option maxRecDepth 100000 in
set_option maxHeartbeats 4000000 in
theorem X1_init_c29 {E : Ev} : Cn E 3 yX1_init cX1_init 2 [.ref 29] K43 K93 H26 H59 81 672 := by
  refine Cn.intro (by decide +kernel) rfl (Nat.le_of_ble_eq_true rfl) (fun Z C hNm hE => ?_)
  show Wm E Z 0 0 K43 H26 0 [(0, .ref 29)] []
  refine r_aload_n (pc' := 1) C dX1_init_0 rfl 0 rfl ?_
  refine r_objI (pc' := 4) C olX1_3 ow_i ow_c (Nat.le_of_ble_eq_true rfl) dX1_init_1 rfl ?_
  refine r_aload_n (pc' := 5) C dX1_init_4 rfl 0 rfl ?_
  refine r_bipush (pc' := 7) C dX1_init_5 rfl kb_16 ?_
  refine r_anew (pc' := 10) (N := 16) C wcX1_11 hNm cK43 (okV_of (by decide +kernel)) (by decide) (by decide) (by decide) (by decide) (by decide) dX1_init_7 rfl (fun E1 Y1 C => ?_)
  have X := Y1
  refine r_SG (S2 := K44) (σ2 := H27) rfl rfl ?_
  show Wm _ _ _ _ _ _ _ [(0, .ref 29)] [.ref 30, .ref 29]
  refine r_putR (pc' := 13) (S' := K45) (fks := [some none, none, none]) C hNm fcX1_13 ⟨_, rfl, rfl⟩ (gk (by decide +kernel)) rfl (fun _ => rfl) (fun _ => rfl) dX1_init_10 rfl rfl ?_
  refine r_iconst (pc' := 14) C dX1_init_13 rfl kc_0 ?_
  refine r_istore_n (pc' := 15) (lv2 := [(1, .int 0), (0, .ref 29)]) C dX1_init_14 rfl rfl (Nat.le_of_ble_eq_true rfl) rfl ?_
  refine r_iload_n (pc' := 16) C dX1_init_15 rfl 0 rfl ?_
  refine r_bipush (pc' := 18) C dX1_init_16 rfl kb_16 ?_
  refine r_icmp_ge (tgt := 40) (pc' := 21) C dX1_init_18 rfl rfl (fun c => absurd c (by decide)) (fun _ => ?_)
  refine r_aload_n (pc' := 22) C dX1_init_21 rfl 1 rfl ?_
  refine r_getR (pc' := 25) (fks := [some (some (some 30)), none, none]) C flX1_13 (gk (by decide +kernel)) rfl dX1_init_22 rfl ?_
  refine r_iload_n (pc' := 26) C dX1_init_25 rfl 0 rfl ?_
  refine r_new (pc' := 29) (ci := 5) (q := (RX5, TX5, 9)) (fks := [some none, some none, some none, some none, none, none, none, none, none]) C tyX5 rfl ci_5 tyX5_ok wcX1_11 wn_5 wt_5 (by decide +kernel) (by decide +kernel) cK45 (okV_of (by decide +kernel)) (by decide) (by decide) dX1_init_26 rfl (fun E2 Y2 C => ?_)
  have X := X.trans Y2 (by decide +kernel)
  refine r_SG (S2 := K46) (σ2 := H28) rfl rfl ?_
  show Wm _ _ _ _ _ _ _ [(1, .int 0), (0, .ref 29)] [.ref 31, .int 0, .ref 30]
  refine r_dup (pc' := 30) C dX1_init_29 rfl rfl ?_
  refine r_callN (pc' := 33) C (X5_init_c (S := K46) (σ := H28) (k := 31) cK46 (by decide +kernel) (gk (by decide +kernel))) (Or.inl ⟨_, liX1_17⟩) ceX5_init ciX5_init rfl hNm.az cK46 (okV_of (by decide +kernel)) rfl (Nat.le_of_ble_eq_true rfl) rfl (Nat.le_of_ble_eq_true rfl) ⟨by decide, by decide⟩ dX1_init_30 rfl (fun E3 Y3 C => ?_)
  have X := X.trans Y3 (by decide +kernel)
  refine r_SG (S2 := K47) (σ2 := H29) rfl rfl ?_
  refine r_aast (pc' := 34) (q := (RX5, TX5, 9)) (ci := 5) (l := [none, none, none, none, none, none, none, none, none, none, none, none, none, none, none, none]) (fks := [some (some (some 32)), some (some (some 33)), some (some (some 34)), some (some (some 35)), none, none, none, none, none]) (S' := K48) C (gk (by decide +kernel)) (gk (by decide +kernel)) rfl (vin (by decide +kernel)) dX1_init_33 rfl rfl ?_
  refine r_iinc (pc' := 37) (v := 1) (lv2 := [(1, .int 1), (0, .ref 29)]) C dX1_init_34 rfl 0 rfl (by decide) (Nat.le_of_ble_eq_true rfl) rfl ?_
  refine r_goto (tgt := 15) C dX1_init_37 rfl ?_
  refine r_iload_n (pc' := 16) C dX1_init_15 rfl 0 rfl ?_
  refine r_bipush (pc' := 18) C dX1_init_16 rfl kb_16 ?_
  refine r_icmp_ge (tgt := 40) (pc' := 21) C dX1_init_18 rfl rfl (fun c => absurd c (by decide)) (fun _ => ?_)
  refine r_aload_n (pc' := 22) C dX1_init_21 rfl 1 rfl ?_
  refine r_getR (pc' := 25) (fks := [some (some (some 30)), none, none]) C flX1_13 (gk (by decide +kernel)) rfl dX1_init_22 rfl ?_
  refine r_iload_n (pc' := 26) C dX1_init_25 rfl 0 rfl ?_
  refine r_new (pc' := 29) (ci := 5) (q := (RX5, TX5, 9)) (fks := [some none, some none, some none, some none, none, none, none, none, none]) C tyX5 rfl ci_5 tyX5_ok wcX1_11 wn_5 wt_5 (by decide +kernel) (by decide +kernel) cK48 (okV_of (by decide +kernel)) (by decide) (by decide) dX1_init_26 rfl (fun E4 Y4 C => ?_)
  have X := X.trans Y4 (by decide +kernel)
  refine r_SG (S2 := K49) (σ2 := H30) rfl rfl ?_
  show Wm _ _ _ _ _ _ _ [(1, .int 1), (0, .ref 29)] [.ref 36, .int 1, .ref 30]
  refine r_dup (pc' := 30) C dX1_init_29 rfl rfl ?_
  refine r_callN (pc' := 33) C (X5_init_c (S := K49) (σ := H30) (k := 36) cK49 (by decide +kernel) (gk (by decide +kernel))) (Or.inl ⟨_, liX1_17⟩) ceX5_init ciX5_init rfl hNm.az cK49 (okV_of (by decide +kernel)) rfl (Nat.le_of_ble_eq_true rfl) rfl (Nat.le_of_ble_eq_true rfl) ⟨by decide, by decide⟩ dX1_init_30 rfl (fun E5 Y5 C => ?_)
  have X := X.trans Y5 (by decide +kernel)
  refine r_SG (S2 := K50) (σ2 := H31) rfl rfl ?_
  refine r_aast (pc' := 34) (q := (RX5, TX5, 9)) (ci := 5) (l := [some 31, none, none, none, none, none, none, none, none, none, none, none, none, none, none, none]) (fks := [some (some (some 37)), some (some (some 38)), some (some (some 39)), some (some (some 40)), none, none, none, none, none]) (S' := K51) C (gk (by decide +kernel)) (gk (by decide +kernel)) rfl (vin (by decide +kernel)) dX1_init_33 rfl rfl ?_
  refine r_iinc (pc' := 37) (v := 2) (lv2 := [(1, .int 2), (0, .ref 29)]) C dX1_init_34 rfl 0 rfl (by decide) (Nat.le_of_ble_eq_true rfl) rfl ?_
  refine r_goto (tgt := 15) C dX1_init_37 rfl ?_
  refine r_iload_n (pc' := 16) C dX1_init_15 rfl 0 rfl ?_
  refine r_bipush (pc' := 18) C dX1_init_16 rfl kb_16 ?_
  refine r_icmp_ge (tgt := 40) (pc' := 21) C dX1_init_18 rfl rfl (fun c => absurd c (by decide)) (fun _ => ?_)
  refine r_aload_n (pc' := 22) C dX1_init_21 rfl 1 rfl ?_
  refine r_getR (pc' := 25) (fks := [some (some (some 30)), none, none]) C flX1_13 (gk (by decide +kernel)) rfl dX1_init_22 rfl ?_
  refine r_iload_n (pc' := 26) C dX1_init_25 rfl 0 rfl ?_
  refine r_new (pc' := 29) (ci := 5) (q := (RX5, TX5, 9)) (fks := [some none, some none, some none, some none, none, none, none, none, none]) C tyX5 rfl ci_5 tyX5_ok wcX1_11 wn_5 wt_5 (by decide +kernel) (by decide +kernel) cK51 (okV_of (by decide +kernel)) (by decide) (by decide) dX1_init_26 rfl (fun E6 Y6 C => ?_)
  have X := X.trans Y6 (by decide +kernel)
  refine r_SG (S2 := K52) (σ2 := H32) rfl rfl ?_
  show Wm _ _ _ _ _ _ _ [(1, .int 2), (0, .ref 29)] [.ref 41, .int 2, .ref 30]
  refine r_dup (pc' := 30) C dX1_init_29 rfl rfl ?_
  refine r_callN (pc' := 33) C (X5_init_c (S := K52) (σ := H32) (k := 41) cK52 (by decide +kernel) (gk (by decide +kernel))) (Or.inl ⟨_, liX1_17⟩) ceX5_init ciX5_init rfl hNm.az cK52 (okV_of (by decide +kernel)) rfl (Nat.le_of_ble_eq_true rfl) rfl (Nat.le_of_ble_eq_true rfl) ⟨by decide, by decide⟩ dX1_init_30 rfl (fun E7 Y7 C => ?_)
  have X := X.trans Y7 (by decide +kernel)
  refine r_SG (S2 := K53) (σ2 := H33) rfl rfl ?_
  refine r_aast (pc' := 34) (q := (RX5, TX5, 9)) (ci := 5) (l := [some 31, some 36, none, none, none, none, none, none, none, none, none, none, none, none, none, none]) (fks := [some (some (some 42)), some (some (some 43)), some (some (some 44)), some (some (some 45)), none, none, none, none, none]) (S' := K54) C (gk (by decide +kernel)) (gk (by decide +kernel)) rfl (vin (by decide +kernel)) dX1_init_33 rfl rfl ?_
  refine r_iinc (pc' := 37) (v := 3) (lv2 := [(1, .int 3), (0, .ref 29)]) C dX1_init_34 rfl 0 rfl (by decide) (Nat.le_of_ble_eq_true rfl) rfl ?_
  refine r_goto (tgt := 15) C dX1_init_37 rfl ?_
  refine r_iload_n (pc' := 16) C dX1_init_15 rfl 0 rfl ?_
  refine r_bipush (pc' := 18) C dX1_init_16 rfl kb_16 ?_
  refine r_icmp_ge (tgt := 40) (pc' := 21) C dX1_init_18 rfl rfl (fun c => absurd c (by decide)) (fun _ => ?_)
  refine r_aload_n (pc' := 22) C dX1_init_21 rfl 1 rfl ?_
  refine r_getR (pc' := 25) (fks := [some (some (some 30)), none, none]) C flX1_13 (gk (by decide +kernel)) rfl dX1_init_22 rfl ?_
  refine r_iload_n (pc' := 26) C dX1_init_25 rfl 0 rfl ?_
  refine r_new (pc' := 29) (ci := 5) (q := (RX5, TX5, 9)) (fks := [some none, some none, some none, some none, none, none, none, none, none]) C tyX5 rfl ci_5 tyX5_ok wcX1_11 wn_5 wt_5 (by decide +kernel) (by decide +kernel) cK54 (okV_of (by decide +kernel)) (by decide) (by decide) dX1_init_26 rfl (fun E8 Y8 C => ?_)
  have X := X.trans Y8 (by decide +kernel)
  refine r_SG (S2 := K55) (σ2 := H34) rfl rfl ?_
  show Wm _ _ _ _ _ _ _ [(1, .int 3), (0, .ref 29)] [.ref 46, .int 3, .ref 30]
  refine r_dup (pc' := 30) C dX1_init_29 rfl rfl ?_
  refine r_callN (pc' := 33) C (X5_init_c (S := K55) (σ := H34) (k := 46) cK55 (by decide +kernel) (gk (by decide +kernel))) (Or.inl ⟨_, liX1_17⟩) ceX5_init ciX5_init rfl hNm.az cK55 (okV_of (by decide +kernel)) rfl (Nat.le_of_ble_eq_true rfl) rfl (Nat.le_of_ble_eq_true rfl) ⟨by decide, by decide⟩ dX1_init_30 rfl (fun E9 Y9 C => ?_)
  have X := X.trans Y9 (by decide +kernel)
  refine r_SG (S2 := K56) (σ2 := H35) rfl rfl ?_
  refine r_aast (pc' := 34) (q := (RX5, TX5, 9)) (ci := 5) (l := [some 31, some 36, some 41, none, none, none, none, none, none, none, none, none, none, none, none, none]) (fks := [some (some (some 47)), some (some (some 48)), some (some (some 49)), some (some (some 50)), none, none, none, none, none]) (S' := K57) C (gk (by decide +kernel)) (gk (by decide +kernel)) rfl (vin (by decide +kernel)) dX1_init_33 rfl rfl ?_
  refine r_iinc (pc' := 37) (v := 4) (lv2 := [(1, .int 4), (0, .ref 29)]) C dX1_init_34 rfl 0 rfl (by decide) (Nat.le_of_ble_eq_true rfl) rfl ?_
  refine r_goto (tgt := 15) C dX1_init_37 rfl ?_
  refine r_iload_n (pc' := 16) C dX1_init_15 rfl 0 rfl ?_
  refine r_bipush (pc' := 18) C dX1_init_16 rfl kb_16 ?_
  refine r_icmp_ge (tgt := 40) (pc' := 21) C dX1_init_18 rfl rfl (fun c => absurd c (by decide)) (fun _ => ?_)
  refine r_aload_n (pc' := 22) C dX1_init_21 rfl 1 rfl ?_
  refine r_getR (pc' := 25) (fks := [some (some (some 30)), none, none]) C flX1_13 (gk (by decide +kernel)) rfl dX1_init_22 rfl ?_
  refine r_iload_n (pc' := 26) C dX1_init_25 rfl 0 rfl ?_
  refine r_new (pc' := 29) (ci := 5) (q := (RX5, TX5, 9)) (fks := [some none, some none, some none, some none, none, none, none, none, none]) C tyX5 rfl ci_5 tyX5_ok wcX1_11 wn_5 wt_5 (by decide +kernel) (by decide +kernel) cK57 (okV_of (by decide +kernel)) (by decide) (by decide) dX1_init_26 rfl (fun E10 Y10 C => ?_)
  have X := X.trans Y10 (by decide +kernel)
  refine r_SG (S2 := K58) (σ2 := H36) rfl rfl ?_
  show Wm _ _ _ _ _ _ _ [(1, .int 4), (0, .ref 29)] [.ref 51, .int 4, .ref 30]
  refine r_dup (pc' := 30) C dX1_init_29 rfl rfl ?_
  refine r_callN (pc' := 33) C (X5_init_c (S := K58) (σ := H36) (k := 51) cK58 (by decide +kernel) (gk (by decide +kernel))) (Or.inl ⟨_, liX1_17⟩) ceX5_init ciX5_init rfl hNm.az cK58 (okV_of (by decide +kernel)) rfl (Nat.le_of_ble_eq_true rfl) rfl (Nat.le_of_ble_eq_true rfl) ⟨by decide, by decide⟩ dX1_init_30 rfl (fun E11 Y11 C => ?_)
  have X := X.trans Y11 (by decide +kernel)
  refine r_SG (S2 := K59) (σ2 := H37) rfl rfl ?_
  refine r_aast (pc' := 34) (q := (RX5, TX5, 9)) (ci := 5) (l := [some 31, some 36, some 41, some 46, none, none, none, none, none, none, none, none, none, none, none, none]) (fks := [some (some (some 52)), some (some (some 53)), some (some (some 54)), some (some (some 55)), none, none, none, none, none]) (S' := K60) C (gk (by decide +kernel)) (gk (by decide +kernel)) rfl (vin (by decide +kernel)) dX1_init_33 rfl rfl ?_
  refine r_iinc (pc' := 37) (v := 5) (lv2 := [(1, .int 5), (0, .ref 29)]) C dX1_init_34 rfl 0 rfl (by decide) (Nat.le_of_ble_eq_true rfl) rfl ?_
  refine r_goto (tgt := 15) C dX1_init_37 rfl ?_
  refine r_iload_n (pc' := 16) C dX1_init_15 rfl 0 rfl ?_
  refine r_bipush (pc' := 18) C dX1_init_16 rfl kb_16 ?_
  refine r_icmp_ge (tgt := 40) (pc' := 21) C dX1_init_18 rfl rfl (fun c => absurd c (by decide)) (fun _ => ?_)
  refine r_aload_n (pc' := 22) C dX1_init_21 rfl 1 rfl ?_
  refine r_getR (pc' := 25) (fks := [some (some (some 30)), none, none]) C flX1_13 (gk (by decide +kernel)) rfl dX1_init_22 rfl ?_
  refine r_iload_n (pc' := 26) C dX1_init_25 rfl 0 rfl ?_
  refine r_new (pc' := 29) (ci := 5) (q := (RX5, TX5, 9)) (fks := [some none, some none, some none, some none, none, none, none, none, none]) C tyX5 rfl ci_5 tyX5_ok wcX1_11 wn_5 wt_5 (by decide +kernel) (by decide +kernel) cK60 (okV_of (by decide +kernel)) (by decide) (by decide) dX1_init_26 rfl (fun E12 Y12 C => ?_)
  have X := X.trans Y12 (by decide +kernel)
  refine r_SG (S2 := K61) (σ2 := H38) rfl rfl ?_
  show Wm _ _ _ _ _ _ _ [(1, .int 5), (0, .ref 29)] [.ref 56, .int 5, .ref 30]
  refine r_dup (pc' := 30) C dX1_init_29 rfl rfl ?_
  refine r_callN (pc' := 33) C (X5_init_c (S := K61) (σ := H38) (k := 56) cK61 (by decide +kernel) (gk (by decide +kernel))) (Or.inl ⟨_, liX1_17⟩) ceX5_init ciX5_init rfl hNm.az cK61 (okV_of (by decide +kernel)) rfl (Nat.le_of_ble_eq_true rfl) rfl (Nat.le_of_ble_eq_true rfl) ⟨by decide, by decide⟩ dX1_init_30 rfl (fun E13 Y13 C => ?_)
  have X := X.trans Y13 (by decide +kernel)
  refine r_SG (S2 := K62) (σ2 := H39) rfl rfl ?_
  refine r_aast (pc' := 34) (q := (RX5, TX5, 9)) (ci := 5) (l := [some 31, some 36, some 41, some 46, some 51, none, none, none, none, none, none, none, none, none, none, none]) (fks := [some (some (some 57)), some (some (some 58)), some (some (some 59)), some (some (some 60)), none, none, none, none, none]) (S' := K63) C (gk (by decide +kernel)) (gk (by decide +kernel)) rfl (vin (by decide +kernel)) dX1_init_33 rfl rfl ?_
  refine r_iinc (pc' := 37) (v := 6) (lv2 := [(1, .int 6), (0, .ref 29)]) C dX1_init_34 rfl 0 rfl (by decide) (Nat.le_of_ble_eq_true rfl) rfl ?_
  refine r_goto (tgt := 15) C dX1_init_37 rfl ?_
  refine r_iload_n (pc' := 16) C dX1_init_15 rfl 0 rfl ?_
  refine r_bipush (pc' := 18) C dX1_init_16 rfl kb_16 ?_
  refine r_icmp_ge (tgt := 40) (pc' := 21) C dX1_init_18 rfl rfl (fun c => absurd c (by decide)) (fun _ => ?_)
  refine r_aload_n (pc' := 22) C dX1_init_21 rfl 1 rfl ?_
  refine r_getR (pc' := 25) (fks := [some (some (some 30)), none, none]) C flX1_13 (gk (by decide +kernel)) rfl dX1_init_22 rfl ?_
  refine r_iload_n (pc' := 26) C dX1_init_25 rfl 0 rfl ?_
  refine r_new (pc' := 29) (ci := 5) (q := (RX5, TX5, 9)) (fks := [some none, some none, some none, some none, none, none, none, none, none]) C tyX5 rfl ci_5 tyX5_ok wcX1_11 wn_5 wt_5 (by decide +kernel) (by decide +kernel) cK63 (okV_of (by decide +kernel)) (by decide) (by decide) dX1_init_26 rfl (fun E14 Y14 C => ?_)
  have X := X.trans Y14 (by decide +kernel)
  refine r_SG (S2 := K64) (σ2 := H40) rfl rfl ?_
  show Wm _ _ _ _ _ _ _ [(1, .int 6), (0, .ref 29)] [.ref 61, .int 6, .ref 30]
  refine r_dup (pc' := 30) C dX1_init_29 rfl rfl ?_
  refine r_callN (pc' := 33) C (X5_init_c (S := K64) (σ := H40) (k := 61) cK64 (by decide +kernel) (gk (by decide +kernel))) (Or.inl ⟨_, liX1_17⟩) ceX5_init ciX5_init rfl hNm.az cK64 (okV_of (by decide +kernel)) rfl (Nat.le_of_ble_eq_true rfl) rfl (Nat.le_of_ble_eq_true rfl) ⟨by decide, by decide⟩ dX1_init_30 rfl (fun E15 Y15 C => ?_)
  have X := X.trans Y15 (by decide +kernel)
  refine r_SG (S2 := K65) (σ2 := H41) rfl rfl ?_
  refine r_aast (pc' := 34) (q := (RX5, TX5, 9)) (ci := 5) (l := [some 31, some 36, some 41, some 46, some 51, some 56, none, none, none, none, none, none, none, none, none, none]) (fks := [some (some (some 62)), some (some (some 63)), some (some (some 64)), some (some (some 65)), none, none, none, none, none]) (S' := K66) C (gk (by decide +kernel)) (gk (by decide +kernel)) rfl (vin (by decide +kernel)) dX1_init_33 rfl rfl ?_
  refine r_iinc (pc' := 37) (v := 7) (lv2 := [(1, .int 7), (0, .ref 29)]) C dX1_init_34 rfl 0 rfl (by decide) (Nat.le_of_ble_eq_true rfl) rfl ?_
  refine r_goto (tgt := 15) C dX1_init_37 rfl ?_
  refine r_iload_n (pc' := 16) C dX1_init_15 rfl 0 rfl ?_
  refine r_bipush (pc' := 18) C dX1_init_16 rfl kb_16 ?_
  refine r_icmp_ge (tgt := 40) (pc' := 21) C dX1_init_18 rfl rfl (fun c => absurd c (by decide)) (fun _ => ?_)
  refine r_aload_n (pc' := 22) C dX1_init_21 rfl 1 rfl ?_
  refine r_getR (pc' := 25) (fks := [some (some (some 30)), none, none]) C flX1_13 (gk (by decide +kernel)) rfl dX1_init_22 rfl ?_
  refine r_iload_n (pc' := 26) C dX1_init_25 rfl 0 rfl ?_
  refine r_new (pc' := 29) (ci := 5) (q := (RX5, TX5, 9)) (fks := [some none, some none, some none, some none, none, none, none, none, none]) C tyX5 rfl ci_5 tyX5_ok wcX1_11 wn_5 wt_5 (by decide +kernel) (by decide +kernel) cK66 (okV_of (by decide +kernel)) (by decide) (by decide) dX1_init_26 rfl (fun E16 Y16 C => ?_)
  have X := X.trans Y16 (by decide +kernel)
  refine r_SG (S2 := K67) (σ2 := H42) rfl rfl ?_
  show Wm _ _ _ _ _ _ _ [(1, .int 7), (0, .ref 29)] [.ref 66, .int 7, .ref 30]
  refine r_dup (pc' := 30) C dX1_init_29 rfl rfl ?_
  refine r_callN (pc' := 33) C (X5_init_c (S := K67) (σ := H42) (k := 66) cK67 (by decide +kernel) (gk (by decide +kernel))) (Or.inl ⟨_, liX1_17⟩) ceX5_init ciX5_init rfl hNm.az cK67 (okV_of (by decide +kernel)) rfl (Nat.le_of_ble_eq_true rfl) rfl (Nat.le_of_ble_eq_true rfl) ⟨by decide, by decide⟩ dX1_init_30 rfl (fun E17 Y17 C => ?_)
  have X := X.trans Y17 (by decide +kernel)
  refine r_SG (S2 := K68) (σ2 := H43) rfl rfl ?_
  refine r_aast (pc' := 34) (q := (RX5, TX5, 9)) (ci := 5) (l := [some 31, some 36, some 41, some 46, some 51, some 56, some 61, none, none, none, none, none, none, none, none, none]) (fks := [some (some (some 67)), some (some (some 68)), some (some (some 69)), some (some (some 70)), none, none, none, none, none]) (S' := K69) C (gk (by decide +kernel)) (gk (by decide +kernel)) rfl (vin (by decide +kernel)) dX1_init_33 rfl rfl ?_
  refine r_iinc (pc' := 37) (v := 8) (lv2 := [(1, .int 8), (0, .ref 29)]) C dX1_init_34 rfl 0 rfl (by decide) (Nat.le_of_ble_eq_true rfl) rfl ?_
  refine r_goto (tgt := 15) C dX1_init_37 rfl ?_
  refine r_iload_n (pc' := 16) C dX1_init_15 rfl 0 rfl ?_
  refine r_bipush (pc' := 18) C dX1_init_16 rfl kb_16 ?_
  refine r_icmp_ge (tgt := 40) (pc' := 21) C dX1_init_18 rfl rfl (fun c => absurd c (by decide)) (fun _ => ?_)
  refine r_aload_n (pc' := 22) C dX1_init_21 rfl 1 rfl ?_
  refine r_getR (pc' := 25) (fks := [some (some (some 30)), none, none]) C flX1_13 (gk (by decide +kernel)) rfl dX1_init_22 rfl ?_
  refine r_iload_n (pc' := 26) C dX1_init_25 rfl 0 rfl ?_
  refine r_new (pc' := 29) (ci := 5) (q := (RX5, TX5, 9)) (fks := [some none, some none, some none, some none, none, none, none, none, none]) C tyX5 rfl ci_5 tyX5_ok wcX1_11 wn_5 wt_5 (by decide +kernel) (by decide +kernel) cK69 (okV_of (by decide +kernel)) (by decide) (by decide) dX1_init_26 rfl (fun E18 Y18 C => ?_)
  have X := X.trans Y18 (by decide +kernel)
  refine r_SG (S2 := K70) (σ2 := H44) rfl rfl ?_
  show Wm _ _ _ _ _ _ _ [(1, .int 8), (0, .ref 29)] [.ref 71, .int 8, .ref 30]
  refine r_dup (pc' := 30) C dX1_init_29 rfl rfl ?_
  refine r_callN (pc' := 33) C (X5_init_c (S := K70) (σ := H44) (k := 71) cK70 (by decide +kernel) (gk (by decide +kernel))) (Or.inl ⟨_, liX1_17⟩) ceX5_init ciX5_init rfl hNm.az cK70 (okV_of (by decide +kernel)) rfl (Nat.le_of_ble_eq_true rfl) rfl (Nat.le_of_ble_eq_true rfl) ⟨by decide, by decide⟩ dX1_init_30 rfl (fun E19 Y19 C => ?_)
  have X := X.trans Y19 (by decide +kernel)
  refine r_SG (S2 := K71) (σ2 := H45) rfl rfl ?_
  refine r_aast (pc' := 34) (q := (RX5, TX5, 9)) (ci := 5) (l := [some 31, some 36, some 41, some 46, some 51, some 56, some 61, some 66, none, none, none, none, none, none, none, none]) (fks := [some (some (some 72)), some (some (some 73)), some (some (some 74)), some (some (some 75)), none, none, none, none, none]) (S' := K72) C (gk (by decide +kernel)) (gk (by decide +kernel)) rfl (vin (by decide +kernel)) dX1_init_33 rfl rfl ?_
  refine r_iinc (pc' := 37) (v := 9) (lv2 := [(1, .int 9), (0, .ref 29)]) C dX1_init_34 rfl 0 rfl (by decide) (Nat.le_of_ble_eq_true rfl) rfl ?_
  refine r_goto (tgt := 15) C dX1_init_37 rfl ?_
  refine r_iload_n (pc' := 16) C dX1_init_15 rfl 0 rfl ?_
  refine r_bipush (pc' := 18) C dX1_init_16 rfl kb_16 ?_
  refine r_icmp_ge (tgt := 40) (pc' := 21) C dX1_init_18 rfl rfl (fun c => absurd c (by decide)) (fun _ => ?_)
  refine r_aload_n (pc' := 22) C dX1_init_21 rfl 1 rfl ?_
  refine r_getR (pc' := 25) (fks := [some (some (some 30)), none, none]) C flX1_13 (gk (by decide +kernel)) rfl dX1_init_22 rfl ?_
  refine r_iload_n (pc' := 26) C dX1_init_25 rfl 0 rfl ?_
  refine r_new (pc' := 29) (ci := 5) (q := (RX5, TX5, 9)) (fks := [some none, some none, some none, some none, none, none, none, none, none]) C tyX5 rfl ci_5 tyX5_ok wcX1_11 wn_5 wt_5 (by decide +kernel) (by decide +kernel) cK72 (okV_of (by decide +kernel)) (by decide) (by decide) dX1_init_26 rfl (fun E20 Y20 C => ?_)
  have X := X.trans Y20 (by decide +kernel)
  refine r_SG (S2 := K73) (σ2 := H46) rfl rfl ?_
  show Wm _ _ _ _ _ _ _ [(1, .int 9), (0, .ref 29)] [.ref 76, .int 9, .ref 30]
  refine r_dup (pc' := 30) C dX1_init_29 rfl rfl ?_
  refine r_callN (pc' := 33) C (X5_init_c (S := K73) (σ := H46) (k := 76) cK73 (by decide +kernel) (gk (by decide +kernel))) (Or.inl ⟨_, liX1_17⟩) ceX5_init ciX5_init rfl hNm.az cK73 (okV_of (by decide +kernel)) rfl (Nat.le_of_ble_eq_true rfl) rfl (Nat.le_of_ble_eq_true rfl) ⟨by decide, by decide⟩ dX1_init_30 rfl (fun E21 Y21 C => ?_)
  have X := X.trans Y21 (by decide +kernel)
  refine r_SG (S2 := K74) (σ2 := H47) rfl rfl ?_
  refine r_aast (pc' := 34) (q := (RX5, TX5, 9)) (ci := 5) (l := [some 31, some 36, some 41, some 46, some 51, some 56, some 61, some 66, some 71, none, none, none, none, none, none, none]) (fks := [some (some (some 77)), some (some (some 78)), some (some (some 79)), some (some (some 80)), none, none, none, none, none]) (S' := K75) C (gk (by decide +kernel)) (gk (by decide +kernel)) rfl (vin (by decide +kernel)) dX1_init_33 rfl rfl ?_
  refine r_iinc (pc' := 37) (v := 10) (lv2 := [(1, .int 10), (0, .ref 29)]) C dX1_init_34 rfl 0 rfl (by decide) (Nat.le_of_ble_eq_true rfl) rfl ?_
  refine r_goto (tgt := 15) C dX1_init_37 rfl ?_
  refine r_iload_n (pc' := 16) C dX1_init_15 rfl 0 rfl ?_
  refine r_bipush (pc' := 18) C dX1_init_16 rfl kb_16 ?_
  refine r_icmp_ge (tgt := 40) (pc' := 21) C dX1_init_18 rfl rfl (fun c => absurd c (by decide)) (fun _ => ?_)
  refine r_aload_n (pc' := 22) C dX1_init_21 rfl 1 rfl ?_
  refine r_getR (pc' := 25) (fks := [some (some (some 30)), none, none]) C flX1_13 (gk (by decide +kernel)) rfl dX1_init_22 rfl ?_
  refine r_iload_n (pc' := 26) C dX1_init_25 rfl 0 rfl ?_
  refine r_new (pc' := 29) (ci := 5) (q := (RX5, TX5, 9)) (fks := [some none, some none, some none, some none, none, none, none, none, none]) C tyX5 rfl ci_5 tyX5_ok wcX1_11 wn_5 wt_5 (by decide +kernel) (by decide +kernel) cK75 (okV_of (by decide +kernel)) (by decide) (by decide) dX1_init_26 rfl (fun E22 Y22 C => ?_)
  have X := X.trans Y22 (by decide +kernel)
  refine r_SG (S2 := K76) (σ2 := H48) rfl rfl ?_
  show Wm _ _ _ _ _ _ _ [(1, .int 10), (0, .ref 29)] [.ref 81, .int 10, .ref 30]
  refine r_dup (pc' := 30) C dX1_init_29 rfl rfl ?_
  refine r_callN (pc' := 33) C (X5_init_c (S := K76) (σ := H48) (k := 81) cK76 (by decide +kernel) (gk (by decide +kernel))) (Or.inl ⟨_, liX1_17⟩) ceX5_init ciX5_init rfl hNm.az cK76 (okV_of (by decide +kernel)) rfl (Nat.le_of_ble_eq_true rfl) rfl (Nat.le_of_ble_eq_true rfl) ⟨by decide, by decide⟩ dX1_init_30 rfl (fun E23 Y23 C => ?_)
  have X := X.trans Y23 (by decide +kernel)
  refine r_SG (S2 := K77) (σ2 := H49) rfl rfl ?_
  refine r_aast (pc' := 34) (q := (RX5, TX5, 9)) (ci := 5) (l := [some 31, some 36, some 41, some 46, some 51, some 56, some 61, some 66, some 71, some 76, none, none, none, none, none, none]) (fks := [some (some (some 82)), some (some (some 83)), some (some (some 84)), some (some (some 85)), none, none, none, none, none]) (S' := K78) C (gk (by decide +kernel)) (gk (by decide +kernel)) rfl (vin (by decide +kernel)) dX1_init_33 rfl rfl ?_
  refine r_iinc (pc' := 37) (v := 11) (lv2 := [(1, .int 11), (0, .ref 29)]) C dX1_init_34 rfl 0 rfl (by decide) (Nat.le_of_ble_eq_true rfl) rfl ?_
  refine r_goto (tgt := 15) C dX1_init_37 rfl ?_
  refine r_iload_n (pc' := 16) C dX1_init_15 rfl 0 rfl ?_
  refine r_bipush (pc' := 18) C dX1_init_16 rfl kb_16 ?_
  refine r_icmp_ge (tgt := 40) (pc' := 21) C dX1_init_18 rfl rfl (fun c => absurd c (by decide)) (fun _ => ?_)
  refine r_aload_n (pc' := 22) C dX1_init_21 rfl 1 rfl ?_
  refine r_getR (pc' := 25) (fks := [some (some (some 30)), none, none]) C flX1_13 (gk (by decide +kernel)) rfl dX1_init_22 rfl ?_
  refine r_iload_n (pc' := 26) C dX1_init_25 rfl 0 rfl ?_
  refine r_new (pc' := 29) (ci := 5) (q := (RX5, TX5, 9)) (fks := [some none, some none, some none, some none, none, none, none, none, none]) C tyX5 rfl ci_5 tyX5_ok wcX1_11 wn_5 wt_5 (by decide +kernel) (by decide +kernel) cK78 (okV_of (by decide +kernel)) (by decide) (by decide) dX1_init_26 rfl (fun E24 Y24 C => ?_)
  have X := X.trans Y24 (by decide +kernel)
  refine r_SG (S2 := K79) (σ2 := H50) rfl rfl ?_
  show Wm _ _ _ _ _ _ _ [(1, .int 11), (0, .ref 29)] [.ref 86, .int 11, .ref 30]
  refine r_dup (pc' := 30) C dX1_init_29 rfl rfl ?_
  refine r_callN (pc' := 33) C (X5_init_c (S := K79) (σ := H50) (k := 86) cK79 (by decide +kernel) (gk (by decide +kernel))) (Or.inl ⟨_, liX1_17⟩) ceX5_init ciX5_init rfl hNm.az cK79 (okV_of (by decide +kernel)) rfl (Nat.le_of_ble_eq_true rfl) rfl (Nat.le_of_ble_eq_true rfl) ⟨by decide, by decide⟩ dX1_init_30 rfl (fun E25 Y25 C => ?_)
  have X := X.trans Y25 (by decide +kernel)
  refine r_SG (S2 := K80) (σ2 := H51) rfl rfl ?_
  refine r_aast (pc' := 34) (q := (RX5, TX5, 9)) (ci := 5) (l := [some 31, some 36, some 41, some 46, some 51, some 56, some 61, some 66, some 71, some 76, some 81, none, none, none, none, none]) (fks := [some (some (some 87)), some (some (some 88)), some (some (some 89)), some (some (some 90)), none, none, none, none, none]) (S' := K81) C (gk (by decide +kernel)) (gk (by decide +kernel)) rfl (vin (by decide +kernel)) dX1_init_33 rfl rfl ?_
  refine r_iinc (pc' := 37) (v := 12) (lv2 := [(1, .int 12), (0, .ref 29)]) C dX1_init_34 rfl 0 rfl (by decide) (Nat.le_of_ble_eq_true rfl) rfl ?_
  refine r_goto (tgt := 15) C dX1_init_37 rfl ?_
  refine r_iload_n (pc' := 16) C dX1_init_15 rfl 0 rfl ?_
  refine r_bipush (pc' := 18) C dX1_init_16 rfl kb_16 ?_
  refine r_icmp_ge (tgt := 40) (pc' := 21) C dX1_init_18 rfl rfl (fun c => absurd c (by decide)) (fun _ => ?_)
  refine r_aload_n (pc' := 22) C dX1_init_21 rfl 1 rfl ?_
  refine r_getR (pc' := 25) (fks := [some (some (some 30)), none, none]) C flX1_13 (gk (by decide +kernel)) rfl dX1_init_22 rfl ?_
  refine r_iload_n (pc' := 26) C dX1_init_25 rfl 0 rfl ?_
  refine r_new (pc' := 29) (ci := 5) (q := (RX5, TX5, 9)) (fks := [some none, some none, some none, some none, none, none, none, none, none]) C tyX5 rfl ci_5 tyX5_ok wcX1_11 wn_5 wt_5 (by decide +kernel) (by decide +kernel) cK81 (okV_of (by decide +kernel)) (by decide) (by decide) dX1_init_26 rfl (fun E26 Y26 C => ?_)
  have X := X.trans Y26 (by decide +kernel)
  refine r_SG (S2 := K82) (σ2 := H52) rfl rfl ?_
  show Wm _ _ _ _ _ _ _ [(1, .int 12), (0, .ref 29)] [.ref 91, .int 12, .ref 30]
  refine r_dup (pc' := 30) C dX1_init_29 rfl rfl ?_
  refine r_callN (pc' := 33) C (X5_init_c (S := K82) (σ := H52) (k := 91) cK82 (by decide +kernel) (gk (by decide +kernel))) (Or.inl ⟨_, liX1_17⟩) ceX5_init ciX5_init rfl hNm.az cK82 (okV_of (by decide +kernel)) rfl (Nat.le_of_ble_eq_true rfl) rfl (Nat.le_of_ble_eq_true rfl) ⟨by decide, by decide⟩ dX1_init_30 rfl (fun E27 Y27 C => ?_)
  have X := X.trans Y27 (by decide +kernel)
  refine r_SG (S2 := K83) (σ2 := H53) rfl rfl ?_
  refine r_aast (pc' := 34) (q := (RX5, TX5, 9)) (ci := 5) (l := [some 31, some 36, some 41, some 46, some 51, some 56, some 61, some 66, some 71, some 76, some 81, some 86, none, none, none, none]) (fks := [some (some (some 92)), some (some (some 93)), some (some (some 94)), some (some (some 95)), none, none, none, none, none]) (S' := K84) C (gk (by decide +kernel)) (gk (by decide +kernel)) rfl (vin (by decide +kernel)) dX1_init_33 rfl rfl ?_
  refine r_iinc (pc' := 37) (v := 13) (lv2 := [(1, .int 13), (0, .ref 29)]) C dX1_init_34 rfl 0 rfl (by decide) (Nat.le_of_ble_eq_true rfl) rfl ?_
  refine r_goto (tgt := 15) C dX1_init_37 rfl ?_
  refine r_iload_n (pc' := 16) C dX1_init_15 rfl 0 rfl ?_
  refine r_bipush (pc' := 18) C dX1_init_16 rfl kb_16 ?_
  refine r_icmp_ge (tgt := 40) (pc' := 21) C dX1_init_18 rfl rfl (fun c => absurd c (by decide)) (fun _ => ?_)
  refine r_aload_n (pc' := 22) C dX1_init_21 rfl 1 rfl ?_
  refine r_getR (pc' := 25) (fks := [some (some (some 30)), none, none]) C flX1_13 (gk (by decide +kernel)) rfl dX1_init_22 rfl ?_
  refine r_iload_n (pc' := 26) C dX1_init_25 rfl 0 rfl ?_
  refine r_new (pc' := 29) (ci := 5) (q := (RX5, TX5, 9)) (fks := [some none, some none, some none, some none, none, none, none, none, none]) C tyX5 rfl ci_5 tyX5_ok wcX1_11 wn_5 wt_5 (by decide +kernel) (by decide +kernel) cK84 (okV_of (by decide +kernel)) (by decide) (by decide) dX1_init_26 rfl (fun E28 Y28 C => ?_)
  have X := X.trans Y28 (by decide +kernel)
  refine r_SG (S2 := K85) (σ2 := H54) rfl rfl ?_
  show Wm _ _ _ _ _ _ _ [(1, .int 13), (0, .ref 29)] [.ref 96, .int 13, .ref 30]
  refine r_dup (pc' := 30) C dX1_init_29 rfl rfl ?_
  refine r_callN (pc' := 33) C (X5_init_c (S := K85) (σ := H54) (k := 96) cK85 (by decide +kernel) (gk (by decide +kernel))) (Or.inl ⟨_, liX1_17⟩) ceX5_init ciX5_init rfl hNm.az cK85 (okV_of (by decide +kernel)) rfl (Nat.le_of_ble_eq_true rfl) rfl (Nat.le_of_ble_eq_true rfl) ⟨by decide, by decide⟩ dX1_init_30 rfl (fun E29 Y29 C => ?_)
  have X := X.trans Y29 (by decide +kernel)
  refine r_SG (S2 := K86) (σ2 := H55) rfl rfl ?_
  refine r_aast (pc' := 34) (q := (RX5, TX5, 9)) (ci := 5) (l := [some 31, some 36, some 41, some 46, some 51, some 56, some 61, some 66, some 71, some 76, some 81, some 86, some 91, none, none, none]) (fks := [some (some (some 97)), some (some (some 98)), some (some (some 99)), some (some (some 100)), none, none, none, none, none]) (S' := K87) C (gk (by decide +kernel)) (gk (by decide +kernel)) rfl (vin (by decide +kernel)) dX1_init_33 rfl rfl ?_
  refine r_iinc (pc' := 37) (v := 14) (lv2 := [(1, .int 14), (0, .ref 29)]) C dX1_init_34 rfl 0 rfl (by decide) (Nat.le_of_ble_eq_true rfl) rfl ?_
  refine r_goto (tgt := 15) C dX1_init_37 rfl ?_
  refine r_iload_n (pc' := 16) C dX1_init_15 rfl 0 rfl ?_
  refine r_bipush (pc' := 18) C dX1_init_16 rfl kb_16 ?_
  refine r_icmp_ge (tgt := 40) (pc' := 21) C dX1_init_18 rfl rfl (fun c => absurd c (by decide)) (fun _ => ?_)
  refine r_aload_n (pc' := 22) C dX1_init_21 rfl 1 rfl ?_
  refine r_getR (pc' := 25) (fks := [some (some (some 30)), none, none]) C flX1_13 (gk (by decide +kernel)) rfl dX1_init_22 rfl ?_
  refine r_iload_n (pc' := 26) C dX1_init_25 rfl 0 rfl ?_
  refine r_new (pc' := 29) (ci := 5) (q := (RX5, TX5, 9)) (fks := [some none, some none, some none, some none, none, none, none, none, none]) C tyX5 rfl ci_5 tyX5_ok wcX1_11 wn_5 wt_5 (by decide +kernel) (by decide +kernel) cK87 (okV_of (by decide +kernel)) (by decide) (by decide) dX1_init_26 rfl (fun E30 Y30 C => ?_)
  have X := X.trans Y30 (by decide +kernel)
  refine r_SG (S2 := K88) (σ2 := H56) rfl rfl ?_
  show Wm _ _ _ _ _ _ _ [(1, .int 14), (0, .ref 29)] [.ref 101, .int 14, .ref 30]
  refine r_dup (pc' := 30) C dX1_init_29 rfl rfl ?_
  refine r_callN (pc' := 33) C (X5_init_c (S := K88) (σ := H56) (k := 101) cK88 (by decide +kernel) (gk (by decide +kernel))) (Or.inl ⟨_, liX1_17⟩) ceX5_init ciX5_init rfl hNm.az cK88 (okV_of (by decide +kernel)) rfl (Nat.le_of_ble_eq_true rfl) rfl (Nat.le_of_ble_eq_true rfl) ⟨by decide, by decide⟩ dX1_init_30 rfl (fun E31 Y31 C => ?_)
  have X := X.trans Y31 (by decide +kernel)
  refine r_SG (S2 := K89) (σ2 := H57) rfl rfl ?_
  refine r_aast (pc' := 34) (q := (RX5, TX5, 9)) (ci := 5) (l := [some 31, some 36, some 41, some 46, some 51, some 56, some 61, some 66, some 71, some 76, some 81, some 86, some 91, some 96, none, none]) (fks := [some (some (some 102)), some (some (some 103)), some (some (some 104)), some (some (some 105)), none, none, none, none, none]) (S' := K90) C (gk (by decide +kernel)) (gk (by decide +kernel)) rfl (vin (by decide +kernel)) dX1_init_33 rfl rfl ?_
  refine r_iinc (pc' := 37) (v := 15) (lv2 := [(1, .int 15), (0, .ref 29)]) C dX1_init_34 rfl 0 rfl (by decide) (Nat.le_of_ble_eq_true rfl) rfl ?_
  refine r_goto (tgt := 15) C dX1_init_37 rfl ?_
  refine r_iload_n (pc' := 16) C dX1_init_15 rfl 0 rfl ?_
  refine r_bipush (pc' := 18) C dX1_init_16 rfl kb_16 ?_
  refine r_icmp_ge (tgt := 40) (pc' := 21) C dX1_init_18 rfl rfl (fun c => absurd c (by decide)) (fun _ => ?_)
  refine r_aload_n (pc' := 22) C dX1_init_21 rfl 1 rfl ?_
  refine r_getR (pc' := 25) (fks := [some (some (some 30)), none, none]) C flX1_13 (gk (by decide +kernel)) rfl dX1_init_22 rfl ?_
  refine r_iload_n (pc' := 26) C dX1_init_25 rfl 0 rfl ?_
  refine r_new (pc' := 29) (ci := 5) (q := (RX5, TX5, 9)) (fks := [some none, some none, some none, some none, none, none, none, none, none]) C tyX5 rfl ci_5 tyX5_ok wcX1_11 wn_5 wt_5 (by decide +kernel) (by decide +kernel) cK90 (okV_of (by decide +kernel)) (by decide) (by decide) dX1_init_26 rfl (fun E32 Y32 C => ?_)
  have X := X.trans Y32 (by decide +kernel)
  refine r_SG (S2 := K91) (σ2 := H58) rfl rfl ?_
  show Wm _ _ _ _ _ _ _ [(1, .int 15), (0, .ref 29)] [.ref 106, .int 15, .ref 30]
  refine r_dup (pc' := 30) C dX1_init_29 rfl rfl ?_
  refine r_callN (pc' := 33) C (X5_init_c (S := K91) (σ := H58) (k := 106) cK91 (by decide +kernel) (gk (by decide +kernel))) (Or.inl ⟨_, liX1_17⟩) ceX5_init ciX5_init rfl hNm.az cK91 (okV_of (by decide +kernel)) rfl (Nat.le_of_ble_eq_true rfl) rfl (Nat.le_of_ble_eq_true rfl) ⟨by decide, by decide⟩ dX1_init_30 rfl (fun E33 Y33 C => ?_)
  have X := X.trans Y33 (by decide +kernel)
  refine r_SG (S2 := K92) (σ2 := H59) rfl rfl ?_
  refine r_aast (pc' := 34) (q := (RX5, TX5, 9)) (ci := 5) (l := [some 31, some 36, some 41, some 46, some 51, some 56, some 61, some 66, some 71, some 76, some 81, some 86, some 91, some 96, some 101, none]) (fks := [some (some (some 107)), some (some (some 108)), some (some (some 109)), some (some (some 110)), none, none, none, none, none]) (S' := K93) C (gk (by decide +kernel)) (gk (by decide +kernel)) rfl (vin (by decide +kernel)) dX1_init_33 rfl rfl ?_
  refine r_iinc (pc' := 37) (v := 16) (lv2 := [(1, .int 16), (0, .ref 29)]) C dX1_init_34 rfl 0 rfl (by decide) (Nat.le_of_ble_eq_true rfl) rfl ?_
  refine r_goto (tgt := 15) C dX1_init_37 rfl ?_
  refine r_iload_n (pc' := 16) C dX1_init_15 rfl 0 rfl ?_
  refine r_bipush (pc' := 18) C dX1_init_16 rfl kb_16 ?_
  refine r_icmp_ge (tgt := 40) (pc' := 21) C dX1_init_18 rfl rfl (fun _ => ?_) (fun c => absurd (by decide) c)
  exact r_vretN C X hE dX1_init_40
def K94 : List Sh := K93.set 0 (.inl (8, [some (some (some 1)), some (some (some 3)), some (some (some 5)), some (some (some 19)), some (some (some 24)), some (some (some 29)), some none, some none, some none, some none, some none, some none, some none, some none, some none]))
theorem cK94 : Cl K94 := Cl_of (by decide +kernel)
def K95 : List Sh := K94 ++ ([.inl (4, [some none, none])] : List Sh)
theorem cK95 : Cl K95 := Cl_of (by decide +kernel)
def H60 : Sg := zi H59 111
def K96 : List Sh := K95 ++ ([.inr (.inr (.inr (.object "BorrowedWeight$State", [none, none, none])))] : List Sh)
theorem cK96 : Cl K96 := Cl_of (by decide +kernel)
def H61 : Sg := zi H60 112
def K97 : List Sh := K96.set 111 (.inl (4, [some (some (some 112)), none]))
theorem cK97 : Cl K97 := Cl_of (by decide +kernel)
def K98 : List Sh := K97 ++ ([.inl (5, [some none, some none, some none, some none, none, none, none, none, none])] : List Sh)
theorem cK98 : Cl K98 := Cl_of (by decide +kernel)
def H62 : Sg := zi H61 113
def K99 : List Sh := stS K98 113
theorem cK99 : Cl K99 := Cl_of (by decide +kernel)
def H63 : Sg := stG H62 113 114
def K100 : List Sh := K99.set 112 (.inr (.inr (.inr (.object "BorrowedWeight$State", [some 113, none, none]))))
theorem cK100 : Cl K100 := Cl_of (by decide +kernel)
def K101 : List Sh := K100 ++ ([.inl (5, [some none, some none, some none, some none, none, none, none, none, none])] : List Sh)
theorem cK101 : Cl K101 := Cl_of (by decide +kernel)
def H64 : Sg := zi H63 118
def K102 : List Sh := stS K101 118
theorem cK102 : Cl K102 := Cl_of (by decide +kernel)
def H65 : Sg := stG H64 118 119
def K103 : List Sh := K102.set 112 (.inr (.inr (.inr (.object "BorrowedWeight$State", [some 113, some 118, none]))))
theorem cK103 : Cl K103 := Cl_of (by decide +kernel)
def K104 : List Sh := K103 ++ ([.inl (5, [some none, some none, some none, some none, none, none, none, none, none])] : List Sh)
theorem cK104 : Cl K104 := Cl_of (by decide +kernel)
def H66 : Sg := zi H65 123
def K105 : List Sh := stS K104 123
theorem cK105 : Cl K105 := Cl_of (by decide +kernel)
def H67 : Sg := stG H66 123 124
def K106 : List Sh := K105.set 112 (.inr (.inr (.inr (.object "BorrowedWeight$State", [some 113, some 118, some 123]))))
theorem cK106 : Cl K106 := Cl_of (by decide +kernel)
set_option maxRecDepth 100000 in
set_option maxHeartbeats 4000000 in
theorem X4_init_c111 {E : Ev} : Cn E 3 yX4_init cX4_init 2 [.ref 111] K95 K106 H60 H67 16 126 := by
  refine Cn.intro (by decide +kernel) rfl (Nat.le_of_ble_eq_true rfl) (fun Z C hNm hE => ?_)
  show Wm E Z 0 0 K95 H60 0 [(0, .ref 111)] []
  refine r_aload_n (pc' := 1) C dX4_init_0 rfl 0 rfl ?_
  refine r_objI (pc' := 4) C olX4_1 ow_i ow_c (Nat.le_of_ble_eq_true rfl) dX4_init_1 rfl ?_
  refine r_aload_n (pc' := 5) C dX4_init_4 rfl 0 rfl ?_
  refine r_iconst (pc' := 6) C dX4_init_5 rfl kc_3 ?_
  refine r_anew (pc' := 9) (N := 3) C wcX4_9 hNm cK95 (okV_of (by decide +kernel)) (by decide) (by decide) (by decide) (by decide) (by decide) dX4_init_6 rfl (fun E1 Y1 C => ?_)
  have X := Y1
  refine r_SG (S2 := K96) (σ2 := H61) rfl rfl ?_
  show Wm _ _ _ _ _ _ _ [(0, .ref 111)] [.ref 112, .ref 111]
  refine r_putR (pc' := 12) (S' := K97) (fks := [some none, none]) C hNm fcX4_11 ⟨_, rfl, rfl⟩ (gk (by decide +kernel)) rfl (fun _ => rfl) (fun _ => rfl) dX4_init_9 rfl rfl ?_
  refine r_iconst (pc' := 13) C dX4_init_12 rfl kc_0 ?_
  refine r_istore_n (pc' := 14) (lv2 := [(1, .int 0), (0, .ref 111)]) C dX4_init_13 rfl rfl (Nat.le_of_ble_eq_true rfl) rfl ?_
  refine r_iload_n (pc' := 15) C dX4_init_14 rfl 0 rfl ?_
  refine r_iconst (pc' := 16) C dX4_init_15 rfl kc_3 ?_
  refine r_icmp_ge (tgt := 38) (pc' := 19) C dX4_init_16 rfl rfl (fun c => absurd c (by decide)) (fun _ => ?_)
  refine r_aload_n (pc' := 20) C dX4_init_19 rfl 1 rfl ?_
  refine r_getR (pc' := 23) (fks := [some (some (some 112)), none]) C flX4_11 (gk (by decide +kernel)) rfl dX4_init_20 rfl ?_
  refine r_iload_n (pc' := 24) C dX4_init_23 rfl 0 rfl ?_
  refine r_new (pc' := 27) (ci := 5) (q := (RX5, TX5, 9)) (fks := [some none, some none, some none, some none, none, none, none, none, none]) C tyX5 rfl ci_5 tyX5_ok wcX4_9 wn_5 wt_5 (by decide +kernel) (by decide +kernel) cK97 (okV_of (by decide +kernel)) (by decide) (by decide) dX4_init_24 rfl (fun E2 Y2 C => ?_)
  have X := X.trans Y2 (by decide +kernel)
  refine r_SG (S2 := K98) (σ2 := H62) rfl rfl ?_
  show Wm _ _ _ _ _ _ _ [(1, .int 0), (0, .ref 111)] [.ref 113, .int 0, .ref 112]
  refine r_dup (pc' := 28) C dX4_init_27 rfl rfl ?_
  refine r_callN (pc' := 31) C (X5_init_c (S := K98) (σ := H62) (k := 113) cK98 (by decide +kernel) (gk (by decide +kernel))) (Or.inl ⟨_, liX4_15⟩) ceX5_init ciX5_init rfl hNm.az cK98 (okV_of (by decide +kernel)) rfl (Nat.le_of_ble_eq_true rfl) rfl (Nat.le_of_ble_eq_true rfl) ⟨by decide, by decide⟩ dX4_init_28 rfl (fun E3 Y3 C => ?_)
  have X := X.trans Y3 (by decide +kernel)
  refine r_SG (S2 := K99) (σ2 := H63) rfl rfl ?_
  refine r_aast (pc' := 32) (q := (RX5, TX5, 9)) (ci := 5) (l := [none, none, none]) (fks := [some (some (some 114)), some (some (some 115)), some (some (some 116)), some (some (some 117)), none, none, none, none, none]) (S' := K100) C (gk (by decide +kernel)) (gk (by decide +kernel)) rfl (vin (by decide +kernel)) dX4_init_31 rfl rfl ?_
  refine r_iinc (pc' := 35) (v := 1) (lv2 := [(1, .int 1), (0, .ref 111)]) C dX4_init_32 rfl 0 rfl (by decide) (Nat.le_of_ble_eq_true rfl) rfl ?_
  refine r_goto (tgt := 14) C dX4_init_35 rfl ?_
  refine r_iload_n (pc' := 15) C dX4_init_14 rfl 0 rfl ?_
  refine r_iconst (pc' := 16) C dX4_init_15 rfl kc_3 ?_
  refine r_icmp_ge (tgt := 38) (pc' := 19) C dX4_init_16 rfl rfl (fun c => absurd c (by decide)) (fun _ => ?_)
  refine r_aload_n (pc' := 20) C dX4_init_19 rfl 1 rfl ?_
  refine r_getR (pc' := 23) (fks := [some (some (some 112)), none]) C flX4_11 (gk (by decide +kernel)) rfl dX4_init_20 rfl ?_
  refine r_iload_n (pc' := 24) C dX4_init_23 rfl 0 rfl ?_
  refine r_new (pc' := 27) (ci := 5) (q := (RX5, TX5, 9)) (fks := [some none, some none, some none, some none, none, none, none, none, none]) C tyX5 rfl ci_5 tyX5_ok wcX4_9 wn_5 wt_5 (by decide +kernel) (by decide +kernel) cK100 (okV_of (by decide +kernel)) (by decide) (by decide) dX4_init_24 rfl (fun E4 Y4 C => ?_)
  have X := X.trans Y4 (by decide +kernel)
  refine r_SG (S2 := K101) (σ2 := H64) rfl rfl ?_
  show Wm _ _ _ _ _ _ _ [(1, .int 1), (0, .ref 111)] [.ref 118, .int 1, .ref 112]
  refine r_dup (pc' := 28) C dX4_init_27 rfl rfl ?_
  refine r_callN (pc' := 31) C (X5_init_c (S := K101) (σ := H64) (k := 118) cK101 (by decide +kernel) (gk (by decide +kernel))) (Or.inl ⟨_, liX4_15⟩) ceX5_init ciX5_init rfl hNm.az cK101 (okV_of (by decide +kernel)) rfl (Nat.le_of_ble_eq_true rfl) rfl (Nat.le_of_ble_eq_true rfl) ⟨by decide, by decide⟩ dX4_init_28 rfl (fun E5 Y5 C => ?_)
  have X := X.trans Y5 (by decide +kernel)
  refine r_SG (S2 := K102) (σ2 := H65) rfl rfl ?_
  refine r_aast (pc' := 32) (q := (RX5, TX5, 9)) (ci := 5) (l := [some 113, none, none]) (fks := [some (some (some 119)), some (some (some 120)), some (some (some 121)), some (some (some 122)), none, none, none, none, none]) (S' := K103) C (gk (by decide +kernel)) (gk (by decide +kernel)) rfl (vin (by decide +kernel)) dX4_init_31 rfl rfl ?_
  refine r_iinc (pc' := 35) (v := 2) (lv2 := [(1, .int 2), (0, .ref 111)]) C dX4_init_32 rfl 0 rfl (by decide) (Nat.le_of_ble_eq_true rfl) rfl ?_
  refine r_goto (tgt := 14) C dX4_init_35 rfl ?_
  refine r_iload_n (pc' := 15) C dX4_init_14 rfl 0 rfl ?_
  refine r_iconst (pc' := 16) C dX4_init_15 rfl kc_3 ?_
  refine r_icmp_ge (tgt := 38) (pc' := 19) C dX4_init_16 rfl rfl (fun c => absurd c (by decide)) (fun _ => ?_)
  refine r_aload_n (pc' := 20) C dX4_init_19 rfl 1 rfl ?_
  refine r_getR (pc' := 23) (fks := [some (some (some 112)), none]) C flX4_11 (gk (by decide +kernel)) rfl dX4_init_20 rfl ?_
  refine r_iload_n (pc' := 24) C dX4_init_23 rfl 0 rfl ?_
  refine r_new (pc' := 27) (ci := 5) (q := (RX5, TX5, 9)) (fks := [some none, some none, some none, some none, none, none, none, none, none]) C tyX5 rfl ci_5 tyX5_ok wcX4_9 wn_5 wt_5 (by decide +kernel) (by decide +kernel) cK103 (okV_of (by decide +kernel)) (by decide) (by decide) dX4_init_24 rfl (fun E6 Y6 C => ?_)
  have X := X.trans Y6 (by decide +kernel)
  refine r_SG (S2 := K104) (σ2 := H66) rfl rfl ?_
  show Wm _ _ _ _ _ _ _ [(1, .int 2), (0, .ref 111)] [.ref 123, .int 2, .ref 112]
  refine r_dup (pc' := 28) C dX4_init_27 rfl rfl ?_
  refine r_callN (pc' := 31) C (X5_init_c (S := K104) (σ := H66) (k := 123) cK104 (by decide +kernel) (gk (by decide +kernel))) (Or.inl ⟨_, liX4_15⟩) ceX5_init ciX5_init rfl hNm.az cK104 (okV_of (by decide +kernel)) rfl (Nat.le_of_ble_eq_true rfl) rfl (Nat.le_of_ble_eq_true rfl) ⟨by decide, by decide⟩ dX4_init_28 rfl (fun E7 Y7 C => ?_)
  have X := X.trans Y7 (by decide +kernel)
  refine r_SG (S2 := K105) (σ2 := H67) rfl rfl ?_
  refine r_aast (pc' := 32) (q := (RX5, TX5, 9)) (ci := 5) (l := [some 113, some 118, none]) (fks := [some (some (some 124)), some (some (some 125)), some (some (some 126)), some (some (some 127)), none, none, none, none, none]) (S' := K106) C (gk (by decide +kernel)) (gk (by decide +kernel)) rfl (vin (by decide +kernel)) dX4_init_31 rfl rfl ?_
  refine r_iinc (pc' := 35) (v := 3) (lv2 := [(1, .int 3), (0, .ref 111)]) C dX4_init_32 rfl 0 rfl (by decide) (Nat.le_of_ble_eq_true rfl) rfl ?_
  refine r_goto (tgt := 14) C dX4_init_35 rfl ?_
  refine r_iload_n (pc' := 15) C dX4_init_14 rfl 0 rfl ?_
  refine r_iconst (pc' := 16) C dX4_init_15 rfl kc_3 ?_
  refine r_icmp_ge (tgt := 38) (pc' := 19) C dX4_init_16 rfl rfl (fun _ => ?_) (fun c => absurd (by decide) c)
  exact r_vretN C X hE dX4_init_38
def K107 : List Sh := K106.set 0 (.inl (8, [some (some (some 1)), some (some (some 3)), some (some (some 5)), some (some (some 19)), some (some (some 24)), some (some (some 29)), some (some (some 111)), some none, some none, some none, some none, some none, some none, some none, some none]))
theorem cK107 : Cl K107 := Cl_of (by decide +kernel)
def K108 : List Sh := K107 ++ ([.inl (7, [some none, some none, some none, none, some none, none])] : List Sh)
theorem cK108 : Cl K108 := Cl_of (by decide +kernel)
def H68 : Sg := zi H67 128
def K109 : List Sh := K108 ++ ([.inr (.inl (.int, 10))] : List Sh)
theorem cK109 : Cl K109 := Cl_of (by decide +kernel)
def H69 : Sg := zi H68 129
def K110 : List Sh := K109.set 128 (.inl (7, [some (some (some 129)), some none, some none, none, some none, none]))
theorem cK110 : Cl K110 := Cl_of (by decide +kernel)
def K111 : List Sh := K110 ++ ([.inr (.inl (.int, 10))] : List Sh)
theorem cK111 : Cl K111 := Cl_of (by decide +kernel)
def H70 : Sg := zi H69 130
def K112 : List Sh := K111.set 128 (.inl (7, [some (some (some 129)), some (some (some 130)), some none, none, some none, none]))
theorem cK112 : Cl K112 := Cl_of (by decide +kernel)
def K113 : List Sh := K112 ++ ([.inr (.inl (.int, 10))] : List Sh)
theorem cK113 : Cl K113 := Cl_of (by decide +kernel)
def H71 : Sg := zi H70 131
def K114 : List Sh := K113.set 128 (.inl (7, [some (some (some 129)), some (some (some 130)), some (some (some 131)), none, some none, none]))
theorem cK114 : Cl K114 := Cl_of (by decide +kernel)
def K115 : List Sh := K114 ++ ([.inr (.inr (.inr (.array .int, [some 133, some 134, some 135, some 136, some 137, some 138, some 139, some 140, some 141]))), .inr (.inl (.int, 21)), .inr (.inl (.int, 21)), .inr (.inl (.int, 21)), .inr (.inl (.int, 21)), .inr (.inl (.int, 21)), .inr (.inl (.int, 21)), .inr (.inl (.int, 21)), .inr (.inl (.int, 21)), .inr (.inl (.int, 21))] : List Sh)
theorem cK115 : Cl K115 := Cl_of (by decide +kernel)
def H72 : Sg := mnaG H71 132
def K116 : List Sh := K115.set 128 (.inl (7, [some (some (some 129)), some (some (some 130)), some (some (some 131)), none, some (some (some 132)), none]))
theorem cK116 : Cl K116 := Cl_of (by decide +kernel)
set_option maxRecDepth 100000 in
set_option maxHeartbeats 4000000 in
theorem X7_init_c128 {E : Ev} : Cn E 2 yX7_init cX7_init 1 [.ref 128] K108 K116 H68 H72 13 228 := by
  refine Cn.intro (by decide +kernel) rfl (Nat.le_of_ble_eq_true rfl) (fun Z C hNm hE => ?_)
  show Wm E Z 0 0 K108 H68 0 [(0, .ref 128)] []
  refine r_aload_n (pc' := 1) C dX7_init_0 rfl 0 rfl ?_
  refine r_objI (pc' := 4) C olX7_3 ow_i ow_c (Nat.le_of_ble_eq_true rfl) dX7_init_1 rfl ?_
  refine r_aload_n (pc' := 5) C dX7_init_4 rfl 0 rfl ?_
  refine r_bipush (pc' := 7) C dX7_init_5 rfl kb_10 ?_
  refine r_newa (pc' := 9) (aty := .int) (N := 10) (x := .inr (.inl (.int, 10))) C aw_int (Or.inl ⟨rfl, cell_int 10⟩) cK108 (okV_of (by decide +kernel)) (by decide) (by decide) (by decide) (by decide) (by decide) dX7_init_7 rfl (fun E1 Y1 C => ?_)
  have X := Y1
  refine r_SG (S2 := K109) (σ2 := H69) rfl rfl ?_
  show Wm _ _ _ _ _ _ _ [(0, .ref 128)] [.ref 129, .ref 128]
  refine r_putR (pc' := 12) (S' := K110) (fks := [some none, some none, some none, none, some none, none]) C hNm fcX7_11 ⟨_, rfl, rfl⟩ (gk (by decide +kernel)) rfl (fun _ => rfl) (fun _ => rfl) dX7_init_9 rfl rfl ?_
  refine r_aload_n (pc' := 13) C dX7_init_12 rfl 0 rfl ?_
  refine r_bipush (pc' := 15) C dX7_init_13 rfl kb_10 ?_
  refine r_newa (pc' := 17) (aty := .int) (N := 10) (x := .inr (.inl (.int, 10))) C aw_int (Or.inl ⟨rfl, cell_int 10⟩) cK110 (okV_of (by decide +kernel)) (by decide) (by decide) (by decide) (by decide) (by decide) dX7_init_15 rfl (fun E2 Y2 C => ?_)
  have X := X.trans Y2 (by decide +kernel)
  refine r_SG (S2 := K111) (σ2 := H70) rfl rfl ?_
  show Wm _ _ _ _ _ _ _ [(0, .ref 128)] [.ref 130, .ref 128]
  refine r_putR (pc' := 20) (S' := K112) (fks := [some (some (some 129)), some none, some none, none, some none, none]) C hNm fcX7_15 ⟨_, rfl, rfl⟩ (gk (by decide +kernel)) rfl (fun _ => rfl) (fun _ => rfl) dX7_init_17 rfl rfl ?_
  refine r_aload_n (pc' := 21) C dX7_init_20 rfl 0 rfl ?_
  refine r_bipush (pc' := 23) C dX7_init_21 rfl kb_10 ?_
  refine r_newa (pc' := 25) (aty := .int) (N := 10) (x := .inr (.inl (.int, 10))) C aw_int (Or.inl ⟨rfl, cell_int 10⟩) cK112 (okV_of (by decide +kernel)) (by decide) (by decide) (by decide) (by decide) (by decide) dX7_init_23 rfl (fun E3 Y3 C => ?_)
  have X := X.trans Y3 (by decide +kernel)
  refine r_SG (S2 := K113) (σ2 := H71) rfl rfl ?_
  show Wm _ _ _ _ _ _ _ [(0, .ref 128)] [.ref 131, .ref 128]
  refine r_putR (pc' := 28) (S' := K114) (fks := [some (some (some 129)), some (some (some 130)), some none, none, some none, none]) C hNm fcX7_18 ⟨_, rfl, rfl⟩ (gk (by decide +kernel)) rfl (fun _ => rfl) (fun _ => rfl) dX7_init_25 rfl rfl ?_
  refine r_aload_n (pc' := 29) C dX7_init_28 rfl 0 rfl ?_
  refine r_bipush (pc' := 31) C dX7_init_29 rfl kb_9 ?_
  refine r_bipush (pc' := 33) C dX7_init_31 rfl kb_21 ?_
  refine r_mna (pc' := 37) (k0 := 129) (n0 := 10) C hNm (gk (by decide +kernel)) wcX7_21 aw_int cK114 (by decide +kernel) (okV_of (by decide +kernel)) (by decide) (by decide) dX7_init_33 rfl (fun E4 Y4 C => ?_)
  have X := X.trans Y4 (by decide +kernel)
  refine r_SG (S2 := K115) (σ2 := H72) rfl rfl ?_
  show Wm _ _ _ _ _ _ _ [(0, .ref 128)] [.ref 132, .ref 128]
  refine r_putR (pc' := 40) (S' := K116) (fks := [some (some (some 129)), some (some (some 130)), some (some (some 131)), none, some none, none]) C hNm fcX7_23 ⟨_, rfl, rfl⟩ (gk (by decide +kernel)) rfl (fun _ => rfl) (fun _ => rfl) dX7_init_37 rfl rfl ?_
  exact r_vretN C X hE dX7_init_40
def K117 : List Sh := K116.set 0 (.inl (8, [some (some (some 1)), some (some (some 3)), some (some (some 5)), some (some (some 19)), some (some (some 24)), some (some (some 29)), some (some (some 111)), some (some (some 128)), some none, some none, some none, some none, some none, some none, some none]))
theorem cK117 : Cl K117 := Cl_of (by decide +kernel)
def K118 : List Sh := K117 ++ ([.inr (.inl (.int, 8))] : List Sh)
theorem cK118 : Cl K118 := Cl_of (by decide +kernel)
def H73 : Sg := zi H72 142
def K119 : List Sh := K118.set 0 (.inl (8, [some (some (some 1)), some (some (some 3)), some (some (some 5)), some (some (some 19)), some (some (some 24)), some (some (some 29)), some (some (some 111)), some (some (some 128)), some (some (some 142)), some none, some none, some none, some none, some none, some none]))
theorem cK119 : Cl K119 := Cl_of (by decide +kernel)
def K120 : List Sh := K119 ++ ([.inr (.inl (.int, 256))] : List Sh)
theorem cK120 : Cl K120 := Cl_of (by decide +kernel)
def H74 : Sg := zi H73 143
def K121 : List Sh := K120.set 0 (.inl (8, [some (some (some 1)), some (some (some 3)), some (some (some 5)), some (some (some 19)), some (some (some 24)), some (some (some 29)), some (some (some 111)), some (some (some 128)), some (some (some 142)), some (some (some 143)), some none, some none, some none, some none, some none]))
theorem cK121 : Cl K121 := Cl_of (by decide +kernel)
def K122 : List Sh := K121 ++ ([.inr (.inl (.int, 256))] : List Sh)
theorem cK122 : Cl K122 := Cl_of (by decide +kernel)
def H75 : Sg := zi H74 144
def K123 : List Sh := K122.set 0 (.inl (8, [some (some (some 1)), some (some (some 3)), some (some (some 5)), some (some (some 19)), some (some (some 24)), some (some (some 29)), some (some (some 111)), some (some (some 128)), some (some (some 142)), some (some (some 143)), some (some (some 144)), some none, some none, some none, some none]))
theorem cK123 : Cl K123 := Cl_of (by decide +kernel)
def K124 : List Sh := K123 ++ ([.inr (.inl (.int, 13))] : List Sh)
theorem cK124 : Cl K124 := Cl_of (by decide +kernel)
def H76 : Sg := zi H75 145
def K125 : List Sh := K124.set 0 (.inl (8, [some (some (some 1)), some (some (some 3)), some (some (some 5)), some (some (some 19)), some (some (some 24)), some (some (some 29)), some (some (some 111)), some (some (some 128)), some (some (some 142)), some (some (some 143)), some (some (some 144)), some (some (some 145)), some none, some none, some none]))
theorem cK125 : Cl K125 := Cl_of (by decide +kernel)
def K126 : List Sh := K125 ++ ([.inr (.inl (.int, 12))] : List Sh)
theorem cK126 : Cl K126 := Cl_of (by decide +kernel)
def H77 : Sg := zi H76 146
def K127 : List Sh := K126.set 0 (.inl (8, [some (some (some 1)), some (some (some 3)), some (some (some 5)), some (some (some 19)), some (some (some 24)), some (some (some 29)), some (some (some 111)), some (some (some 128)), some (some (some 142)), some (some (some 143)), some (some (some 144)), some (some (some 145)), some (some (some 146)), some none, some none]))
theorem cK127 : Cl K127 := Cl_of (by decide +kernel)
def K128 : List Sh := K127 ++ ([.inr (.inl (.int, 12))] : List Sh)
theorem cK128 : Cl K128 := Cl_of (by decide +kernel)
def H78 : Sg := zi H77 147
def K129 : List Sh := K128.set 0 (.inl (8, [some (some (some 1)), some (some (some 3)), some (some (some 5)), some (some (some 19)), some (some (some 24)), some (some (some 29)), some (some (some 111)), some (some (some 128)), some (some (some 142)), some (some (some 143)), some (some (some 144)), some (some (some 145)), some (some (some 146)), some (some (some 147)), some none]))
theorem cK129 : Cl K129 := Cl_of (by decide +kernel)
def K130 : List Sh := K129 ++ ([.inr (.inl (.boolean, 441))] : List Sh)
theorem cK130 : Cl K130 := Cl_of (by decide +kernel)
def H79 : Sg := zi H78 148
def K131 : List Sh := K130.set 0 (.inl (8, [some (some (some 1)), some (some (some 3)), some (some (some 5)), some (some (some 19)), some (some (some 24)), some (some (some 29)), some (some (some 111)), some (some (some 128)), some (some (some 142)), some (some (some 143)), some (some (some 144)), some (some (some 145)), some (some (some 146)), some (some (some 147)), some (some (some 148))]))
theorem cK131 : Cl K131 := Cl_of (by decide +kernel)
set_option maxRecDepth 100000 in
set_option maxHeartbeats 4000000 in
theorem X8_init_c0 {E : Ev} : Cn E 10 yX8_init cX8_init 1 [.ref 0] K0 K131 H0 H79 148 2531 := by
  refine Cn.intro (by decide +kernel) rfl (Nat.le_of_ble_eq_true rfl) (fun Z C hNm hE => ?_)
  show Wm E Z 0 0 K0 H0 0 [(0, .ref 0)] []
  refine r_aload_n (pc' := 1) C dX8_init_0 rfl 0 rfl ?_
  refine r_objI (pc' := 4) C olX8_1 ow_i ow_c (Nat.le_of_ble_eq_true rfl) dX8_init_1 rfl ?_
  refine r_aload_n (pc' := 5) C dX8_init_4 rfl 0 rfl ?_
  refine r_new (pc' := 8) (ci := 6) (q := (RX6, TX6, 2)) (fks := [some none, none]) C tyX6 rfl ci_6 tyX6_ok wcX8_7 wn_6 wt_6 (by decide +kernel) (by decide +kernel) cK0 (okV_of (by decide +kernel)) (by decide) (by decide) dX8_init_5 rfl (fun E1 Y1 C => ?_)
  have X := Y1
  refine r_SG (S2 := K1) (σ2 := H1) rfl rfl ?_
  show Wm _ _ _ _ _ _ _ [(0, .ref 0)] [.ref 1, .ref 0]
  refine r_dup (pc' := 9) C dX8_init_8 rfl rfl ?_
  refine r_callN (pc' := 12) C X6_init_c1 (Or.inl ⟨_, liX8_9⟩) ceX6_init ciX6_init rfl hNm.az cK1 (okV_of (by decide +kernel)) rfl (Nat.le_of_ble_eq_true rfl) rfl (Nat.le_of_ble_eq_true rfl) ⟨by decide, by decide⟩ dX8_init_9 rfl (fun E2 Y2 C => ?_)
  have X := X.trans Y2 (by decide +kernel)
  refine r_SG (S2 := K3) (σ2 := H2) rfl rfl ?_
  refine r_putR (pc' := 15) (S' := K4) (fks := [some none, some none, some none, some none, some none, some none, some none, some none, some none, some none, some none, some none, some none, some none, some none]) C hNm fcX8_10 ⟨_, rfl, rfl⟩ (gk (by decide +kernel)) rfl (fun _ => rfl) (fun _ => rfl) dX8_init_12 rfl rfl ?_
  refine r_aload_n (pc' := 16) C dX8_init_15 rfl 0 rfl ?_
  refine r_new (pc' := 19) (ci := 2) (q := (RX2, TX2, 2)) (fks := [some none, none]) C tyX2 rfl ci_2 tyX2_ok wcX8_16 wn_2 wt_2 (by decide +kernel) (by decide +kernel) cK4 (okV_of (by decide +kernel)) (by decide) (by decide) dX8_init_16 rfl (fun E3 Y3 C => ?_)
  have X := X.trans Y3 (by decide +kernel)
  refine r_SG (S2 := K5) (σ2 := H3) rfl rfl ?_
  show Wm _ _ _ _ _ _ _ [(0, .ref 0)] [.ref 3, .ref 0]
  refine r_dup (pc' := 20) C dX8_init_19 rfl rfl ?_
  refine r_callN (pc' := 23) C X2_init_c3 (Or.inl ⟨_, liX8_18⟩) ceX2_init ciX2_init rfl hNm.az cK5 (okV_of (by decide +kernel)) rfl (Nat.le_of_ble_eq_true rfl) rfl (Nat.le_of_ble_eq_true rfl) ⟨by decide, by decide⟩ dX8_init_20 rfl (fun E4 Y4 C => ?_)
  have X := X.trans Y4 (by decide +kernel)
  refine r_SG (S2 := K7) (σ2 := H4) rfl rfl ?_
  refine r_putR (pc' := 26) (S' := K8) (fks := [some (some (some 1)), some none, some none, some none, some none, some none, some none, some none, some none, some none, some none, some none, some none, some none, some none]) C hNm fcX8_19 ⟨_, rfl, rfl⟩ (gk (by decide +kernel)) rfl (fun _ => rfl) (fun _ => rfl) dX8_init_23 rfl rfl ?_
  refine r_aload_n (pc' := 27) C dX8_init_26 rfl 0 rfl ?_
  refine r_new (pc' := 30) (ci := 0) (q := (RX0, TX0, 10)) (fks := [some none, none, some none, some none, some none, some none, none, some none, none, some none]) C tyX0 rfl ci_0 tyX0_ok wcX8_23 wn_0 wt_0 (by decide +kernel) (by decide +kernel) cK8 (okV_of (by decide +kernel)) (by decide) (by decide) dX8_init_27 rfl (fun E5 Y5 C => ?_)
  have X := X.trans Y5 (by decide +kernel)
  refine r_SG (S2 := K9) (σ2 := H5) rfl rfl ?_
  show Wm _ _ _ _ _ _ _ [(0, .ref 0)] [.ref 5, .ref 0]
  refine r_dup (pc' := 31) C dX8_init_30 rfl rfl ?_
  refine r_callN (pc' := 34) C X0_init_c5 (Or.inl ⟨_, liX8_25⟩) ceX0_init ciX0_init rfl hNm.az cK9 (okV_of (by decide +kernel)) rfl (Nat.le_of_ble_eq_true rfl) rfl (Nat.le_of_ble_eq_true rfl) ⟨by decide, by decide⟩ dX8_init_31 rfl (fun E6 Y6 C => ?_)
  have X := X.trans Y6 (by decide +kernel)
  refine r_SG (S2 := K35) (σ2 := H21) rfl rfl ?_
  refine r_putR (pc' := 37) (S' := K36) (fks := [some (some (some 1)), some (some (some 3)), some none, some none, some none, some none, some none, some none, some none, some none, some none, some none, some none, some none, some none]) C hNm fcX8_26 ⟨_, rfl, rfl⟩ (gk (by decide +kernel)) rfl (fun _ => rfl) (fun _ => rfl) dX8_init_34 rfl rfl ?_
  refine r_aload_n (pc' := 38) C dX8_init_37 rfl 0 rfl ?_
  refine r_new (pc' := 41) (ci := 5) (q := (RX5, TX5, 9)) (fks := [some none, some none, some none, some none, none, none, none, none, none]) C tyX5 rfl ci_5 tyX5_ok wcX8_30 wn_5 wt_5 (by decide +kernel) (by decide +kernel) cK36 (okV_of (by decide +kernel)) (by decide) (by decide) dX8_init_38 rfl (fun E7 Y7 C => ?_)
  have X := X.trans Y7 (by decide +kernel)
  refine r_SG (S2 := K37) (σ2 := H22) rfl rfl ?_
  show Wm _ _ _ _ _ _ _ [(0, .ref 0)] [.ref 19, .ref 0]
  refine r_dup (pc' := 42) C dX8_init_41 rfl rfl ?_
  refine r_callN (pc' := 45) C (X5_init_c (S := K37) (σ := H22) (k := 19) cK37 (by decide +kernel) (gk (by decide +kernel))) (Or.inl ⟨_, liX8_32⟩) ceX5_init ciX5_init rfl hNm.az cK37 (okV_of (by decide +kernel)) rfl (Nat.le_of_ble_eq_true rfl) rfl (Nat.le_of_ble_eq_true rfl) ⟨by decide, by decide⟩ dX8_init_42 rfl (fun E8 Y8 C => ?_)
  have X := X.trans Y8 (by decide +kernel)
  refine r_SG (S2 := K38) (σ2 := H23) rfl rfl ?_
  refine r_putR (pc' := 48) (S' := K39) (fks := [some (some (some 1)), some (some (some 3)), some (some (some 5)), some none, some none, some none, some none, some none, some none, some none, some none, some none, some none, some none, some none]) C hNm fcX8_33 ⟨_, rfl, rfl⟩ (gk (by decide +kernel)) rfl (fun _ => rfl) (fun _ => rfl) dX8_init_45 rfl rfl ?_
  refine r_aload_n (pc' := 49) C dX8_init_48 rfl 0 rfl ?_
  refine r_new (pc' := 52) (ci := 5) (q := (RX5, TX5, 9)) (fks := [some none, some none, some none, some none, none, none, none, none, none]) C tyX5 rfl ci_5 tyX5_ok wcX8_30 wn_5 wt_5 (by decide +kernel) (by decide +kernel) cK39 (okV_of (by decide +kernel)) (by decide) (by decide) dX8_init_49 rfl (fun E9 Y9 C => ?_)
  have X := X.trans Y9 (by decide +kernel)
  refine r_SG (S2 := K40) (σ2 := H24) rfl rfl ?_
  show Wm _ _ _ _ _ _ _ [(0, .ref 0)] [.ref 24, .ref 0]
  refine r_dup (pc' := 53) C dX8_init_52 rfl rfl ?_
  refine r_callN (pc' := 56) C (X5_init_c (S := K40) (σ := H24) (k := 24) cK40 (by decide +kernel) (gk (by decide +kernel))) (Or.inl ⟨_, liX8_32⟩) ceX5_init ciX5_init rfl hNm.az cK40 (okV_of (by decide +kernel)) rfl (Nat.le_of_ble_eq_true rfl) rfl (Nat.le_of_ble_eq_true rfl) ⟨by decide, by decide⟩ dX8_init_53 rfl (fun E10 Y10 C => ?_)
  have X := X.trans Y10 (by decide +kernel)
  refine r_SG (S2 := K41) (σ2 := H25) rfl rfl ?_
  refine r_putR (pc' := 59) (S' := K42) (fks := [some (some (some 1)), some (some (some 3)), some (some (some 5)), some (some (some 19)), some none, some none, some none, some none, some none, some none, some none, some none, some none, some none, some none]) C hNm fcX8_37 ⟨_, rfl, rfl⟩ (gk (by decide +kernel)) rfl (fun _ => rfl) (fun _ => rfl) dX8_init_56 rfl rfl ?_
  refine r_aload_n (pc' := 60) C dX8_init_59 rfl 0 rfl ?_
  refine r_new (pc' := 63) (ci := 1) (q := (RX1, TX1, 3)) (fks := [some none, none, none]) C tyX1 rfl ci_1 tyX1_ok wcX8_40 wn_1 wt_1 (by decide +kernel) (by decide +kernel) cK42 (okV_of (by decide +kernel)) (by decide) (by decide) dX8_init_60 rfl (fun E11 Y11 C => ?_)
  have X := X.trans Y11 (by decide +kernel)
  refine r_SG (S2 := K43) (σ2 := H26) rfl rfl ?_
  show Wm _ _ _ _ _ _ _ [(0, .ref 0)] [.ref 29, .ref 0]
  refine r_dup (pc' := 64) C dX8_init_63 rfl rfl ?_
  refine r_callN (pc' := 67) C X1_init_c29 (Or.inr liX8_42) ceX1_init ciX1_init rfl hNm.az cK43 (okV_of (by decide +kernel)) rfl (Nat.le_of_ble_eq_true rfl) rfl (Nat.le_of_ble_eq_true rfl) ⟨by decide, by decide⟩ dX8_init_64 rfl (fun E12 Y12 C => ?_)
  have X := X.trans Y12 (by decide +kernel)
  refine r_SG (S2 := K93) (σ2 := H59) rfl rfl ?_
  refine r_putR (pc' := 70) (S' := K94) (fks := [some (some (some 1)), some (some (some 3)), some (some (some 5)), some (some (some 19)), some (some (some 24)), some none, some none, some none, some none, some none, some none, some none, some none, some none, some none]) C hNm fcX8_43 ⟨_, rfl, rfl⟩ (gk (by decide +kernel)) rfl (fun _ => rfl) (fun _ => rfl) dX8_init_67 rfl rfl ?_
  refine r_aload_n (pc' := 71) C dX8_init_70 rfl 0 rfl ?_
  refine r_new (pc' := 74) (ci := 4) (q := (RX4, TX4, 2)) (fks := [some none, none]) C tyX4 rfl ci_4 tyX4_ok wcX8_47 wn_4 wt_4 (by decide +kernel) (by decide +kernel) cK94 (okV_of (by decide +kernel)) (by decide) (by decide) dX8_init_71 rfl (fun E13 Y13 C => ?_)
  have X := X.trans Y13 (by decide +kernel)
  refine r_SG (S2 := K95) (σ2 := H60) rfl rfl ?_
  show Wm _ _ _ _ _ _ _ [(0, .ref 0)] [.ref 111, .ref 0]
  refine r_dup (pc' := 75) C dX8_init_74 rfl rfl ?_
  refine r_callN (pc' := 78) C X4_init_c111 (Or.inr liX8_49) ceX4_init ciX4_init rfl hNm.az cK95 (okV_of (by decide +kernel)) rfl (Nat.le_of_ble_eq_true rfl) rfl (Nat.le_of_ble_eq_true rfl) ⟨by decide, by decide⟩ dX8_init_75 rfl (fun E14 Y14 C => ?_)
  have X := X.trans Y14 (by decide +kernel)
  refine r_SG (S2 := K106) (σ2 := H67) rfl rfl ?_
  refine r_putR (pc' := 81) (S' := K107) (fks := [some (some (some 1)), some (some (some 3)), some (some (some 5)), some (some (some 19)), some (some (some 24)), some (some (some 29)), some none, some none, some none, some none, some none, some none, some none, some none, some none]) C hNm fcX8_50 ⟨_, rfl, rfl⟩ (gk (by decide +kernel)) rfl (fun _ => rfl) (fun _ => rfl) dX8_init_78 rfl rfl ?_
  refine r_aload_n (pc' := 82) C dX8_init_81 rfl 0 rfl ?_
  refine r_new (pc' := 85) (ci := 7) (q := (RX7, TX7, 6)) (fks := [some none, some none, some none, none, some none, none]) C tyX7 rfl ci_7 tyX7_ok wcX8_54 wn_7 wt_7 (by decide +kernel) (by decide +kernel) cK107 (okV_of (by decide +kernel)) (by decide) (by decide) dX8_init_82 rfl (fun E15 Y15 C => ?_)
  have X := X.trans Y15 (by decide +kernel)
  refine r_SG (S2 := K108) (σ2 := H68) rfl rfl ?_
  show Wm _ _ _ _ _ _ _ [(0, .ref 0)] [.ref 128, .ref 0]
  refine r_dup (pc' := 86) C dX8_init_85 rfl rfl ?_
  refine r_callN (pc' := 89) C X7_init_c128 (Or.inl ⟨_, liX8_56⟩) ceX7_init ciX7_init rfl hNm.az cK108 (okV_of (by decide +kernel)) rfl (Nat.le_of_ble_eq_true rfl) rfl (Nat.le_of_ble_eq_true rfl) ⟨by decide, by decide⟩ dX8_init_86 rfl (fun E16 Y16 C => ?_)
  have X := X.trans Y16 (by decide +kernel)
  refine r_SG (S2 := K116) (σ2 := H72) rfl rfl ?_
  refine r_putR (pc' := 92) (S' := K117) (fks := [some (some (some 1)), some (some (some 3)), some (some (some 5)), some (some (some 19)), some (some (some 24)), some (some (some 29)), some (some (some 111)), some none, some none, some none, some none, some none, some none, some none, some none]) C hNm fcX8_57 ⟨_, rfl, rfl⟩ (gk (by decide +kernel)) rfl (fun _ => rfl) (fun _ => rfl) dX8_init_89 rfl rfl ?_
  refine r_aload_n (pc' := 93) C dX8_init_92 rfl 0 rfl ?_
  refine r_bipush (pc' := 95) C dX8_init_93 rfl kb_8 ?_
  refine r_newa (pc' := 97) (aty := .int) (N := 8) (x := .inr (.inl (.int, 8))) C aw_int (Or.inl ⟨rfl, cell_int 8⟩) cK117 (okV_of (by decide +kernel)) (by decide) (by decide) (by decide) (by decide) (by decide) dX8_init_95 rfl (fun E17 Y17 C => ?_)
  have X := X.trans Y17 (by decide +kernel)
  refine r_SG (S2 := K118) (σ2 := H73) rfl rfl ?_
  show Wm _ _ _ _ _ _ _ [(0, .ref 0)] [.ref 142, .ref 0]
  refine r_putR (pc' := 100) (S' := K119) (fks := [some (some (some 1)), some (some (some 3)), some (some (some 5)), some (some (some 19)), some (some (some 24)), some (some (some 29)), some (some (some 111)), some (some (some 128)), some none, some none, some none, some none, some none, some none, some none]) C hNm fcX8_61 ⟨_, rfl, rfl⟩ (gk (by decide +kernel)) rfl (fun _ => rfl) (fun _ => rfl) dX8_init_97 rfl rfl ?_
  refine r_aload_n (pc' := 101) C dX8_init_100 rfl 0 rfl ?_
  refine r_sipush (pc' := 104) C dX8_init_101 rfl ks_256 ?_
  refine r_newa (pc' := 106) (aty := .int) (N := 256) (x := .inr (.inl (.int, 256))) C aw_int (Or.inl ⟨rfl, cell_int 256⟩) cK119 (okV_of (by decide +kernel)) (by decide) (by decide) (by decide) (by decide) (by decide) dX8_init_104 rfl (fun E18 Y18 C => ?_)
  have X := X.trans Y18 (by decide +kernel)
  refine r_SG (S2 := K120) (σ2 := H74) rfl rfl ?_
  show Wm _ _ _ _ _ _ _ [(0, .ref 0)] [.ref 143, .ref 0]
  refine r_putR (pc' := 109) (S' := K121) (fks := [some (some (some 1)), some (some (some 3)), some (some (some 5)), some (some (some 19)), some (some (some 24)), some (some (some 29)), some (some (some 111)), some (some (some 128)), some (some (some 142)), some none, some none, some none, some none, some none, some none]) C hNm fcX8_65 ⟨_, rfl, rfl⟩ (gk (by decide +kernel)) rfl (fun _ => rfl) (fun _ => rfl) dX8_init_106 rfl rfl ?_
  refine r_aload_n (pc' := 110) C dX8_init_109 rfl 0 rfl ?_
  refine r_sipush (pc' := 113) C dX8_init_110 rfl ks_256 ?_
  refine r_newa (pc' := 115) (aty := .int) (N := 256) (x := .inr (.inl (.int, 256))) C aw_int (Or.inl ⟨rfl, cell_int 256⟩) cK121 (okV_of (by decide +kernel)) (by decide) (by decide) (by decide) (by decide) (by decide) dX8_init_113 rfl (fun E19 Y19 C => ?_)
  have X := X.trans Y19 (by decide +kernel)
  refine r_SG (S2 := K122) (σ2 := H75) rfl rfl ?_
  show Wm _ _ _ _ _ _ _ [(0, .ref 0)] [.ref 144, .ref 0]
  refine r_putR (pc' := 118) (S' := K123) (fks := [some (some (some 1)), some (some (some 3)), some (some (some 5)), some (some (some 19)), some (some (some 24)), some (some (some 29)), some (some (some 111)), some (some (some 128)), some (some (some 142)), some (some (some 143)), some none, some none, some none, some none, some none]) C hNm fcX8_68 ⟨_, rfl, rfl⟩ (gk (by decide +kernel)) rfl (fun _ => rfl) (fun _ => rfl) dX8_init_115 rfl rfl ?_
  refine r_aload_n (pc' := 119) C dX8_init_118 rfl 0 rfl ?_
  refine r_bipush (pc' := 121) C dX8_init_119 rfl kb_13 ?_
  refine r_newa (pc' := 123) (aty := .int) (N := 13) (x := .inr (.inl (.int, 13))) C aw_int (Or.inl ⟨rfl, cell_int 13⟩) cK123 (okV_of (by decide +kernel)) (by decide) (by decide) (by decide) (by decide) (by decide) dX8_init_121 rfl (fun E20 Y20 C => ?_)
  have X := X.trans Y20 (by decide +kernel)
  refine r_SG (S2 := K124) (σ2 := H76) rfl rfl ?_
  show Wm _ _ _ _ _ _ _ [(0, .ref 0)] [.ref 145, .ref 0]
  refine r_putR (pc' := 126) (S' := K125) (fks := [some (some (some 1)), some (some (some 3)), some (some (some 5)), some (some (some 19)), some (some (some 24)), some (some (some 29)), some (some (some 111)), some (some (some 128)), some (some (some 142)), some (some (some 143)), some (some (some 144)), some none, some none, some none, some none]) C hNm fcX8_71 ⟨_, rfl, rfl⟩ (gk (by decide +kernel)) rfl (fun _ => rfl) (fun _ => rfl) dX8_init_123 rfl rfl ?_
  refine r_aload_n (pc' := 127) C dX8_init_126 rfl 0 rfl ?_
  refine r_bipush (pc' := 129) C dX8_init_127 rfl kb_12 ?_
  refine r_newa (pc' := 131) (aty := .int) (N := 12) (x := .inr (.inl (.int, 12))) C aw_int (Or.inl ⟨rfl, cell_int 12⟩) cK125 (okV_of (by decide +kernel)) (by decide) (by decide) (by decide) (by decide) (by decide) dX8_init_129 rfl (fun E21 Y21 C => ?_)
  have X := X.trans Y21 (by decide +kernel)
  refine r_SG (S2 := K126) (σ2 := H77) rfl rfl ?_
  show Wm _ _ _ _ _ _ _ [(0, .ref 0)] [.ref 146, .ref 0]
  refine r_putR (pc' := 134) (S' := K127) (fks := [some (some (some 1)), some (some (some 3)), some (some (some 5)), some (some (some 19)), some (some (some 24)), some (some (some 29)), some (some (some 111)), some (some (some 128)), some (some (some 142)), some (some (some 143)), some (some (some 144)), some (some (some 145)), some none, some none, some none]) C hNm fcX8_74 ⟨_, rfl, rfl⟩ (gk (by decide +kernel)) rfl (fun _ => rfl) (fun _ => rfl) dX8_init_131 rfl rfl ?_
  refine r_aload_n (pc' := 135) C dX8_init_134 rfl 0 rfl ?_
  refine r_bipush (pc' := 137) C dX8_init_135 rfl kb_12 ?_
  refine r_newa (pc' := 139) (aty := .int) (N := 12) (x := .inr (.inl (.int, 12))) C aw_int (Or.inl ⟨rfl, cell_int 12⟩) cK127 (okV_of (by decide +kernel)) (by decide) (by decide) (by decide) (by decide) (by decide) dX8_init_137 rfl (fun E22 Y22 C => ?_)
  have X := X.trans Y22 (by decide +kernel)
  refine r_SG (S2 := K128) (σ2 := H78) rfl rfl ?_
  show Wm _ _ _ _ _ _ _ [(0, .ref 0)] [.ref 147, .ref 0]
  refine r_putR (pc' := 142) (S' := K129) (fks := [some (some (some 1)), some (some (some 3)), some (some (some 5)), some (some (some 19)), some (some (some 24)), some (some (some 29)), some (some (some 111)), some (some (some 128)), some (some (some 142)), some (some (some 143)), some (some (some 144)), some (some (some 145)), some (some (some 146)), some none, some none]) C hNm fcX8_77 ⟨_, rfl, rfl⟩ (gk (by decide +kernel)) rfl (fun _ => rfl) (fun _ => rfl) dX8_init_139 rfl rfl ?_
  refine r_aload_n (pc' := 143) C dX8_init_142 rfl 0 rfl ?_
  refine r_sipush (pc' := 146) C dX8_init_143 rfl ks_441 ?_
  refine r_newa (pc' := 148) (aty := .boolean) (N := 441) (x := .inr (.inl (.boolean, 441))) C aw_boolean (Or.inl ⟨rfl, cell_bool 441⟩) cK129 (okV_of (by decide +kernel)) (by decide) (by decide) (by decide) (by decide) (by decide) dX8_init_146 rfl (fun E23 Y23 C => ?_)
  have X := X.trans Y23 (by decide +kernel)
  refine r_SG (S2 := K130) (σ2 := H79) rfl rfl ?_
  show Wm _ _ _ _ _ _ _ [(0, .ref 0)] [.ref 148, .ref 0]
  refine r_putR (pc' := 151) (S' := K131) (fks := [some (some (some 1)), some (some (some 3)), some (some (some 5)), some (some (some 19)), some (some (some 24)), some (some (some 29)), some (some (some 111)), some (some (some 128)), some (some (some 142)), some (some (some 143)), some (some (some 144)), some (some (some 145)), some (some (some 146)), some (some (some 147)), some none]) C hNm fcX8_80 ⟨_, rfl, rfl⟩ (gk (by decide +kernel)) rfl (fun _ => rfl) (fun _ => rfl) dX8_init_148 rfl rfl ?_
  exact r_vretN C X hE dX8_init_151
def K132 : List Sh := K131 ++ ([.inl (9, [none, none, some none, none, none, none, some none, some none, some none, some none, some none, none, none, none, none, some none, none, some none, some none, none, none, some none, some none, none, some none, none, none, some none, some none, some none, none, some none, some none, some none, some none, none, some none, some none, some none, some none, some none, some none, some none, some none, none, some none, some none, some none])] : List Sh)
theorem cK132 : Cl K132 := Cl_of (by decide +kernel)
def H80 : Sg := zi H79 149
def K133 : List Sh := K132 ++ ([.inr (.inr (.inl 24))] : List Sh)
theorem cK133 : Cl K133 := Cl_of (by decide +kernel)
def H81 : Sg := zi H80 150
def K134 : List Sh := K133.set 149 (.inl (9, [none, none, some (some (some 150)), none, none, none, some none, some none, some none, some none, some none, none, none, none, none, some none, none, some none, some none, none, none, some none, some none, none, some none, none, none, some none, some none, some none, none, some none, some none, some none, some none, none, some none, some none, some none, some none, some none, some none, some none, some none, none, some none, some none, some none]))
theorem cK134 : Cl K134 := Cl_of (by decide +kernel)
def H82 : Sg := wi H81 149 5 1
def K135 : List Sh := K134 ++ ([.inr (.inl (.int, 8))] : List Sh)
theorem cK135 : Cl K135 := Cl_of (by decide +kernel)
def H83 : Sg := zi H82 151
def K136 : List Sh := K135.set 149 (.inl (9, [none, none, some (some (some 150)), none, none, none, some (some (some 151)), some none, some none, some none, some none, none, none, none, none, some none, none, some none, some none, none, none, some none, some none, none, some none, none, none, some none, some none, some none, none, some none, some none, some none, some none, none, some none, some none, some none, some none, some none, some none, some none, some none, none, some none, some none, some none]))
theorem cK136 : Cl K136 := Cl_of (by decide +kernel)
def K137 : List Sh := K136 ++ ([.inr (.inl (.int, 20))] : List Sh)
theorem cK137 : Cl K137 := Cl_of (by decide +kernel)
def H84 : Sg := zi H83 152
def K138 : List Sh := K137.set 149 (.inl (9, [none, none, some (some (some 150)), none, none, none, some (some (some 151)), some (some (some 152)), some none, some none, some none, none, none, none, none, some none, none, some none, some none, none, none, some none, some none, none, some none, none, none, some none, some none, some none, none, some none, some none, some none, some none, none, some none, some none, some none, some none, some none, some none, some none, some none, none, some none, some none, some none]))
theorem cK138 : Cl K138 := Cl_of (by decide +kernel)
def K139 : List Sh := K138 ++ ([.inr (.inl (.int, 37))] : List Sh)
theorem cK139 : Cl K139 := Cl_of (by decide +kernel)
def H85 : Sg := zi H84 153
def K140 : List Sh := K139.set 149 (.inl (9, [none, none, some (some (some 150)), none, none, none, some (some (some 151)), some (some (some 152)), some (some (some 153)), some none, some none, none, none, none, none, some none, none, some none, some none, none, none, some none, some none, none, some none, none, none, some none, some none, some none, none, some none, some none, some none, some none, none, some none, some none, some none, some none, some none, some none, some none, some none, none, some none, some none, some none]))
theorem cK140 : Cl K140 := Cl_of (by decide +kernel)
def K141 : List Sh := K140 ++ ([.inr (.inl (.int, 37))] : List Sh)
theorem cK141 : Cl K141 := Cl_of (by decide +kernel)
def H86 : Sg := zi H85 154
def K142 : List Sh := K141.set 149 (.inl (9, [none, none, some (some (some 150)), none, none, none, some (some (some 151)), some (some (some 152)), some (some (some 153)), some (some (some 154)), some none, none, none, none, none, some none, none, some none, some none, none, none, some none, some none, none, some none, none, none, some none, some none, some none, none, some none, some none, some none, some none, none, some none, some none, some none, some none, some none, some none, some none, some none, none, some none, some none, some none]))
theorem cK142 : Cl K142 := Cl_of (by decide +kernel)
def K143 : List Sh := K142 ++ ([.inr (.inl (.int, 80))] : List Sh)
theorem cK143 : Cl K143 := Cl_of (by decide +kernel)
def H87 : Sg := zi H86 155
def K144 : List Sh := K143.set 149 (.inl (9, [none, none, some (some (some 150)), none, none, none, some (some (some 151)), some (some (some 152)), some (some (some 153)), some (some (some 154)), some (some (some 155)), none, none, none, none, some none, none, some none, some none, none, none, some none, some none, none, some none, none, none, some none, some none, some none, none, some none, some none, some none, some none, none, some none, some none, some none, some none, some none, some none, some none, some none, none, some none, some none, some none]))
theorem cK144 : Cl K144 := Cl_of (by decide +kernel)
def K145 : List Sh := K144 ++ ([.inr (.inl (.int, 48))] : List Sh)
theorem cK145 : Cl K145 := Cl_of (by decide +kernel)
def H88 : Sg := zi H87 156
def K146 : List Sh := K145.set 149 (.inl (9, [none, none, some (some (some 150)), none, none, none, some (some (some 151)), some (some (some 152)), some (some (some 153)), some (some (some 154)), some (some (some 155)), none, none, none, none, some (some (some 156)), none, some none, some none, none, none, some none, some none, none, some none, none, none, some none, some none, some none, none, some none, some none, some none, some none, none, some none, some none, some none, some none, some none, some none, some none, some none, none, some none, some none, some none]))
theorem cK146 : Cl K146 := Cl_of (by decide +kernel)
def K147 : List Sh := K146 ++ ([.inr (.inl (.int, 80))] : List Sh)
theorem cK147 : Cl K147 := Cl_of (by decide +kernel)
def H89 : Sg := zi H88 157
def K148 : List Sh := K147.set 149 (.inl (9, [none, none, some (some (some 150)), none, none, none, some (some (some 151)), some (some (some 152)), some (some (some 153)), some (some (some 154)), some (some (some 155)), none, none, none, none, some (some (some 156)), none, some (some (some 157)), some none, none, none, some none, some none, none, some none, none, none, some none, some none, some none, none, some none, some none, some none, some none, none, some none, some none, some none, some none, some none, some none, some none, some none, none, some none, some none, some none]))
theorem cK148 : Cl K148 := Cl_of (by decide +kernel)
def K149 : List Sh := K148 ++ ([.inr (.inl (.int, 80))] : List Sh)
theorem cK149 : Cl K149 := Cl_of (by decide +kernel)
def H90 : Sg := zi H89 158
def K150 : List Sh := K149.set 149 (.inl (9, [none, none, some (some (some 150)), none, none, none, some (some (some 151)), some (some (some 152)), some (some (some 153)), some (some (some 154)), some (some (some 155)), none, none, none, none, some (some (some 156)), none, some (some (some 157)), some (some (some 158)), none, none, some none, some none, none, some none, none, none, some none, some none, some none, none, some none, some none, some none, some none, none, some none, some none, some none, some none, some none, some none, some none, some none, none, some none, some none, some none]))
theorem cK150 : Cl K150 := Cl_of (by decide +kernel)
def K151 : List Sh := K150 ++ ([.inr (.inl (.int, 80))] : List Sh)
theorem cK151 : Cl K151 := Cl_of (by decide +kernel)
def H91 : Sg := zi H90 159
def K152 : List Sh := K151.set 149 (.inl (9, [none, none, some (some (some 150)), none, none, none, some (some (some 151)), some (some (some 152)), some (some (some 153)), some (some (some 154)), some (some (some 155)), none, none, none, none, some (some (some 156)), none, some (some (some 157)), some (some (some 158)), none, none, some (some (some 159)), some none, none, some none, none, none, some none, some none, some none, none, some none, some none, some none, some none, none, some none, some none, some none, some none, some none, some none, some none, some none, none, some none, some none, some none]))
theorem cK152 : Cl K152 := Cl_of (by decide +kernel)
def K153 : List Sh := K152 ++ ([.inr (.inl (.int, 8))] : List Sh)
theorem cK153 : Cl K153 := Cl_of (by decide +kernel)
def H92 : Sg := zi H91 160
def K154 : List Sh := K153.set 149 (.inl (9, [none, none, some (some (some 150)), none, none, none, some (some (some 151)), some (some (some 152)), some (some (some 153)), some (some (some 154)), some (some (some 155)), none, none, none, none, some (some (some 156)), none, some (some (some 157)), some (some (some 158)), none, none, some (some (some 159)), some (some (some 160)), none, some none, none, none, some none, some none, some none, none, some none, some none, some none, some none, none, some none, some none, some none, some none, some none, some none, some none, some none, none, some none, some none, some none]))
theorem cK154 : Cl K154 := Cl_of (by decide +kernel)
def K155 : List Sh := K154 ++ ([.inr (.inl (.int, 592))] : List Sh)
theorem cK155 : Cl K155 := Cl_of (by decide +kernel)
def H93 : Sg := zi H92 161
def K156 : List Sh := K155.set 149 (.inl (9, [none, none, some (some (some 150)), none, none, none, some (some (some 151)), some (some (some 152)), some (some (some 153)), some (some (some 154)), some (some (some 155)), none, none, none, none, some (some (some 156)), none, some (some (some 157)), some (some (some 158)), none, none, some (some (some 159)), some (some (some 160)), none, some (some (some 161)), none, none, some none, some none, some none, none, some none, some none, some none, some none, none, some none, some none, some none, some none, some none, some none, some none, some none, none, some none, some none, some none]))
theorem cK156 : Cl K156 := Cl_of (by decide +kernel)
def K157 : List Sh := K156 ++ ([.inr (.inl (.int, 60))] : List Sh)
theorem cK157 : Cl K157 := Cl_of (by decide +kernel)
def H94 : Sg := zi H93 162
def K158 : List Sh := K157.set 149 (.inl (9, [none, none, some (some (some 150)), none, none, none, some (some (some 151)), some (some (some 152)), some (some (some 153)), some (some (some 154)), some (some (some 155)), none, none, none, none, some (some (some 156)), none, some (some (some 157)), some (some (some 158)), none, none, some (some (some 159)), some (some (some 160)), none, some (some (some 161)), none, none, some (some (some 162)), some none, some none, none, some none, some none, some none, some none, none, some none, some none, some none, some none, some none, some none, some none, some none, none, some none, some none, some none]))
theorem cK158 : Cl K158 := Cl_of (by decide +kernel)
def K159 : List Sh := K158 ++ ([.inr (.inl (.int, 60))] : List Sh)
theorem cK159 : Cl K159 := Cl_of (by decide +kernel)
def H95 : Sg := zi H94 163
def K160 : List Sh := K159.set 149 (.inl (9, [none, none, some (some (some 150)), none, none, none, some (some (some 151)), some (some (some 152)), some (some (some 153)), some (some (some 154)), some (some (some 155)), none, none, none, none, some (some (some 156)), none, some (some (some 157)), some (some (some 158)), none, none, some (some (some 159)), some (some (some 160)), none, some (some (some 161)), none, none, some (some (some 162)), some (some (some 163)), some none, none, some none, some none, some none, some none, none, some none, some none, some none, some none, some none, some none, some none, some none, none, some none, some none, some none]))
theorem cK160 : Cl K160 := Cl_of (by decide +kernel)
def K161 : List Sh := K160 ++ ([.inr (.inl (.int, 60))] : List Sh)
theorem cK161 : Cl K161 := Cl_of (by decide +kernel)
def H96 : Sg := zi H95 164
def K162 : List Sh := K161.set 149 (.inl (9, [none, none, some (some (some 150)), none, none, none, some (some (some 151)), some (some (some 152)), some (some (some 153)), some (some (some 154)), some (some (some 155)), none, none, none, none, some (some (some 156)), none, some (some (some 157)), some (some (some 158)), none, none, some (some (some 159)), some (some (some 160)), none, some (some (some 161)), none, none, some (some (some 162)), some (some (some 163)), some (some (some 164)), none, some none, some none, some none, some none, none, some none, some none, some none, some none, some none, some none, some none, some none, none, some none, some none, some none]))
theorem cK162 : Cl K162 := Cl_of (by decide +kernel)
def K163 : List Sh := K162 ++ ([.inr (.inl (.int, 8))] : List Sh)
theorem cK163 : Cl K163 := Cl_of (by decide +kernel)
def H97 : Sg := zi H96 165
def K164 : List Sh := K163.set 149 (.inl (9, [none, none, some (some (some 150)), none, none, none, some (some (some 151)), some (some (some 152)), some (some (some 153)), some (some (some 154)), some (some (some 155)), none, none, none, none, some (some (some 156)), none, some (some (some 157)), some (some (some 158)), none, none, some (some (some 159)), some (some (some 160)), none, some (some (some 161)), none, none, some (some (some 162)), some (some (some 163)), some (some (some 164)), none, some (some (some 165)), some none, some none, some none, none, some none, some none, some none, some none, some none, some none, some none, some none, none, some none, some none, some none]))
theorem cK164 : Cl K164 := Cl_of (by decide +kernel)
def K165 : List Sh := K164 ++ ([.inr (.inl (.int, 256))] : List Sh)
theorem cK165 : Cl K165 := Cl_of (by decide +kernel)
def H98 : Sg := zi H97 166
def K166 : List Sh := K165.set 149 (.inl (9, [none, none, some (some (some 150)), none, none, none, some (some (some 151)), some (some (some 152)), some (some (some 153)), some (some (some 154)), some (some (some 155)), none, none, none, none, some (some (some 156)), none, some (some (some 157)), some (some (some 158)), none, none, some (some (some 159)), some (some (some 160)), none, some (some (some 161)), none, none, some (some (some 162)), some (some (some 163)), some (some (some 164)), none, some (some (some 165)), some (some (some 166)), some none, some none, none, some none, some none, some none, some none, some none, some none, some none, some none, none, some none, some none, some none]))
theorem cK166 : Cl K166 := Cl_of (by decide +kernel)
def K167 : List Sh := K166 ++ ([.inr (.inl (.int, 8))] : List Sh)
theorem cK167 : Cl K167 := Cl_of (by decide +kernel)
def H99 : Sg := zi H98 167
def K168 : List Sh := K167.set 149 (.inl (9, [none, none, some (some (some 150)), none, none, none, some (some (some 151)), some (some (some 152)), some (some (some 153)), some (some (some 154)), some (some (some 155)), none, none, none, none, some (some (some 156)), none, some (some (some 157)), some (some (some 158)), none, none, some (some (some 159)), some (some (some 160)), none, some (some (some 161)), none, none, some (some (some 162)), some (some (some 163)), some (some (some 164)), none, some (some (some 165)), some (some (some 166)), some (some (some 167)), some none, none, some none, some none, some none, some none, some none, some none, some none, some none, none, some none, some none, some none]))
theorem cK168 : Cl K168 := Cl_of (by decide +kernel)
def K169 : List Sh := K168 ++ ([.inr (.inl (.int, 8))] : List Sh)
theorem cK169 : Cl K169 := Cl_of (by decide +kernel)
def H100 : Sg := zi H99 168
def K170 : List Sh := K169.set 149 (.inl (9, [none, none, some (some (some 150)), none, none, none, some (some (some 151)), some (some (some 152)), some (some (some 153)), some (some (some 154)), some (some (some 155)), none, none, none, none, some (some (some 156)), none, some (some (some 157)), some (some (some 158)), none, none, some (some (some 159)), some (some (some 160)), none, some (some (some 161)), none, none, some (some (some 162)), some (some (some 163)), some (some (some 164)), none, some (some (some 165)), some (some (some 166)), some (some (some 167)), some (some (some 168)), none, some none, some none, some none, some none, some none, some none, some none, some none, none, some none, some none, some none]))
theorem cK170 : Cl K170 := Cl_of (by decide +kernel)
def K171 : List Sh := K170 ++ ([.inr (.inl (.int, 10))] : List Sh)
theorem cK171 : Cl K171 := Cl_of (by decide +kernel)
def H101 : Sg := zi H100 169
def K172 : List Sh := K171.set 149 (.inl (9, [none, none, some (some (some 150)), none, none, none, some (some (some 151)), some (some (some 152)), some (some (some 153)), some (some (some 154)), some (some (some 155)), none, none, none, none, some (some (some 156)), none, some (some (some 157)), some (some (some 158)), none, none, some (some (some 159)), some (some (some 160)), none, some (some (some 161)), none, none, some (some (some 162)), some (some (some 163)), some (some (some 164)), none, some (some (some 165)), some (some (some 166)), some (some (some 167)), some (some (some 168)), none, some (some (some 169)), some none, some none, some none, some none, some none, some none, some none, none, some none, some none, some none]))
theorem cK172 : Cl K172 := Cl_of (by decide +kernel)
def K173 : List Sh := K172 ++ ([.inr (.inl (.int, 10))] : List Sh)
theorem cK173 : Cl K173 := Cl_of (by decide +kernel)
def H102 : Sg := zi H101 170
def K174 : List Sh := K173.set 149 (.inl (9, [none, none, some (some (some 150)), none, none, none, some (some (some 151)), some (some (some 152)), some (some (some 153)), some (some (some 154)), some (some (some 155)), none, none, none, none, some (some (some 156)), none, some (some (some 157)), some (some (some 158)), none, none, some (some (some 159)), some (some (some 160)), none, some (some (some 161)), none, none, some (some (some 162)), some (some (some 163)), some (some (some 164)), none, some (some (some 165)), some (some (some 166)), some (some (some 167)), some (some (some 168)), none, some (some (some 169)), some (some (some 170)), some none, some none, some none, some none, some none, some none, none, some none, some none, some none]))
theorem cK174 : Cl K174 := Cl_of (by decide +kernel)
def K175 : List Sh := K174 ++ ([.inr (.inl (.int, 10))] : List Sh)
theorem cK175 : Cl K175 := Cl_of (by decide +kernel)
def H103 : Sg := zi H102 171
def K176 : List Sh := K175.set 149 (.inl (9, [none, none, some (some (some 150)), none, none, none, some (some (some 151)), some (some (some 152)), some (some (some 153)), some (some (some 154)), some (some (some 155)), none, none, none, none, some (some (some 156)), none, some (some (some 157)), some (some (some 158)), none, none, some (some (some 159)), some (some (some 160)), none, some (some (some 161)), none, none, some (some (some 162)), some (some (some 163)), some (some (some 164)), none, some (some (some 165)), some (some (some 166)), some (some (some 167)), some (some (some 168)), none, some (some (some 169)), some (some (some 170)), some (some (some 171)), some none, some none, some none, some none, some none, none, some none, some none, some none]))
theorem cK176 : Cl K176 := Cl_of (by decide +kernel)
def K177 : List Sh := K176 ++ ([.inr (.inl (.int, 189))] : List Sh)
theorem cK177 : Cl K177 := Cl_of (by decide +kernel)
def H104 : Sg := zi H103 172
def K178 : List Sh := K177.set 149 (.inl (9, [none, none, some (some (some 150)), none, none, none, some (some (some 151)), some (some (some 152)), some (some (some 153)), some (some (some 154)), some (some (some 155)), none, none, none, none, some (some (some 156)), none, some (some (some 157)), some (some (some 158)), none, none, some (some (some 159)), some (some (some 160)), none, some (some (some 161)), none, none, some (some (some 162)), some (some (some 163)), some (some (some 164)), none, some (some (some 165)), some (some (some 166)), some (some (some 167)), some (some (some 168)), none, some (some (some 169)), some (some (some 170)), some (some (some 171)), some (some (some 172)), some none, some none, some none, some none, none, some none, some none, some none]))
theorem cK178 : Cl K178 := Cl_of (by decide +kernel)
def K179 : List Sh := K178 ++ ([.inr (.inl (.int, 12))] : List Sh)
theorem cK179 : Cl K179 := Cl_of (by decide +kernel)
def H105 : Sg := zi H104 173
def K180 : List Sh := K179.set 149 (.inl (9, [none, none, some (some (some 150)), none, none, none, some (some (some 151)), some (some (some 152)), some (some (some 153)), some (some (some 154)), some (some (some 155)), none, none, none, none, some (some (some 156)), none, some (some (some 157)), some (some (some 158)), none, none, some (some (some 159)), some (some (some 160)), none, some (some (some 161)), none, none, some (some (some 162)), some (some (some 163)), some (some (some 164)), none, some (some (some 165)), some (some (some 166)), some (some (some 167)), some (some (some 168)), none, some (some (some 169)), some (some (some 170)), some (some (some 171)), some (some (some 172)), some (some (some 173)), some none, some none, some none, none, some none, some none, some none]))
theorem cK180 : Cl K180 := Cl_of (by decide +kernel)
def K181 : List Sh := K180 ++ ([.inr (.inl (.int, 12))] : List Sh)
theorem cK181 : Cl K181 := Cl_of (by decide +kernel)
def H106 : Sg := zi H105 174
def K182 : List Sh := K181.set 149 (.inl (9, [none, none, some (some (some 150)), none, none, none, some (some (some 151)), some (some (some 152)), some (some (some 153)), some (some (some 154)), some (some (some 155)), none, none, none, none, some (some (some 156)), none, some (some (some 157)), some (some (some 158)), none, none, some (some (some 159)), some (some (some 160)), none, some (some (some 161)), none, none, some (some (some 162)), some (some (some 163)), some (some (some 164)), none, some (some (some 165)), some (some (some 166)), some (some (some 167)), some (some (some 168)), none, some (some (some 169)), some (some (some 170)), some (some (some 171)), some (some (some 172)), some (some (some 173)), some (some (some 174)), some none, some none, none, some none, some none, some none]))
theorem cK182 : Cl K182 := Cl_of (by decide +kernel)
def K183 : List Sh := K182 ++ ([.inr (.inl (.boolean, 441))] : List Sh)
theorem cK183 : Cl K183 := Cl_of (by decide +kernel)
def H107 : Sg := zi H106 175
def K184 : List Sh := K183.set 149 (.inl (9, [none, none, some (some (some 150)), none, none, none, some (some (some 151)), some (some (some 152)), some (some (some 153)), some (some (some 154)), some (some (some 155)), none, none, none, none, some (some (some 156)), none, some (some (some 157)), some (some (some 158)), none, none, some (some (some 159)), some (some (some 160)), none, some (some (some 161)), none, none, some (some (some 162)), some (some (some 163)), some (some (some 164)), none, some (some (some 165)), some (some (some 166)), some (some (some 167)), some (some (some 168)), none, some (some (some 169)), some (some (some 170)), some (some (some 171)), some (some (some 172)), some (some (some 173)), some (some (some 174)), some (some (some 175)), some none, none, some none, some none, some none]))
theorem cK184 : Cl K184 := Cl_of (by decide +kernel)
def K185 : List Sh := K184 ++ ([.inr (.inl (.int, 80))] : List Sh)
theorem cK185 : Cl K185 := Cl_of (by decide +kernel)
def H108 : Sg := zi H107 176
def K186 : List Sh := K185.set 149 (.inl (9, [none, none, some (some (some 150)), none, none, none, some (some (some 151)), some (some (some 152)), some (some (some 153)), some (some (some 154)), some (some (some 155)), none, none, none, none, some (some (some 156)), none, some (some (some 157)), some (some (some 158)), none, none, some (some (some 159)), some (some (some 160)), none, some (some (some 161)), none, none, some (some (some 162)), some (some (some 163)), some (some (some 164)), none, some (some (some 165)), some (some (some 166)), some (some (some 167)), some (some (some 168)), none, some (some (some 169)), some (some (some 170)), some (some (some 171)), some (some (some 172)), some (some (some 173)), some (some (some 174)), some (some (some 175)), some (some (some 176)), none, some none, some none, some none]))
theorem cK186 : Cl K186 := Cl_of (by decide +kernel)
def K187 : List Sh := K186 ++ ([.inr (.inl (.boolean, 3))] : List Sh)
theorem cK187 : Cl K187 := Cl_of (by decide +kernel)
def H109 : Sg := zi H108 177
def K188 : List Sh := K187.set 149 (.inl (9, [none, none, some (some (some 150)), none, none, none, some (some (some 151)), some (some (some 152)), some (some (some 153)), some (some (some 154)), some (some (some 155)), none, none, none, none, some (some (some 156)), none, some (some (some 157)), some (some (some 158)), none, none, some (some (some 159)), some (some (some 160)), none, some (some (some 161)), none, none, some (some (some 162)), some (some (some 163)), some (some (some 164)), none, some (some (some 165)), some (some (some 166)), some (some (some 167)), some (some (some 168)), none, some (some (some 169)), some (some (some 170)), some (some (some 171)), some (some (some 172)), some (some (some 173)), some (some (some 174)), some (some (some 175)), some (some (some 176)), none, some (some (some 177)), some none, some none]))
theorem cK188 : Cl K188 := Cl_of (by decide +kernel)
def K189 : List Sh := K188 ++ ([.inr (.inl (.int, 3))] : List Sh)
theorem cK189 : Cl K189 := Cl_of (by decide +kernel)
def H110 : Sg := zi H109 178
def K190 : List Sh := K189.set 149 (.inl (9, [none, none, some (some (some 150)), none, none, none, some (some (some 151)), some (some (some 152)), some (some (some 153)), some (some (some 154)), some (some (some 155)), none, none, none, none, some (some (some 156)), none, some (some (some 157)), some (some (some 158)), none, none, some (some (some 159)), some (some (some 160)), none, some (some (some 161)), none, none, some (some (some 162)), some (some (some 163)), some (some (some 164)), none, some (some (some 165)), some (some (some 166)), some (some (some 167)), some (some (some 168)), none, some (some (some 169)), some (some (some 170)), some (some (some 171)), some (some (some 172)), some (some (some 173)), some (some (some 174)), some (some (some 175)), some (some (some 176)), none, some (some (some 177)), some (some (some 178)), some none]))
theorem cK190 : Cl K190 := Cl_of (by decide +kernel)
def K191 : List Sh := K190 ++ ([.inr (.inl (.int, 111))] : List Sh)
theorem cK191 : Cl K191 := Cl_of (by decide +kernel)
def H111 : Sg := zi H110 179
def K192 : List Sh := K191.set 149 (.inl (9, [none, none, some (some (some 150)), none, none, none, some (some (some 151)), some (some (some 152)), some (some (some 153)), some (some (some 154)), some (some (some 155)), none, none, none, none, some (some (some 156)), none, some (some (some 157)), some (some (some 158)), none, none, some (some (some 159)), some (some (some 160)), none, some (some (some 161)), none, none, some (some (some 162)), some (some (some 163)), some (some (some 164)), none, some (some (some 165)), some (some (some 166)), some (some (some 167)), some (some (some 168)), none, some (some (some 169)), some (some (some 170)), some (some (some 171)), some (some (some 172)), some (some (some 173)), some (some (some 174)), some (some (some 175)), some (some (some 176)), none, some (some (some 177)), some (some (some 178)), some (some (some 179))]))
theorem cK192 : Cl K192 := Cl_of (by decide +kernel)
def H112 : Sg := wi H111 153 33 30
set_option maxRecDepth 100000 in
set_option maxHeartbeats 4000000 in
theorem X9_init_c149 {E : Ev} : Cn E 2 yX9_init cX9_init 1 [.ref 149] K132 K192 H80 H112 30 2435 := by
  refine Cn.intro (by decide +kernel) rfl (Nat.le_of_ble_eq_true rfl) (fun Z C hNm hE => ?_)
  show Wm E Z 0 0 K132 H80 0 [(0, .ref 149)] []
  refine r_aload_n (pc' := 1) C dX9_init_0 rfl 0 rfl ?_
  refine r_objI (pc' := 4) C olX9_18 ow_i ow_c (Nat.le_of_ble_eq_true rfl) dX9_init_1 rfl ?_
  refine r_aload_n (pc' := 5) C dX9_init_4 rfl 0 rfl ?_
  refine r_bipush (pc' := 7) C dX9_init_5 rfl kb_24 ?_
  refine r_newa (pc' := 9) (aty := .long) (N := 24) (x := .inr (.inr (.inl 24))) C aw_long (Or.inr ⟨rfl, rfl⟩) cK132 (okV_of (by decide +kernel)) (by decide) (by decide) (by decide) (by decide) (by decide) dX9_init_7 rfl (fun E1 Y1 C => ?_)
  have X := Y1
  refine r_SG (S2 := K133) (σ2 := H81) rfl rfl ?_
  show Wm _ _ _ _ _ _ _ [(0, .ref 149)] [.ref 150, .ref 149]
  refine r_putR (pc' := 12) (S' := K134) (fks := [none, none, some none, none, none, none, some none, some none, some none, some none, some none, none, none, none, none, some none, none, some none, some none, none, none, some none, some none, none, some none, none, none, some none, some none, some none, none, some none, some none, some none, some none, none, some none, some none, some none, some none, some none, some none, some none, some none, none, some none, some none, some none]) C hNm fcX9_11 ⟨_, rfl, rfl⟩ (gk (by decide +kernel)) rfl (fun _ => rfl) (fun _ => rfl) dX9_init_9 rfl rfl ?_
  refine r_aload_n (pc' := 13) C dX9_init_12 rfl 0 rfl ?_
  refine r_iconst (pc' := 14) C dX9_init_13 rfl kc_1 ?_
  refine r_putI (pc' := 17) (σ1 := H82) C fcX9_24 (fks := [none, none, some (some (some 150)), none, none, none, some none, some none, some none, some none, some none, none, none, none, none, some none, none, some none, some none, none, none, some none, some none, none, some none, none, none, some none, some none, some none, none, some none, some none, some none, some none, none, some none, some none, some none, some none, some none, some none, some none, some none, none, some none, some none, some none]) (gk (by decide +kernel)) rfl rfl rfl dX9_init_14 rfl rfl ?_
  refine r_aload_n (pc' := 18) C dX9_init_17 rfl 0 rfl ?_
  refine r_bipush (pc' := 20) C dX9_init_18 rfl kb_8 ?_
  refine r_newa (pc' := 22) (aty := .int) (N := 8) (x := .inr (.inl (.int, 8))) C aw_int (Or.inl ⟨rfl, cell_int 8⟩) cK134 (okV_of (by decide +kernel)) (by decide) (by decide) (by decide) (by decide) (by decide) dX9_init_20 rfl (fun E2 Y2 C => ?_)
  have X := X.trans Y2 (by decide +kernel)
  refine r_SG (S2 := K135) (σ2 := H83) rfl rfl ?_
  show Wm _ _ _ _ _ _ _ [(0, .ref 149)] [.ref 151, .ref 149]
  refine r_putR (pc' := 25) (S' := K136) (fks := [none, none, some (some (some 150)), none, none, none, some none, some none, some none, some none, some none, none, none, none, none, some none, none, some none, some none, none, none, some none, some none, none, some none, none, none, some none, some none, some none, none, some none, some none, some none, some none, none, some none, some none, some none, some none, some none, some none, some none, some none, none, some none, some none, some none]) C hNm fcX9_27 ⟨_, rfl, rfl⟩ (gk (by decide +kernel)) rfl (fun _ => rfl) (fun _ => rfl) dX9_init_22 rfl rfl ?_
  refine r_aload_n (pc' := 26) C dX9_init_25 rfl 0 rfl ?_
  refine r_bipush (pc' := 28) C dX9_init_26 rfl kb_20 ?_
  refine r_newa (pc' := 30) (aty := .int) (N := 20) (x := .inr (.inl (.int, 20))) C aw_int (Or.inl ⟨rfl, cell_int 20⟩) cK136 (okV_of (by decide +kernel)) (by decide) (by decide) (by decide) (by decide) (by decide) dX9_init_28 rfl (fun E3 Y3 C => ?_)
  have X := X.trans Y3 (by decide +kernel)
  refine r_SG (S2 := K137) (σ2 := H84) rfl rfl ?_
  show Wm _ _ _ _ _ _ _ [(0, .ref 149)] [.ref 152, .ref 149]
  refine r_putR (pc' := 33) (S' := K138) (fks := [none, none, some (some (some 150)), none, none, none, some (some (some 151)), some none, some none, some none, some none, none, none, none, none, some none, none, some none, some none, none, none, some none, some none, none, some none, none, none, some none, some none, some none, none, some none, some none, some none, some none, none, some none, some none, some none, some none, some none, some none, some none, some none, none, some none, some none, some none]) C hNm fcX9_31 ⟨_, rfl, rfl⟩ (gk (by decide +kernel)) rfl (fun _ => rfl) (fun _ => rfl) dX9_init_30 rfl rfl ?_
  refine r_aload_n (pc' := 34) C dX9_init_33 rfl 0 rfl ?_
  refine r_bipush (pc' := 36) C dX9_init_34 rfl kb_37 ?_
  refine r_newa (pc' := 38) (aty := .int) (N := 37) (x := .inr (.inl (.int, 37))) C aw_int (Or.inl ⟨rfl, cell_int 37⟩) cK138 (okV_of (by decide +kernel)) (by decide) (by decide) (by decide) (by decide) (by decide) dX9_init_36 rfl (fun E4 Y4 C => ?_)
  have X := X.trans Y4 (by decide +kernel)
  refine r_SG (S2 := K139) (σ2 := H85) rfl rfl ?_
  show Wm _ _ _ _ _ _ _ [(0, .ref 149)] [.ref 153, .ref 149]
  refine r_putR (pc' := 41) (S' := K140) (fks := [none, none, some (some (some 150)), none, none, none, some (some (some 151)), some (some (some 152)), some none, some none, some none, none, none, none, none, some none, none, some none, some none, none, none, some none, some none, none, some none, none, none, some none, some none, some none, none, some none, some none, some none, some none, none, some none, some none, some none, some none, some none, some none, some none, some none, none, some none, some none, some none]) C hNm fcX9_34 ⟨_, rfl, rfl⟩ (gk (by decide +kernel)) rfl (fun _ => rfl) (fun _ => rfl) dX9_init_38 rfl rfl ?_
  refine r_aload_n (pc' := 42) C dX9_init_41 rfl 0 rfl ?_
  refine r_bipush (pc' := 44) C dX9_init_42 rfl kb_37 ?_
  refine r_newa (pc' := 46) (aty := .int) (N := 37) (x := .inr (.inl (.int, 37))) C aw_int (Or.inl ⟨rfl, cell_int 37⟩) cK140 (okV_of (by decide +kernel)) (by decide) (by decide) (by decide) (by decide) (by decide) dX9_init_44 rfl (fun E5 Y5 C => ?_)
  have X := X.trans Y5 (by decide +kernel)
  refine r_SG (S2 := K141) (σ2 := H86) rfl rfl ?_
  show Wm _ _ _ _ _ _ _ [(0, .ref 149)] [.ref 154, .ref 149]
  refine r_putR (pc' := 49) (S' := K142) (fks := [none, none, some (some (some 150)), none, none, none, some (some (some 151)), some (some (some 152)), some (some (some 153)), some none, some none, none, none, none, none, some none, none, some none, some none, none, none, some none, some none, none, some none, none, none, some none, some none, some none, none, some none, some none, some none, some none, none, some none, some none, some none, some none, some none, some none, some none, some none, none, some none, some none, some none]) C hNm fcX9_37 ⟨_, rfl, rfl⟩ (gk (by decide +kernel)) rfl (fun _ => rfl) (fun _ => rfl) dX9_init_46 rfl rfl ?_
  refine r_aload_n (pc' := 50) C dX9_init_49 rfl 0 rfl ?_
  refine r_bipush (pc' := 52) C dX9_init_50 rfl kb_80 ?_
  refine r_newa (pc' := 54) (aty := .int) (N := 80) (x := .inr (.inl (.int, 80))) C aw_int (Or.inl ⟨rfl, cell_int 80⟩) cK142 (okV_of (by decide +kernel)) (by decide) (by decide) (by decide) (by decide) (by decide) dX9_init_52 rfl (fun E6 Y6 C => ?_)
  have X := X.trans Y6 (by decide +kernel)
  refine r_SG (S2 := K143) (σ2 := H87) rfl rfl ?_
  show Wm _ _ _ _ _ _ _ [(0, .ref 149)] [.ref 155, .ref 149]
  refine r_putR (pc' := 57) (S' := K144) (fks := [none, none, some (some (some 150)), none, none, none, some (some (some 151)), some (some (some 152)), some (some (some 153)), some (some (some 154)), some none, none, none, none, none, some none, none, some none, some none, none, none, some none, some none, none, some none, none, none, some none, some none, some none, none, some none, some none, some none, some none, none, some none, some none, some none, some none, some none, some none, some none, some none, none, some none, some none, some none]) C hNm fcX9_40 ⟨_, rfl, rfl⟩ (gk (by decide +kernel)) rfl (fun _ => rfl) (fun _ => rfl) dX9_init_54 rfl rfl ?_
  refine r_aload_n (pc' := 58) C dX9_init_57 rfl 0 rfl ?_
  refine r_bipush (pc' := 60) C dX9_init_58 rfl kb_48 ?_
  refine r_newa (pc' := 62) (aty := .int) (N := 48) (x := .inr (.inl (.int, 48))) C aw_int (Or.inl ⟨rfl, cell_int 48⟩) cK144 (okV_of (by decide +kernel)) (by decide) (by decide) (by decide) (by decide) (by decide) dX9_init_60 rfl (fun E7 Y7 C => ?_)
  have X := X.trans Y7 (by decide +kernel)
  refine r_SG (S2 := K145) (σ2 := H88) rfl rfl ?_
  show Wm _ _ _ _ _ _ _ [(0, .ref 149)] [.ref 156, .ref 149]
  refine r_putR (pc' := 65) (S' := K146) (fks := [none, none, some (some (some 150)), none, none, none, some (some (some 151)), some (some (some 152)), some (some (some 153)), some (some (some 154)), some (some (some 155)), none, none, none, none, some none, none, some none, some none, none, none, some none, some none, none, some none, none, none, some none, some none, some none, none, some none, some none, some none, some none, none, some none, some none, some none, some none, some none, some none, some none, some none, none, some none, some none, some none]) C hNm fcX9_43 ⟨_, rfl, rfl⟩ (gk (by decide +kernel)) rfl (fun _ => rfl) (fun _ => rfl) dX9_init_62 rfl rfl ?_
  refine r_aload_n (pc' := 66) C dX9_init_65 rfl 0 rfl ?_
  refine r_bipush (pc' := 68) C dX9_init_66 rfl kb_80 ?_
  refine r_newa (pc' := 70) (aty := .int) (N := 80) (x := .inr (.inl (.int, 80))) C aw_int (Or.inl ⟨rfl, cell_int 80⟩) cK146 (okV_of (by decide +kernel)) (by decide) (by decide) (by decide) (by decide) (by decide) dX9_init_68 rfl (fun E8 Y8 C => ?_)
  have X := X.trans Y8 (by decide +kernel)
  refine r_SG (S2 := K147) (σ2 := H89) rfl rfl ?_
  show Wm _ _ _ _ _ _ _ [(0, .ref 149)] [.ref 157, .ref 149]
  refine r_putR (pc' := 73) (S' := K148) (fks := [none, none, some (some (some 150)), none, none, none, some (some (some 151)), some (some (some 152)), some (some (some 153)), some (some (some 154)), some (some (some 155)), none, none, none, none, some (some (some 156)), none, some none, some none, none, none, some none, some none, none, some none, none, none, some none, some none, some none, none, some none, some none, some none, some none, none, some none, some none, some none, some none, some none, some none, some none, some none, none, some none, some none, some none]) C hNm fcX9_46 ⟨_, rfl, rfl⟩ (gk (by decide +kernel)) rfl (fun _ => rfl) (fun _ => rfl) dX9_init_70 rfl rfl ?_
  refine r_aload_n (pc' := 74) C dX9_init_73 rfl 0 rfl ?_
  refine r_bipush (pc' := 76) C dX9_init_74 rfl kb_80 ?_
  refine r_newa (pc' := 78) (aty := .int) (N := 80) (x := .inr (.inl (.int, 80))) C aw_int (Or.inl ⟨rfl, cell_int 80⟩) cK148 (okV_of (by decide +kernel)) (by decide) (by decide) (by decide) (by decide) (by decide) dX9_init_76 rfl (fun E9 Y9 C => ?_)
  have X := X.trans Y9 (by decide +kernel)
  refine r_SG (S2 := K149) (σ2 := H90) rfl rfl ?_
  show Wm _ _ _ _ _ _ _ [(0, .ref 149)] [.ref 158, .ref 149]
  refine r_putR (pc' := 81) (S' := K150) (fks := [none, none, some (some (some 150)), none, none, none, some (some (some 151)), some (some (some 152)), some (some (some 153)), some (some (some 154)), some (some (some 155)), none, none, none, none, some (some (some 156)), none, some (some (some 157)), some none, none, none, some none, some none, none, some none, none, none, some none, some none, some none, none, some none, some none, some none, some none, none, some none, some none, some none, some none, some none, some none, some none, some none, none, some none, some none, some none]) C hNm fcX9_49 ⟨_, rfl, rfl⟩ (gk (by decide +kernel)) rfl (fun _ => rfl) (fun _ => rfl) dX9_init_78 rfl rfl ?_
  refine r_aload_n (pc' := 82) C dX9_init_81 rfl 0 rfl ?_
  refine r_bipush (pc' := 84) C dX9_init_82 rfl kb_80 ?_
  refine r_newa (pc' := 86) (aty := .int) (N := 80) (x := .inr (.inl (.int, 80))) C aw_int (Or.inl ⟨rfl, cell_int 80⟩) cK150 (okV_of (by decide +kernel)) (by decide) (by decide) (by decide) (by decide) (by decide) dX9_init_84 rfl (fun E10 Y10 C => ?_)
  have X := X.trans Y10 (by decide +kernel)
  refine r_SG (S2 := K151) (σ2 := H91) rfl rfl ?_
  show Wm _ _ _ _ _ _ _ [(0, .ref 149)] [.ref 159, .ref 149]
  refine r_putR (pc' := 89) (S' := K152) (fks := [none, none, some (some (some 150)), none, none, none, some (some (some 151)), some (some (some 152)), some (some (some 153)), some (some (some 154)), some (some (some 155)), none, none, none, none, some (some (some 156)), none, some (some (some 157)), some (some (some 158)), none, none, some none, some none, none, some none, none, none, some none, some none, some none, none, some none, some none, some none, some none, none, some none, some none, some none, some none, some none, some none, some none, some none, none, some none, some none, some none]) C hNm fcX9_52 ⟨_, rfl, rfl⟩ (gk (by decide +kernel)) rfl (fun _ => rfl) (fun _ => rfl) dX9_init_86 rfl rfl ?_
  refine r_aload_n (pc' := 90) C dX9_init_89 rfl 0 rfl ?_
  refine r_bipush (pc' := 92) C dX9_init_90 rfl kb_8 ?_
  refine r_newa (pc' := 94) (aty := .int) (N := 8) (x := .inr (.inl (.int, 8))) C aw_int (Or.inl ⟨rfl, cell_int 8⟩) cK152 (okV_of (by decide +kernel)) (by decide) (by decide) (by decide) (by decide) (by decide) dX9_init_92 rfl (fun E11 Y11 C => ?_)
  have X := X.trans Y11 (by decide +kernel)
  refine r_SG (S2 := K153) (σ2 := H92) rfl rfl ?_
  show Wm _ _ _ _ _ _ _ [(0, .ref 149)] [.ref 160, .ref 149]
  refine r_putR (pc' := 97) (S' := K154) (fks := [none, none, some (some (some 150)), none, none, none, some (some (some 151)), some (some (some 152)), some (some (some 153)), some (some (some 154)), some (some (some 155)), none, none, none, none, some (some (some 156)), none, some (some (some 157)), some (some (some 158)), none, none, some (some (some 159)), some none, none, some none, none, none, some none, some none, some none, none, some none, some none, some none, some none, none, some none, some none, some none, some none, some none, some none, some none, some none, none, some none, some none, some none]) C hNm fcX9_55 ⟨_, rfl, rfl⟩ (gk (by decide +kernel)) rfl (fun _ => rfl) (fun _ => rfl) dX9_init_94 rfl rfl ?_
  refine r_aload_n (pc' := 98) C dX9_init_97 rfl 0 rfl ?_
  refine r_sipush (pc' := 101) C dX9_init_98 rfl ks_592 ?_
  refine r_newa (pc' := 103) (aty := .int) (N := 592) (x := .inr (.inl (.int, 592))) C aw_int (Or.inl ⟨rfl, cell_int 592⟩) cK154 (okV_of (by decide +kernel)) (by decide) (by decide) (by decide) (by decide) (by decide) dX9_init_101 rfl (fun E12 Y12 C => ?_)
  have X := X.trans Y12 (by decide +kernel)
  refine r_SG (S2 := K155) (σ2 := H93) rfl rfl ?_
  show Wm _ _ _ _ _ _ _ [(0, .ref 149)] [.ref 161, .ref 149]
  refine r_putR (pc' := 106) (S' := K156) (fks := [none, none, some (some (some 150)), none, none, none, some (some (some 151)), some (some (some 152)), some (some (some 153)), some (some (some 154)), some (some (some 155)), none, none, none, none, some (some (some 156)), none, some (some (some 157)), some (some (some 158)), none, none, some (some (some 159)), some (some (some 160)), none, some none, none, none, some none, some none, some none, none, some none, some none, some none, some none, none, some none, some none, some none, some none, some none, some none, some none, some none, none, some none, some none, some none]) C hNm fcX9_58 ⟨_, rfl, rfl⟩ (gk (by decide +kernel)) rfl (fun _ => rfl) (fun _ => rfl) dX9_init_103 rfl rfl ?_
  refine r_aload_n (pc' := 107) C dX9_init_106 rfl 0 rfl ?_
  refine r_bipush (pc' := 109) C dX9_init_107 rfl kb_60 ?_
  refine r_newa (pc' := 111) (aty := .int) (N := 60) (x := .inr (.inl (.int, 60))) C aw_int (Or.inl ⟨rfl, cell_int 60⟩) cK156 (okV_of (by decide +kernel)) (by decide) (by decide) (by decide) (by decide) (by decide) dX9_init_109 rfl (fun E13 Y13 C => ?_)
  have X := X.trans Y13 (by decide +kernel)
  refine r_SG (S2 := K157) (σ2 := H94) rfl rfl ?_
  show Wm _ _ _ _ _ _ _ [(0, .ref 149)] [.ref 162, .ref 149]
  refine r_putR (pc' := 114) (S' := K158) (fks := [none, none, some (some (some 150)), none, none, none, some (some (some 151)), some (some (some 152)), some (some (some 153)), some (some (some 154)), some (some (some 155)), none, none, none, none, some (some (some 156)), none, some (some (some 157)), some (some (some 158)), none, none, some (some (some 159)), some (some (some 160)), none, some (some (some 161)), none, none, some none, some none, some none, none, some none, some none, some none, some none, none, some none, some none, some none, some none, some none, some none, some none, some none, none, some none, some none, some none]) C hNm fcX9_61 ⟨_, rfl, rfl⟩ (gk (by decide +kernel)) rfl (fun _ => rfl) (fun _ => rfl) dX9_init_111 rfl rfl ?_
  refine r_aload_n (pc' := 115) C dX9_init_114 rfl 0 rfl ?_
  refine r_bipush (pc' := 117) C dX9_init_115 rfl kb_60 ?_
  refine r_newa (pc' := 119) (aty := .int) (N := 60) (x := .inr (.inl (.int, 60))) C aw_int (Or.inl ⟨rfl, cell_int 60⟩) cK158 (okV_of (by decide +kernel)) (by decide) (by decide) (by decide) (by decide) (by decide) dX9_init_117 rfl (fun E14 Y14 C => ?_)
  have X := X.trans Y14 (by decide +kernel)
  refine r_SG (S2 := K159) (σ2 := H95) rfl rfl ?_
  show Wm _ _ _ _ _ _ _ [(0, .ref 149)] [.ref 163, .ref 149]
  refine r_putR (pc' := 122) (S' := K160) (fks := [none, none, some (some (some 150)), none, none, none, some (some (some 151)), some (some (some 152)), some (some (some 153)), some (some (some 154)), some (some (some 155)), none, none, none, none, some (some (some 156)), none, some (some (some 157)), some (some (some 158)), none, none, some (some (some 159)), some (some (some 160)), none, some (some (some 161)), none, none, some (some (some 162)), some none, some none, none, some none, some none, some none, some none, none, some none, some none, some none, some none, some none, some none, some none, some none, none, some none, some none, some none]) C hNm fcX9_64 ⟨_, rfl, rfl⟩ (gk (by decide +kernel)) rfl (fun _ => rfl) (fun _ => rfl) dX9_init_119 rfl rfl ?_
  refine r_aload_n (pc' := 123) C dX9_init_122 rfl 0 rfl ?_
  refine r_bipush (pc' := 125) C dX9_init_123 rfl kb_60 ?_
  refine r_newa (pc' := 127) (aty := .int) (N := 60) (x := .inr (.inl (.int, 60))) C aw_int (Or.inl ⟨rfl, cell_int 60⟩) cK160 (okV_of (by decide +kernel)) (by decide) (by decide) (by decide) (by decide) (by decide) dX9_init_125 rfl (fun E15 Y15 C => ?_)
  have X := X.trans Y15 (by decide +kernel)
  refine r_SG (S2 := K161) (σ2 := H96) rfl rfl ?_
  show Wm _ _ _ _ _ _ _ [(0, .ref 149)] [.ref 164, .ref 149]
  refine r_putR (pc' := 130) (S' := K162) (fks := [none, none, some (some (some 150)), none, none, none, some (some (some 151)), some (some (some 152)), some (some (some 153)), some (some (some 154)), some (some (some 155)), none, none, none, none, some (some (some 156)), none, some (some (some 157)), some (some (some 158)), none, none, some (some (some 159)), some (some (some 160)), none, some (some (some 161)), none, none, some (some (some 162)), some (some (some 163)), some none, none, some none, some none, some none, some none, none, some none, some none, some none, some none, some none, some none, some none, some none, none, some none, some none, some none]) C hNm fcX9_67 ⟨_, rfl, rfl⟩ (gk (by decide +kernel)) rfl (fun _ => rfl) (fun _ => rfl) dX9_init_127 rfl rfl ?_
  refine r_aload_n (pc' := 131) C dX9_init_130 rfl 0 rfl ?_
  refine r_bipush (pc' := 133) C dX9_init_131 rfl kb_8 ?_
  refine r_newa (pc' := 135) (aty := .int) (N := 8) (x := .inr (.inl (.int, 8))) C aw_int (Or.inl ⟨rfl, cell_int 8⟩) cK162 (okV_of (by decide +kernel)) (by decide) (by decide) (by decide) (by decide) (by decide) dX9_init_133 rfl (fun E16 Y16 C => ?_)
  have X := X.trans Y16 (by decide +kernel)
  refine r_SG (S2 := K163) (σ2 := H97) rfl rfl ?_
  show Wm _ _ _ _ _ _ _ [(0, .ref 149)] [.ref 165, .ref 149]
  refine r_putR (pc' := 138) (S' := K164) (fks := [none, none, some (some (some 150)), none, none, none, some (some (some 151)), some (some (some 152)), some (some (some 153)), some (some (some 154)), some (some (some 155)), none, none, none, none, some (some (some 156)), none, some (some (some 157)), some (some (some 158)), none, none, some (some (some 159)), some (some (some 160)), none, some (some (some 161)), none, none, some (some (some 162)), some (some (some 163)), some (some (some 164)), none, some none, some none, some none, some none, none, some none, some none, some none, some none, some none, some none, some none, some none, none, some none, some none, some none]) C hNm fcX9_70 ⟨_, rfl, rfl⟩ (gk (by decide +kernel)) rfl (fun _ => rfl) (fun _ => rfl) dX9_init_135 rfl rfl ?_
  refine r_aload_n (pc' := 139) C dX9_init_138 rfl 0 rfl ?_
  refine r_sipush (pc' := 142) C dX9_init_139 rfl ks_256 ?_
  refine r_newa (pc' := 144) (aty := .int) (N := 256) (x := .inr (.inl (.int, 256))) C aw_int (Or.inl ⟨rfl, cell_int 256⟩) cK164 (okV_of (by decide +kernel)) (by decide) (by decide) (by decide) (by decide) (by decide) dX9_init_142 rfl (fun E17 Y17 C => ?_)
  have X := X.trans Y17 (by decide +kernel)
  refine r_SG (S2 := K165) (σ2 := H98) rfl rfl ?_
  show Wm _ _ _ _ _ _ _ [(0, .ref 149)] [.ref 166, .ref 149]
  refine r_putR (pc' := 147) (S' := K166) (fks := [none, none, some (some (some 150)), none, none, none, some (some (some 151)), some (some (some 152)), some (some (some 153)), some (some (some 154)), some (some (some 155)), none, none, none, none, some (some (some 156)), none, some (some (some 157)), some (some (some 158)), none, none, some (some (some 159)), some (some (some 160)), none, some (some (some 161)), none, none, some (some (some 162)), some (some (some 163)), some (some (some 164)), none, some (some (some 165)), some none, some none, some none, none, some none, some none, some none, some none, some none, some none, some none, some none, none, some none, some none, some none]) C hNm fcX9_73 ⟨_, rfl, rfl⟩ (gk (by decide +kernel)) rfl (fun _ => rfl) (fun _ => rfl) dX9_init_144 rfl rfl ?_
  refine r_aload_n (pc' := 148) C dX9_init_147 rfl 0 rfl ?_
  refine r_bipush (pc' := 150) C dX9_init_148 rfl kb_8 ?_
  refine r_newa (pc' := 152) (aty := .int) (N := 8) (x := .inr (.inl (.int, 8))) C aw_int (Or.inl ⟨rfl, cell_int 8⟩) cK166 (okV_of (by decide +kernel)) (by decide) (by decide) (by decide) (by decide) (by decide) dX9_init_150 rfl (fun E18 Y18 C => ?_)
  have X := X.trans Y18 (by decide +kernel)
  refine r_SG (S2 := K167) (σ2 := H99) rfl rfl ?_
  show Wm _ _ _ _ _ _ _ [(0, .ref 149)] [.ref 167, .ref 149]
  refine r_putR (pc' := 155) (S' := K168) (fks := [none, none, some (some (some 150)), none, none, none, some (some (some 151)), some (some (some 152)), some (some (some 153)), some (some (some 154)), some (some (some 155)), none, none, none, none, some (some (some 156)), none, some (some (some 157)), some (some (some 158)), none, none, some (some (some 159)), some (some (some 160)), none, some (some (some 161)), none, none, some (some (some 162)), some (some (some 163)), some (some (some 164)), none, some (some (some 165)), some (some (some 166)), some none, some none, none, some none, some none, some none, some none, some none, some none, some none, some none, none, some none, some none, some none]) C hNm fcX9_76 ⟨_, rfl, rfl⟩ (gk (by decide +kernel)) rfl (fun _ => rfl) (fun _ => rfl) dX9_init_152 rfl rfl ?_
  refine r_aload_n (pc' := 156) C dX9_init_155 rfl 0 rfl ?_
  refine r_bipush (pc' := 158) C dX9_init_156 rfl kb_8 ?_
  refine r_newa (pc' := 160) (aty := .int) (N := 8) (x := .inr (.inl (.int, 8))) C aw_int (Or.inl ⟨rfl, cell_int 8⟩) cK168 (okV_of (by decide +kernel)) (by decide) (by decide) (by decide) (by decide) (by decide) dX9_init_158 rfl (fun E19 Y19 C => ?_)
  have X := X.trans Y19 (by decide +kernel)
  refine r_SG (S2 := K169) (σ2 := H100) rfl rfl ?_
  show Wm _ _ _ _ _ _ _ [(0, .ref 149)] [.ref 168, .ref 149]
  refine r_putR (pc' := 163) (S' := K170) (fks := [none, none, some (some (some 150)), none, none, none, some (some (some 151)), some (some (some 152)), some (some (some 153)), some (some (some 154)), some (some (some 155)), none, none, none, none, some (some (some 156)), none, some (some (some 157)), some (some (some 158)), none, none, some (some (some 159)), some (some (some 160)), none, some (some (some 161)), none, none, some (some (some 162)), some (some (some 163)), some (some (some 164)), none, some (some (some 165)), some (some (some 166)), some (some (some 167)), some none, none, some none, some none, some none, some none, some none, some none, some none, some none, none, some none, some none, some none]) C hNm fcX9_79 ⟨_, rfl, rfl⟩ (gk (by decide +kernel)) rfl (fun _ => rfl) (fun _ => rfl) dX9_init_160 rfl rfl ?_
  refine r_aload_n (pc' := 164) C dX9_init_163 rfl 0 rfl ?_
  refine r_bipush (pc' := 166) C dX9_init_164 rfl kb_10 ?_
  refine r_newa (pc' := 168) (aty := .int) (N := 10) (x := .inr (.inl (.int, 10))) C aw_int (Or.inl ⟨rfl, cell_int 10⟩) cK170 (okV_of (by decide +kernel)) (by decide) (by decide) (by decide) (by decide) (by decide) dX9_init_166 rfl (fun E20 Y20 C => ?_)
  have X := X.trans Y20 (by decide +kernel)
  refine r_SG (S2 := K171) (σ2 := H101) rfl rfl ?_
  show Wm _ _ _ _ _ _ _ [(0, .ref 149)] [.ref 169, .ref 149]
  refine r_putR (pc' := 171) (S' := K172) (fks := [none, none, some (some (some 150)), none, none, none, some (some (some 151)), some (some (some 152)), some (some (some 153)), some (some (some 154)), some (some (some 155)), none, none, none, none, some (some (some 156)), none, some (some (some 157)), some (some (some 158)), none, none, some (some (some 159)), some (some (some 160)), none, some (some (some 161)), none, none, some (some (some 162)), some (some (some 163)), some (some (some 164)), none, some (some (some 165)), some (some (some 166)), some (some (some 167)), some (some (some 168)), none, some none, some none, some none, some none, some none, some none, some none, some none, none, some none, some none, some none]) C hNm fcX9_82 ⟨_, rfl, rfl⟩ (gk (by decide +kernel)) rfl (fun _ => rfl) (fun _ => rfl) dX9_init_168 rfl rfl ?_
  refine r_aload_n (pc' := 172) C dX9_init_171 rfl 0 rfl ?_
  refine r_bipush (pc' := 174) C dX9_init_172 rfl kb_10 ?_
  refine r_newa (pc' := 176) (aty := .int) (N := 10) (x := .inr (.inl (.int, 10))) C aw_int (Or.inl ⟨rfl, cell_int 10⟩) cK172 (okV_of (by decide +kernel)) (by decide) (by decide) (by decide) (by decide) (by decide) dX9_init_174 rfl (fun E21 Y21 C => ?_)
  have X := X.trans Y21 (by decide +kernel)
  refine r_SG (S2 := K173) (σ2 := H102) rfl rfl ?_
  show Wm _ _ _ _ _ _ _ [(0, .ref 149)] [.ref 170, .ref 149]
  refine r_putR (pc' := 179) (S' := K174) (fks := [none, none, some (some (some 150)), none, none, none, some (some (some 151)), some (some (some 152)), some (some (some 153)), some (some (some 154)), some (some (some 155)), none, none, none, none, some (some (some 156)), none, some (some (some 157)), some (some (some 158)), none, none, some (some (some 159)), some (some (some 160)), none, some (some (some 161)), none, none, some (some (some 162)), some (some (some 163)), some (some (some 164)), none, some (some (some 165)), some (some (some 166)), some (some (some 167)), some (some (some 168)), none, some (some (some 169)), some none, some none, some none, some none, some none, some none, some none, none, some none, some none, some none]) C hNm fcX9_85 ⟨_, rfl, rfl⟩ (gk (by decide +kernel)) rfl (fun _ => rfl) (fun _ => rfl) dX9_init_176 rfl rfl ?_
  refine r_aload_n (pc' := 180) C dX9_init_179 rfl 0 rfl ?_
  refine r_bipush (pc' := 182) C dX9_init_180 rfl kb_10 ?_
  refine r_newa (pc' := 184) (aty := .int) (N := 10) (x := .inr (.inl (.int, 10))) C aw_int (Or.inl ⟨rfl, cell_int 10⟩) cK174 (okV_of (by decide +kernel)) (by decide) (by decide) (by decide) (by decide) (by decide) dX9_init_182 rfl (fun E22 Y22 C => ?_)
  have X := X.trans Y22 (by decide +kernel)
  refine r_SG (S2 := K175) (σ2 := H103) rfl rfl ?_
  show Wm _ _ _ _ _ _ _ [(0, .ref 149)] [.ref 171, .ref 149]
  refine r_putR (pc' := 187) (S' := K176) (fks := [none, none, some (some (some 150)), none, none, none, some (some (some 151)), some (some (some 152)), some (some (some 153)), some (some (some 154)), some (some (some 155)), none, none, none, none, some (some (some 156)), none, some (some (some 157)), some (some (some 158)), none, none, some (some (some 159)), some (some (some 160)), none, some (some (some 161)), none, none, some (some (some 162)), some (some (some 163)), some (some (some 164)), none, some (some (some 165)), some (some (some 166)), some (some (some 167)), some (some (some 168)), none, some (some (some 169)), some (some (some 170)), some none, some none, some none, some none, some none, some none, none, some none, some none, some none]) C hNm fcX9_88 ⟨_, rfl, rfl⟩ (gk (by decide +kernel)) rfl (fun _ => rfl) (fun _ => rfl) dX9_init_184 rfl rfl ?_
  refine r_aload_n (pc' := 188) C dX9_init_187 rfl 0 rfl ?_
  refine r_sipush (pc' := 191) C dX9_init_188 rfl ks_189 ?_
  refine r_newa (pc' := 193) (aty := .int) (N := 189) (x := .inr (.inl (.int, 189))) C aw_int (Or.inl ⟨rfl, cell_int 189⟩) cK176 (okV_of (by decide +kernel)) (by decide) (by decide) (by decide) (by decide) (by decide) dX9_init_191 rfl (fun E23 Y23 C => ?_)
  have X := X.trans Y23 (by decide +kernel)
  refine r_SG (S2 := K177) (σ2 := H104) rfl rfl ?_
  show Wm _ _ _ _ _ _ _ [(0, .ref 149)] [.ref 172, .ref 149]
  refine r_putR (pc' := 196) (S' := K178) (fks := [none, none, some (some (some 150)), none, none, none, some (some (some 151)), some (some (some 152)), some (some (some 153)), some (some (some 154)), some (some (some 155)), none, none, none, none, some (some (some 156)), none, some (some (some 157)), some (some (some 158)), none, none, some (some (some 159)), some (some (some 160)), none, some (some (some 161)), none, none, some (some (some 162)), some (some (some 163)), some (some (some 164)), none, some (some (some 165)), some (some (some 166)), some (some (some 167)), some (some (some 168)), none, some (some (some 169)), some (some (some 170)), some (some (some 171)), some none, some none, some none, some none, some none, none, some none, some none, some none]) C hNm fcX9_91 ⟨_, rfl, rfl⟩ (gk (by decide +kernel)) rfl (fun _ => rfl) (fun _ => rfl) dX9_init_193 rfl rfl ?_
  refine r_aload_n (pc' := 197) C dX9_init_196 rfl 0 rfl ?_
  refine r_bipush (pc' := 199) C dX9_init_197 rfl kb_12 ?_
  refine r_newa (pc' := 201) (aty := .int) (N := 12) (x := .inr (.inl (.int, 12))) C aw_int (Or.inl ⟨rfl, cell_int 12⟩) cK178 (okV_of (by decide +kernel)) (by decide) (by decide) (by decide) (by decide) (by decide) dX9_init_199 rfl (fun E24 Y24 C => ?_)
  have X := X.trans Y24 (by decide +kernel)
  refine r_SG (S2 := K179) (σ2 := H105) rfl rfl ?_
  show Wm _ _ _ _ _ _ _ [(0, .ref 149)] [.ref 173, .ref 149]
  refine r_putR (pc' := 204) (S' := K180) (fks := [none, none, some (some (some 150)), none, none, none, some (some (some 151)), some (some (some 152)), some (some (some 153)), some (some (some 154)), some (some (some 155)), none, none, none, none, some (some (some 156)), none, some (some (some 157)), some (some (some 158)), none, none, some (some (some 159)), some (some (some 160)), none, some (some (some 161)), none, none, some (some (some 162)), some (some (some 163)), some (some (some 164)), none, some (some (some 165)), some (some (some 166)), some (some (some 167)), some (some (some 168)), none, some (some (some 169)), some (some (some 170)), some (some (some 171)), some (some (some 172)), some none, some none, some none, some none, none, some none, some none, some none]) C hNm fcX9_94 ⟨_, rfl, rfl⟩ (gk (by decide +kernel)) rfl (fun _ => rfl) (fun _ => rfl) dX9_init_201 rfl rfl ?_
  refine r_aload_n (pc' := 205) C dX9_init_204 rfl 0 rfl ?_
  refine r_bipush (pc' := 207) C dX9_init_205 rfl kb_12 ?_
  refine r_newa (pc' := 209) (aty := .int) (N := 12) (x := .inr (.inl (.int, 12))) C aw_int (Or.inl ⟨rfl, cell_int 12⟩) cK180 (okV_of (by decide +kernel)) (by decide) (by decide) (by decide) (by decide) (by decide) dX9_init_207 rfl (fun E25 Y25 C => ?_)
  have X := X.trans Y25 (by decide +kernel)
  refine r_SG (S2 := K181) (σ2 := H106) rfl rfl ?_
  show Wm _ _ _ _ _ _ _ [(0, .ref 149)] [.ref 174, .ref 149]
  refine r_putR (pc' := 212) (S' := K182) (fks := [none, none, some (some (some 150)), none, none, none, some (some (some 151)), some (some (some 152)), some (some (some 153)), some (some (some 154)), some (some (some 155)), none, none, none, none, some (some (some 156)), none, some (some (some 157)), some (some (some 158)), none, none, some (some (some 159)), some (some (some 160)), none, some (some (some 161)), none, none, some (some (some 162)), some (some (some 163)), some (some (some 164)), none, some (some (some 165)), some (some (some 166)), some (some (some 167)), some (some (some 168)), none, some (some (some 169)), some (some (some 170)), some (some (some 171)), some (some (some 172)), some (some (some 173)), some none, some none, some none, none, some none, some none, some none]) C hNm fcX9_97 ⟨_, rfl, rfl⟩ (gk (by decide +kernel)) rfl (fun _ => rfl) (fun _ => rfl) dX9_init_209 rfl rfl ?_
  refine r_aload_n (pc' := 213) C dX9_init_212 rfl 0 rfl ?_
  refine r_sipush (pc' := 216) C dX9_init_213 rfl ks_441 ?_
  refine r_newa (pc' := 218) (aty := .boolean) (N := 441) (x := .inr (.inl (.boolean, 441))) C aw_boolean (Or.inl ⟨rfl, cell_bool 441⟩) cK182 (okV_of (by decide +kernel)) (by decide) (by decide) (by decide) (by decide) (by decide) dX9_init_216 rfl (fun E26 Y26 C => ?_)
  have X := X.trans Y26 (by decide +kernel)
  refine r_SG (S2 := K183) (σ2 := H107) rfl rfl ?_
  show Wm _ _ _ _ _ _ _ [(0, .ref 149)] [.ref 175, .ref 149]
  refine r_putR (pc' := 221) (S' := K184) (fks := [none, none, some (some (some 150)), none, none, none, some (some (some 151)), some (some (some 152)), some (some (some 153)), some (some (some 154)), some (some (some 155)), none, none, none, none, some (some (some 156)), none, some (some (some 157)), some (some (some 158)), none, none, some (some (some 159)), some (some (some 160)), none, some (some (some 161)), none, none, some (some (some 162)), some (some (some 163)), some (some (some 164)), none, some (some (some 165)), some (some (some 166)), some (some (some 167)), some (some (some 168)), none, some (some (some 169)), some (some (some 170)), some (some (some 171)), some (some (some 172)), some (some (some 173)), some (some (some 174)), some none, some none, none, some none, some none, some none]) C hNm fcX9_100 ⟨_, rfl, rfl⟩ (gk (by decide +kernel)) rfl (fun _ => rfl) (fun _ => rfl) dX9_init_218 rfl rfl ?_
  refine r_aload_n (pc' := 222) C dX9_init_221 rfl 0 rfl ?_
  refine r_bipush (pc' := 224) C dX9_init_222 rfl kb_80 ?_
  refine r_newa (pc' := 226) (aty := .int) (N := 80) (x := .inr (.inl (.int, 80))) C aw_int (Or.inl ⟨rfl, cell_int 80⟩) cK184 (okV_of (by decide +kernel)) (by decide) (by decide) (by decide) (by decide) (by decide) dX9_init_224 rfl (fun E27 Y27 C => ?_)
  have X := X.trans Y27 (by decide +kernel)
  refine r_SG (S2 := K185) (σ2 := H108) rfl rfl ?_
  show Wm _ _ _ _ _ _ _ [(0, .ref 149)] [.ref 176, .ref 149]
  refine r_putR (pc' := 229) (S' := K186) (fks := [none, none, some (some (some 150)), none, none, none, some (some (some 151)), some (some (some 152)), some (some (some 153)), some (some (some 154)), some (some (some 155)), none, none, none, none, some (some (some 156)), none, some (some (some 157)), some (some (some 158)), none, none, some (some (some 159)), some (some (some 160)), none, some (some (some 161)), none, none, some (some (some 162)), some (some (some 163)), some (some (some 164)), none, some (some (some 165)), some (some (some 166)), some (some (some 167)), some (some (some 168)), none, some (some (some 169)), some (some (some 170)), some (some (some 171)), some (some (some 172)), some (some (some 173)), some (some (some 174)), some (some (some 175)), some none, none, some none, some none, some none]) C hNm fcX9_104 ⟨_, rfl, rfl⟩ (gk (by decide +kernel)) rfl (fun _ => rfl) (fun _ => rfl) dX9_init_226 rfl rfl ?_
  refine r_aload_n (pc' := 230) C dX9_init_229 rfl 0 rfl ?_
  refine r_iconst (pc' := 231) C dX9_init_230 rfl kc_3 ?_
  refine r_newa (pc' := 233) (aty := .boolean) (N := 3) (x := .inr (.inl (.boolean, 3))) C aw_boolean (Or.inl ⟨rfl, cell_bool 3⟩) cK186 (okV_of (by decide +kernel)) (by decide) (by decide) (by decide) (by decide) (by decide) dX9_init_231 rfl (fun E28 Y28 C => ?_)
  have X := X.trans Y28 (by decide +kernel)
  refine r_SG (S2 := K187) (σ2 := H109) rfl rfl ?_
  show Wm _ _ _ _ _ _ _ [(0, .ref 149)] [.ref 177, .ref 149]
  refine r_putR (pc' := 236) (S' := K188) (fks := [none, none, some (some (some 150)), none, none, none, some (some (some 151)), some (some (some 152)), some (some (some 153)), some (some (some 154)), some (some (some 155)), none, none, none, none, some (some (some 156)), none, some (some (some 157)), some (some (some 158)), none, none, some (some (some 159)), some (some (some 160)), none, some (some (some 161)), none, none, some (some (some 162)), some (some (some 163)), some (some (some 164)), none, some (some (some 165)), some (some (some 166)), some (some (some 167)), some (some (some 168)), none, some (some (some 169)), some (some (some 170)), some (some (some 171)), some (some (some 172)), some (some (some 173)), some (some (some 174)), some (some (some 175)), some (some (some 176)), none, some none, some none, some none]) C hNm fcX9_107 ⟨_, rfl, rfl⟩ (gk (by decide +kernel)) rfl (fun _ => rfl) (fun _ => rfl) dX9_init_233 rfl rfl ?_
  refine r_aload_n (pc' := 237) C dX9_init_236 rfl 0 rfl ?_
  refine r_iconst (pc' := 238) C dX9_init_237 rfl kc_3 ?_
  refine r_newa (pc' := 240) (aty := .int) (N := 3) (x := .inr (.inl (.int, 3))) C aw_int (Or.inl ⟨rfl, cell_int 3⟩) cK188 (okV_of (by decide +kernel)) (by decide) (by decide) (by decide) (by decide) (by decide) dX9_init_238 rfl (fun E29 Y29 C => ?_)
  have X := X.trans Y29 (by decide +kernel)
  refine r_SG (S2 := K189) (σ2 := H110) rfl rfl ?_
  show Wm _ _ _ _ _ _ _ [(0, .ref 149)] [.ref 178, .ref 149]
  refine r_putR (pc' := 243) (S' := K190) (fks := [none, none, some (some (some 150)), none, none, none, some (some (some 151)), some (some (some 152)), some (some (some 153)), some (some (some 154)), some (some (some 155)), none, none, none, none, some (some (some 156)), none, some (some (some 157)), some (some (some 158)), none, none, some (some (some 159)), some (some (some 160)), none, some (some (some 161)), none, none, some (some (some 162)), some (some (some 163)), some (some (some 164)), none, some (some (some 165)), some (some (some 166)), some (some (some 167)), some (some (some 168)), none, some (some (some 169)), some (some (some 170)), some (some (some 171)), some (some (some 172)), some (some (some 173)), some (some (some 174)), some (some (some 175)), some (some (some 176)), none, some (some (some 177)), some none, some none]) C hNm fcX9_110 ⟨_, rfl, rfl⟩ (gk (by decide +kernel)) rfl (fun _ => rfl) (fun _ => rfl) dX9_init_240 rfl rfl ?_
  refine r_aload_n (pc' := 244) C dX9_init_243 rfl 0 rfl ?_
  refine r_bipush (pc' := 246) C dX9_init_244 rfl kb_111 ?_
  refine r_newa (pc' := 248) (aty := .int) (N := 111) (x := .inr (.inl (.int, 111))) C aw_int (Or.inl ⟨rfl, cell_int 111⟩) cK190 (okV_of (by decide +kernel)) (by decide) (by decide) (by decide) (by decide) (by decide) dX9_init_246 rfl (fun E30 Y30 C => ?_)
  have X := X.trans Y30 (by decide +kernel)
  refine r_SG (S2 := K191) (σ2 := H111) rfl rfl ?_
  show Wm _ _ _ _ _ _ _ [(0, .ref 149)] [.ref 179, .ref 149]
  refine r_putR (pc' := 251) (S' := K192) (fks := [none, none, some (some (some 150)), none, none, none, some (some (some 151)), some (some (some 152)), some (some (some 153)), some (some (some 154)), some (some (some 155)), none, none, none, none, some (some (some 156)), none, some (some (some 157)), some (some (some 158)), none, none, some (some (some 159)), some (some (some 160)), none, some (some (some 161)), none, none, some (some (some 162)), some (some (some 163)), some (some (some 164)), none, some (some (some 165)), some (some (some 166)), some (some (some 167)), some (some (some 168)), none, some (some (some 169)), some (some (some 170)), some (some (some 171)), some (some (some 172)), some (some (some 173)), some (some (some 174)), some (some (some 175)), some (some (some 176)), none, some (some (some 177)), some (some (some 178)), some none]) C hNm fcX9_113 ⟨_, rfl, rfl⟩ (gk (by decide +kernel)) rfl (fun _ => rfl) (fun _ => rfl) dX9_init_248 rfl rfl ?_
  refine r_aload_n (pc' := 252) C dX9_init_251 rfl 0 rfl ?_
  refine r_getR (pc' := 255) (fks := [none, none, some (some (some 150)), none, none, none, some (some (some 151)), some (some (some 152)), some (some (some 153)), some (some (some 154)), some (some (some 155)), none, none, none, none, some (some (some 156)), none, some (some (some 157)), some (some (some 158)), none, none, some (some (some 159)), some (some (some 160)), none, some (some (some 161)), none, none, some (some (some 162)), some (some (some 163)), some (some (some 164)), none, some (some (some 165)), some (some (some 166)), some (some (some 167)), some (some (some 168)), none, some (some (some 169)), some (some (some 170)), some (some (some 171)), some (some (some 172)), some (some (some 173)), some (some (some 174)), some (some (some 175)), some (some (some 176)), none, some (some (some 177)), some (some (some 178)), some (some (some 179))]) C flX9_34 (gk (by decide +kernel)) rfl dX9_init_252 rfl ?_
  refine r_bipush (pc' := 257) C dX9_init_255 rfl kb_33 ?_
  refine r_bipush (pc' := 259) C dX9_init_257 rfl kb_30 ?_
  refine r_iast (pc' := 260) (σ1 := H112) (n := 37) C (gk (by decide +kernel)) (vin (by decide +kernel)) dX9_init_259 rfl rfl ?_
  exact r_vretN C X hE dX9_init_260
