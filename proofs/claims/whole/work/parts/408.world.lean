/-! ===== the world at the entry ===== -/
theorem st_arr {args : Array Value} {s : State} {C n d : String} {ty : FieldType} {l : List Int32} {A : Nat → Prop} (hN : l.length < 2 ^ 31) (hl : (Cond.laysStatic C n d).before args s = true) (hini : (Cond.initialized C).before args s = true) (harr : (Cond.arrayOf (.static C n d) ty).before args s = true) (hlen : (Cond.eq (.length (.static C n d)) (.int (Int32.ofNat l.length))).before args s = true) (hel : ∀ j : Nat, j < l.length → (Cond.eq (.elem (.static C n d) (.int (Int32.ofNat j))) (.int (l.getD j 0))).before args s = true) (hA : ∀ a : Nat, a < s.heap.size → ¬ A a) : ∃ t : Nat, va_Z C n d (.ref t) A s s.heap ∧ va_T ty t l.length (fun j => .int (l.getD j 0)) A s s.heap := by
  obtain ⟨t, ht, hT⟩ := va_Tof (f := fun j => .int (l.getD j 0)) (A := A) hN harr (va_eqt hlen) (fun j hj => va_eqt (hel j hj)) hA
  exact ⟨t, va_Zref hl hini ht hA, hT⟩
theorem st_str {args : Array Value} {s : State} {tm : Term} {l : List Int32} {A : Nat → Prop} (hN : l.length < 2 ^ 31) (hex : (Cond.exactly tm "java/lang/String").before args s = true) (hco : (Cond.eq (.field tm "java/lang/String" "coder" "B") (.int 0)).before args s = true) (har : (Cond.arrayOf (.field tm "java/lang/String" "value" "[B") .byte).before args s = true) (hle : (Cond.eq (.length (.field tm "java/lang/String" "value" "[B")) (.int (Int32.ofNat l.length))).before args s = true) (hel : ∀ j : Nat, j < l.length → (Cond.eq (.elem (.field tm "java/lang/String" "value" "[B") (.int (Int32.ofNat j))) (.int (l.getD j 0))).before args s = true) (hA : ∀ a : Nat, a < s.heap.size → ¬ A a) : ∃ a v : Nat, tm.eval args s none [] s = some (.ref a) ∧ va_O "java/lang/String" a A s s.heap ∧ va_OF "java/lang/String" "coder" "B" (.int 0) a A s s.heap ∧ va_OF "java/lang/String" "value" "[B" (.ref v) a A s s.heap ∧ va_T .byte v l.length (fun j => .int (l.getD j 0)) A s s.heap := by
  obtain ⟨a, c, cA, kA, q1, q2, q3, q4, q5, q6, -⟩ := Cond.exactly_spec (args := args) (first := s) (o := none) (s := s) (idx := []) (t := tm) (cls := "java/lang/String") hex
  obtain ⟨t, ht, hT⟩ := va_Tof (f := fun j => .int (l.getD j 0)) (A := A) hN har (va_eqt hle) (fun j hj => va_eqt (hel j hj)) hA
  exact ⟨a, t, q1, ⟨cA, q3, q5, by rw [q6]; exact q2, hA a (Array.getElem?_eq_some_iff.mp q3).1⟩, vk_OFof q1 (va_eqt hco) hA, vk_OFof q1 ht hA, hT⟩
theorem st_txt {args : Array Value} {s : State} {tm : Term} (hex : (Cond.exactly tm "java/lang/String").before args s = true) : ∃ a : Nat, tm.eval args s none [] s = some (.ref a) := by
  obtain ⟨a, c, cA, kA, q1, -⟩ := Cond.exactly_spec (args := args) (first := s) (o := none) (s := s) (idx := []) (t := tm) (cls := "java/lang/String") hex
  exact ⟨a, q1⟩
abbrev gvL : List Cond := flatC (Jvm.Cond.and given_1 narrow_1)
theorem gz_0 : ∀ j, j < 7 → Cond.eq (.elem (.static RX8 "PLAIN_RULE" "[C") (.int (Int32.ofNat j))) (.int (oC0.getD j 0)) ∈ gvL := by decide +kernel
theorem gz_0a : Cond.arrayOf (.static RX8 "PLAIN_RULE" "[C") .char ∈ gvL ∧ Cond.eq (.length (.static RX8 "PLAIN_RULE" "[C")) (.int (Int32.ofNat oC0.length)) ∈ gvL := by decide +kernel
theorem gz_0b : Cond.laysStatic RX8 "PLAIN_RULE" "[C" ∈ lw_tbl ∧ Cond.initialized RX8 ∈ lw_tbl := by decide +kernel
theorem gz_1 : ∀ j, j < 8 → Cond.eq (.elem (.static RX3 "NAMES" "[C") (.int (Int32.ofNat j))) (.int (oC1.getD j 0)) ∈ gvL := by decide +kernel
theorem gz_1a : Cond.arrayOf (.static RX3 "NAMES" "[C") .char ∈ gvL ∧ Cond.eq (.length (.static RX3 "NAMES" "[C")) (.int (Int32.ofNat oC1.length)) ∈ gvL := by decide +kernel
theorem gz_1b : Cond.laysStatic RX3 "NAMES" "[C" ∈ lw_tbl ∧ Cond.initialized RX3 ∈ lw_tbl := by decide +kernel
theorem gz_2 : ∀ j, j < 5 → Cond.eq (.elem (.static RX8 "MOVE_FIRST" "[I") (.int (Int32.ofNat j))) (.int (oC2.getD j 0)) ∈ gvL := by decide +kernel
theorem gz_2a : Cond.arrayOf (.static RX8 "MOVE_FIRST" "[I") .int ∈ gvL ∧ Cond.eq (.length (.static RX8 "MOVE_FIRST" "[I")) (.int (Int32.ofNat oC2.length)) ∈ gvL := by decide +kernel
theorem gz_2b : Cond.laysStatic RX8 "MOVE_FIRST" "[I" ∈ lw_tbl ∧ Cond.initialized RX8 ∈ lw_tbl := by decide +kernel
theorem gz_3 : ∀ j, j < 5 → Cond.eq (.elem (.static RX8 "MOVE_SECOND" "[I") (.int (Int32.ofNat j))) (.int (oC3.getD j 0)) ∈ gvL := by decide +kernel
theorem gz_3a : Cond.arrayOf (.static RX8 "MOVE_SECOND" "[I") .int ∈ gvL ∧ Cond.eq (.length (.static RX8 "MOVE_SECOND" "[I")) (.int (Int32.ofNat oC3.length)) ∈ gvL := by decide +kernel
theorem gz_3b : Cond.laysStatic RX8 "MOVE_SECOND" "[I" ∈ lw_tbl ∧ Cond.initialized RX8 ∈ lw_tbl := by decide +kernel
def oB0 : List Int32 := [122, 119, 107, 103, 104, 100, 105, 110]
theorem gs_0 : ∀ j, j < 8 → Cond.eq (.elem (.field (.string RX9 232) "java/lang/String" "value" "[B") (.int (Int32.ofNat j))) (.int (oB0.getD j 0)) ∈ gvL := by decide +kernel
theorem gs_0a : Cond.exactly (.string RX9 232) "java/lang/String" ∈ gvL ∧ Cond.eq (.field (.string RX9 232) "java/lang/String" "coder" "B") (.int 0) ∈ gvL ∧ Cond.arrayOf (.field (.string RX9 232) "java/lang/String" "value" "[B") .byte ∈ gvL ∧ Cond.eq (.length (.field (.string RX9 232) "java/lang/String" "value" "[B")) (.int (Int32.ofNat oB0.length)) ∈ gvL := by decide +kernel
theorem gs_0b : Cond.stringRef RX9 232 "zwkghdin" ∈ lw_tbl := by decide +kernel
def oB1 : List Int32 := [60, 62, 61]
theorem gs_1 : ∀ j, j < 3 → Cond.eq (.elem (.field (.string RX9 241) "java/lang/String" "value" "[B") (.int (Int32.ofNat j))) (.int (oB1.getD j 0)) ∈ gvL := by decide +kernel
theorem gs_1a : Cond.exactly (.string RX9 241) "java/lang/String" ∈ gvL ∧ Cond.eq (.field (.string RX9 241) "java/lang/String" "coder" "B") (.int 0) ∈ gvL ∧ Cond.arrayOf (.field (.string RX9 241) "java/lang/String" "value" "[B") .byte ∈ gvL ∧ Cond.eq (.length (.field (.string RX9 241) "java/lang/String" "value" "[B")) (.int (Int32.ofNat oB1.length)) ∈ gvL := by decide +kernel
theorem gs_1b : Cond.stringRef RX9 241 "<>=" ∈ lw_tbl := by decide +kernel
def oB2 : List Int32 := [43, 45]
theorem gs_2 : ∀ j, j < 2 → Cond.eq (.elem (.field (.string RX9 243) "java/lang/String" "value" "[B") (.int (Int32.ofNat j))) (.int (oB2.getD j 0)) ∈ gvL := by decide +kernel
theorem gs_2a : Cond.exactly (.string RX9 243) "java/lang/String" ∈ gvL ∧ Cond.eq (.field (.string RX9 243) "java/lang/String" "coder" "B") (.int 0) ∈ gvL ∧ Cond.arrayOf (.field (.string RX9 243) "java/lang/String" "value" "[B") .byte ∈ gvL ∧ Cond.eq (.length (.field (.string RX9 243) "java/lang/String" "value" "[B")) (.int (Int32.ofNat oB2.length)) ∈ gvL := by decide +kernel
theorem gs_2b : Cond.stringRef RX9 243 "+-" ∈ lw_tbl := by decide +kernel
def oB3 : List Int32 := [42, 47]
theorem gs_3 : ∀ j, j < 2 → Cond.eq (.elem (.field (.string RX9 245) "java/lang/String" "value" "[B") (.int (Int32.ofNat j))) (.int (oB3.getD j 0)) ∈ gvL := by decide +kernel
theorem gs_3a : Cond.exactly (.string RX9 245) "java/lang/String" ∈ gvL ∧ Cond.eq (.field (.string RX9 245) "java/lang/String" "coder" "B") (.int 0) ∈ gvL ∧ Cond.arrayOf (.field (.string RX9 245) "java/lang/String" "value" "[B") .byte ∈ gvL ∧ Cond.eq (.length (.field (.string RX9 245) "java/lang/String" "value" "[B")) (.int (Int32.ofNat oB3.length)) ∈ gvL := by decide +kernel
theorem gs_3b : Cond.stringRef RX9 245 "*/" ∈ lw_tbl := by decide +kernel
def oB4 : List Int32 := [110, 112, 116, 108, 103]
theorem gs_4 : ∀ j, j < 5 → Cond.eq (.elem (.field (.string RX9 351) "java/lang/String" "value" "[B") (.int (Int32.ofNat j))) (.int (oB4.getD j 0)) ∈ gvL := by decide +kernel
theorem gs_4a : Cond.exactly (.string RX9 351) "java/lang/String" ∈ gvL ∧ Cond.eq (.field (.string RX9 351) "java/lang/String" "coder" "B") (.int 0) ∈ gvL ∧ Cond.arrayOf (.field (.string RX9 351) "java/lang/String" "value" "[B") .byte ∈ gvL ∧ Cond.eq (.length (.field (.string RX9 351) "java/lang/String" "value" "[B")) (.int (Int32.ofNat oB4.length)) ∈ gvL := by decide +kernel
theorem gs_4b : Cond.stringRef RX9 351 "nptlg" ∈ lw_tbl := by decide +kernel
theorem gx_0 : Cond.exactly (.string RX8 143) "java/lang/String" ∈ gvL := by decide +kernel
theorem gx_0b : Cond.stringRef RX8 143 "no such thing" ∈ lw_tbl := by decide +kernel
theorem gx_1 : Cond.exactly (.string RX8 180) "java/lang/String" ∈ gvL := by decide +kernel
theorem gx_1b : Cond.stringRef RX8 180 "no such what" ∈ lw_tbl := by decide +kernel
theorem gx_2 : Cond.exactly (.string RX8 415) "java/lang/String" ∈ gvL := by decide +kernel
theorem gx_2b : Cond.stringRef RX8 415 "no such number" ∈ lw_tbl := by decide +kernel
theorem gq_c : Cond.laysStatic "java/lang/String" "COMPACT_STRINGS" "Z" ∈ lw_tbl ∧ Cond.initialized "java/lang/String" ∈ lw_tbl ∧ Cond.eq (.static "java/lang/String" "COMPACT_STRINGS" "Z") (.int 1) ∈ gvL := by decide +kernel
theorem gq_f : Cond.laysStatic "jdk/internal/util/Preconditions" "SIOOBE_FORMATTER" "Ljava/util/function/BiFunction;" ∈ lw_tbl ∧ Cond.initialized "jdk/internal/util/Preconditions" ∈ lw_tbl ∧ Cond.isRef (.static "jdk/internal/util/Preconditions" "SIOOBE_FORMATTER" "Ljava/util/function/BiFunction;") ∈ gvL := by decide +kernel
theorem gq_u : Cond.laysStatic Bundle.tN "UNASSIGNED_STACK" Bundle.steD ∈ lw_tbl ∧ Cond.initialized Bundle.tN ∈ lw_tbl ∧ Cond.isRef (.static Bundle.tN "UNASSIGNED_STACK" Bundle.steD) ∈ gvL := by decide +kernel
theorem gq_s : Cond.laysStatic Bundle.tN "SUPPRESSED_SENTINEL" Bundle.listD ∈ lw_tbl ∧ Cond.isRef (.static Bundle.tN "SUPPRESSED_SENTINEL" Bundle.listD) ∈ gvL := by decide +kernel
theorem gq_o : Cond.arrayOver (.object RX5) ∈ lw_tbl ∧ Cond.arrayOver (.array .int) ∈ lw_tbl := by decide +kernel
/-- the world of the entry -/
theorem world {s : State} {b : Nat} (l : Launch) (D : va_G) (hts : ∀ w ∈ lw_tbl, w.before #[Value.ref b] s = true) (hgv : (Jvm.Cond.and given_1 narrow_1).before #[Value.ref b] s = true) : ∃ E : Ev, E.1 = l ∧ E.2.1 = D ∧ E.2.2.2 = s.heap.size ∧ ad E 1050 = b ∧ OL E s s.heap := by
  have hs := flat_of_before _ hgv
  have hA : ∀ a : Nat, a < s.heap.size → ¬ (fun q : Nat => s.heap.size ≤ q) a := fun a h => Nat.not_le.mpr h
  obtain ⟨z0, hz0, hy0⟩ := st_arr (l := oC0) (by decide) (hts _ gz_0b.1) (hts _ gz_0b.2) (hs _ gz_0a.1) (hs _ gz_0a.2) (fun j hj => hs _ (gz_0 j hj)) hA
  obtain ⟨z1, hz1, hy1⟩ := st_arr (l := oC1) (by decide) (hts _ gz_1b.1) (hts _ gz_1b.2) (hs _ gz_1a.1) (hs _ gz_1a.2) (fun j hj => hs _ (gz_1 j hj)) hA
  obtain ⟨z2, hz2, hy2⟩ := st_arr (l := oC2) (by decide) (hts _ gz_2b.1) (hts _ gz_2b.2) (hs _ gz_2a.1) (hs _ gz_2a.2) (fun j hj => hs _ (gz_2 j hj)) hA
  obtain ⟨z3, hz3, hy3⟩ := st_arr (l := oC3) (by decide) (hts _ gz_3b.1) (hts _ gz_3b.2) (hs _ gz_3a.1) (hs _ gz_3a.2) (fun j hj => hs _ (gz_3 j hj)) hA
  obtain ⟨s0, v0, e0, a0, b0, c0, d0⟩ := st_str (tm := .string RX9 232) (l := oB0) (by decide) (hs _ gs_0a.1) (hs _ gs_0a.2.1) (hs _ gs_0a.2.2.1) (hs _ gs_0a.2.2.2) (fun j hj => hs _ (gs_0 j hj)) hA
  obtain ⟨s1, v1, e1, a1, b1, c1, d1⟩ := st_str (tm := .string RX9 241) (l := oB1) (by decide) (hs _ gs_1a.1) (hs _ gs_1a.2.1) (hs _ gs_1a.2.2.1) (hs _ gs_1a.2.2.2) (fun j hj => hs _ (gs_1 j hj)) hA
  obtain ⟨s2, v2, e2, a2, b2, c2, d2⟩ := st_str (tm := .string RX9 243) (l := oB2) (by decide) (hs _ gs_2a.1) (hs _ gs_2a.2.1) (hs _ gs_2a.2.2.1) (hs _ gs_2a.2.2.2) (fun j hj => hs _ (gs_2 j hj)) hA
  obtain ⟨s3, v3, e3, a3, b3, c3, d3⟩ := st_str (tm := .string RX9 245) (l := oB3) (by decide) (hs _ gs_3a.1) (hs _ gs_3a.2.1) (hs _ gs_3a.2.2.1) (hs _ gs_3a.2.2.2) (fun j hj => hs _ (gs_3 j hj)) hA
  obtain ⟨s4, v4, e4, a4, b4, c4, d4⟩ := st_str (tm := .string RX9 351) (l := oB4) (by decide) (hs _ gs_4a.1) (hs _ gs_4a.2.1) (hs _ gs_4a.2.2.1) (hs _ gs_4a.2.2.2) (fun j hj => hs _ (gs_4 j hj)) hA
  obtain ⟨x0, f0⟩ := st_txt (hs _ gx_0)
  obtain ⟨x1, f1⟩ := st_txt (hs _ gx_1)
  obtain ⟨x2, f2⟩ := st_txt (hs _ gx_2)
  have hc := va_Zof (A := fun q : Nat => s.heap.size ≤ q) (hts _ gq_c.1) (hts _ gq_c.2.1) (va_eqt (hs _ gq_c.2.2)) hA
  have hf := va_Zqof (A := fun q : Nat => s.heap.size ≤ q) (hts _ gq_f.1) (hts _ gq_f.2.1) (hs _ gq_f.2.2) hA
  have hu := vx_Zqof (A := fun q : Nat => s.heap.size ≤ q) (hts _ gq_u.1) (hts _ gq_u.2.1) (hs _ gq_u.2.2) hA
  have hw := vx_Zqof (A := fun q : Nat => s.heap.size ≤ q) (hts _ gq_s.1) (hts _ gq_u.2.1) (hs _ gq_s.2) hA
  obtain ⟨t30, t31, hq⟩ : ∃ t30 t31 : Nat, va_Z "jdk/internal/util/Preconditions" "SIOOBE_FORMATTER" "Ljava/util/function/BiFunction;" (if t31 = 0 then .null else .ref t30) (fun q : Nat => s.heap.size ≤ q) s s.heap := by
    rcases hf with h | ⟨t, h⟩
    · exact ⟨0, 0, h⟩
    · exact ⟨t, 1, h⟩
  refine ⟨(l, D, fun k => [z0, z1, z2, z3, 0, 0, 0, 0, 0, 0, s0, s1, s2, s3, s4, 0, 0, 0, 0, 0, v0, v1, v2, v3, v4, 0, 0, 0, 0, 0, t30, t31, 0, 0, 0, 0, 0, 0, 0, 0, x0, x1, x2, 0, 0, 0, 0, 0, 0, 0, b].getD (k - 1000) 0, s.heap.size), rfl, rfl, rfl, rfl, ?_, ?_, ?_⟩
  · intro k a hk
    unfold oT at hk
    by_cases h0 : k = 1000
    · subst h0
      obtain rfl := Option.some.inj hk
      exact ⟨hz0, hy0⟩
    by_cases h1 : k = 1001
    · subst h1
      obtain rfl := Option.some.inj hk
      exact ⟨hz1, hy1⟩
    by_cases h2 : k = 1002
    · subst h2
      obtain rfl := Option.some.inj hk
      exact ⟨hz2, hy2⟩
    by_cases h3 : k = 1003
    · subst h3
      obtain rfl := Option.some.inj hk
      exact ⟨hz3, hy3⟩
    · rw [if_neg h0, if_neg h1, if_neg h2, if_neg h3] at hk
      cases hk
  · refine ⟨fun i q hi => ?_, hc, ?_, hu, hw⟩
    · have hi5 : i < 5 := lt_of_get hi
      have : i = 0 ∨ i = 1 ∨ i = 2 ∨ i = 3 ∨ i = 4 := by omega
      rcases this with rfl | rfl | rfl | rfl | rfl
      · obtain rfl := Option.some.inj hi
        exact ⟨a0, b0, c0, d0⟩
      · obtain rfl := Option.some.inj hi
        exact ⟨a1, b1, c1, d1⟩
      · obtain rfl := Option.some.inj hi
        exact ⟨a2, b2, c2, d2⟩
      · obtain rfl := Option.some.inj hi
        exact ⟨a3, b3, c3, d3⟩
      · obtain rfl := Option.some.inj hi
        exact ⟨a4, b4, c4, d4⟩
    · have e : tr (l, D, fun k => [z0, z1, z2, z3, 0, 0, 0, 0, 0, 0, s0, s1, s2, s3, s4, 0, 0, 0, 0, 0, v0, v1, v2, v3, v4, 0, 0, 0, 0, 0, t30, t31, 0, 0, 0, 0, 0, 0, 0, 0, x0, x1, x2, 0, 0, 0, 0, 0, 0, 0, b].getD (k - 1000) 0, s.heap.size) (sio (l, D, fun k => [z0, z1, z2, z3, 0, 0, 0, 0, 0, 0, s0, s1, s2, s3, s4, 0, 0, 0, 0, 0, v0, v1, v2, v3, v4, 0, 0, 0, 0, 0, t30, t31, 0, 0, 0, 0, 0, 0, 0, 0, x0, x1, x2, 0, 0, 0, 0, 0, 0, 0, b].getD (k - 1000) 0, s.heap.size)) = if t31 = 0 then .null else .ref t30 := by
        show tr _ (if t31 = 0 then Value.null else .ref 1030) = _
        by_cases h : t31 = 0
        · rw [if_pos h, if_pos h]
          rfl
        · rw [if_neg h, if_neg h]
          rfl
      rw [e]
      exact hq
  · refine ⟨fun i q hi => ?_, fun i q hi => ?_, fun w hw => va_Nw.of (nw_tab (List.mem_filter.mp hw).2) (hts w (List.mem_filter.mp hw).1)⟩
    · have hi5 : i < 5 := lt_of_get hi
      have : i = 0 ∨ i = 1 ∨ i = 2 ∨ i = 3 ∨ i = 4 := by omega
      rcases this with rfl | rfl | rfl | rfl | rfl
      · obtain rfl := Option.some.inj hi
        exact vk_R.of (hts _ gs_0b) e0
      · obtain rfl := Option.some.inj hi
        exact vk_R.of (hts _ gs_1b) e1
      · obtain rfl := Option.some.inj hi
        exact vk_R.of (hts _ gs_2b) e2
      · obtain rfl := Option.some.inj hi
        exact vk_R.of (hts _ gs_3b) e3
      · obtain rfl := Option.some.inj hi
        exact vk_R.of (hts _ gs_4b) e4
    · have hi3 : i < 3 := lt_of_get hi
      have : i = 0 ∨ i = 1 ∨ i = 2 := by omega
      rcases this with rfl | rfl | rfl
      · obtain rfl := Option.some.inj hi
        exact vk_R.of (hts _ gx_0b) f0
      · obtain rfl := Option.some.inj hi
        exact vk_R.of (hts _ gx_1b) f1
      · obtain rfl := Option.some.inj hi
        exact vk_R.of (hts _ gx_2b) f2
theorem worldA {s : State} {b : Nat} (hts : ∀ w ∈ lw_tbl, w.before #[Value.ref b] s = true) : AOz s := ⟨va_AO.of (hts _ gq_o.1), hts _ gq_o.2⟩
theorem worldK {s : State} {args : Array Value} (hts : ∀ w ∈ lw_tbl, w.before args s = true) : ∃ D : va_G, va_K D vwCl [] s := by
  obtain ⟨c0, i0, k0⟩ := u_known (C := RX0) (T := TX0) (N := 10) (n := 10) hts (fun w h => (List.mem_filter.mp (ci_0 w h)).1) (hts (.instantiable RX0 10) (by decide +kernel))
  obtain ⟨c1, i1, k1⟩ := u_known (C := RX1) (T := TX1) (N := 3) (n := 3) hts (fun w h => (List.mem_filter.mp (ci_1 w h)).1) (hts (.instantiable RX1 3) (by decide +kernel))
  obtain ⟨c2, i2, k2⟩ := u_known (C := RX2) (T := TX2) (N := 2) (n := 2) hts (fun w h => (List.mem_filter.mp (ci_2 w h)).1) (hts (.instantiable RX2 2) (by decide +kernel))
  obtain ⟨c3, i3, k3⟩ := u_known (C := RX3) (T := TX3) (N := 9) (n := 9) hts (fun w h => (List.mem_filter.mp (ci_3 w h)).1) (hts (.instantiable RX3 9) (by decide +kernel))
  obtain ⟨c4, i4, k4⟩ := u_known (C := RX4) (T := TX4) (N := 2) (n := 2) hts (fun w h => (List.mem_filter.mp (ci_4 w h)).1) (hts (.instantiable RX4 2) (by decide +kernel))
  obtain ⟨c5, i5, k5⟩ := u_known (C := RX5) (T := TX5) (N := 9) (n := 9) hts (fun w h => (List.mem_filter.mp (ci_5 w h)).1) (hts (.instantiable RX5 9) (by decide +kernel))
  obtain ⟨c6, i6, k6⟩ := u_known (C := RX6) (T := TX6) (N := 2) (n := 2) hts (fun w h => (List.mem_filter.mp (ci_6 w h)).1) (hts (.instantiable RX6 2) (by decide +kernel))
  obtain ⟨c7, i7, k7⟩ := u_known (C := RX7) (T := TX7) (N := 6) (n := 6) hts (fun w h => (List.mem_filter.mp (ci_7 w h)).1) (hts (.instantiable RX7 6) (by decide +kernel))
  obtain ⟨c8, i8, k8⟩ := u_known (C := RX8) (T := TX8) (N := 15) (n := 15) hts (fun w h => (List.mem_filter.mp (ci_8 w h)).1) (hts (.instantiable RX8 15) (by decide +kernel))
  obtain ⟨c9, i9, k9⟩ := u_known (C := RX9) (T := TX9) (N := 48) (n := 48) hts (fun w h => (List.mem_filter.mp (ci_9 w h)).1) (hts (.instantiable RX9 48) (by decide +kernel))
  refine ⟨(fun k => if k = 0 then c0 else if k = 1 then c1 else if k = 2 then c2 else if k = 3 then c3 else if k = 4 then c4 else if k = 5 then c5 else if k = 6 then c6 else if k = 7 then c7 else if k = 8 then c8 else c9, fun k => if k = 0 then i0 else if k = 1 then i1 else if k = 2 then i2 else if k = 3 then i3 else if k = 4 then i4 else if k = 5 then i5 else if k = 6 then i6 else if k = 7 then i7 else if k = 8 then i8 else i9), fun k q hq => ?_, fun k q h => by simp at h⟩
  match k, hq with
  | 0, hq => cases hq; exact k0
  | 1, hq => cases hq; exact k1
  | 2, hq => cases hq; exact k2
  | 3, hq => cases hq; exact k3
  | 4, hq => cases hq; exact k4
  | 5, hq => cases hq; exact k5
  | 6, hq => cases hq; exact k6
  | 7, hq => cases hq; exact k7
  | 8, hq => cases hq; exact k8
  | 9, hq => cases hq; exact k9
  | k + 10, hq => simp [vwCl] at hq
