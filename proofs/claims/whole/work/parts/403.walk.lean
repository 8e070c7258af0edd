/-! ===== the law's walk ===== -/
def SX (E : Ev) (Z : Zx) (L : Nat) (xs : Nat → Int32) : Prop :=
  match Z with
  | ((_, _, s, _, _, _, _, _), _, _, _) => va_X (ad E 1050) L xs s s.heap ∧ ad E 1050 < s.heap.size ∧ ¬ AE E (ad E 1050)
theorem SX.ext {E E' : Ev} {n : Nat} (h : Ext E E' n) {Z : Zx} {L : Nat} {xs : Nat → Int32} (hX : SX E Z L xs) : SX E' Z L xs := by
  obtain ⟨⟨p, e, s, m, args, below, meth, c⟩, R, nL', Q⟩ := Z
  obtain ⟨a, b, c⟩ := hX
  have e1 : ad E' 1050 = ad E 1050 := h.2.2.2 1050 (Or.inr (by decide))
  refine ⟨?_, ?_, ?_⟩
  · rw [e1]; exact a
  · rw [e1]; exact b
  · rw [e1, AE_ext h]; exact c
section Law
variable {E : Ev} {Z : Zx} {own : String} {cc : ByteArray} {ret : Option FieldType} {nL d mc ms cells slots : Nat} {S : List Sh} {σ : Sg} {pc : Nat} {lv : List (Nat × Value)} {st : List Value} {L : Nat} {xs : Nat → Int32}
theorem r_sld (C : Ctx E Z own cc ret nL d mc ms) (hX : SX E Z L xs) {i : Int32} (hi : vp_in i L) (hd : decode cc pc = .ok (.iaload, 1)) {pc' : Nat} (hp : pc + 1 = pc') (kk : Wm E Z cells slots S σ pc' lv (.int (xs i.toNatClampNeg) :: st)) : Wm E Z cells slots S σ pc lv (.int i :: .ref 1050 :: st) := by
  subst hp
  obtain ⟨⟨p, e, s, m, args, below, meth, c⟩, R, nL', Q⟩ := Z
  obtain ⟨hx, hb, hr, hlocks, hml, rfl, rfl, hown, hts, hO, hbase⟩ := C
  exact fun H locs ls h1 h2 h3 => va_sld hx hb hX.1 hX.2.1 hX.2.2 h2 hi hd (kk H locs ls h1 h2 h3)
theorem r_slen (C : Ctx E Z own cc ret nL d mc ms) (hX : SX E Z L xs) (hd : decode cc pc = .ok (.arraylength, 1)) {pc' : Nat} (hp : pc + 1 = pc') (kk : Wm E Z cells slots S σ pc' lv (.int (Int32.ofNat L) :: st)) : Wm E Z cells slots S σ pc lv (.ref 1050 :: st) := by
  subst hp
  obtain ⟨⟨p, e, s, m, args, below, meth, c⟩, R, nL', Q⟩ := Z
  obtain ⟨hx, hb, hr, hlocks, hml, rfl, rfl, hown, hts, hO, hbase⟩ := C
  exact fun H locs ls h1 h2 h3 => va_slen hx hb hX.1 hX.2.1 hX.2.2 h2 hd (kk H locs ls h1 h2 h3)
theorem r_widen {k n : Nat} (h1 : cells ≤ k) (h2 : slots ≤ n) (kk : Wm E Z k n S σ pc lv st) : Wm E Z cells slots S σ pc lv st := by
  obtain ⟨⟨p, e, s, m, args, below, meth, c⟩, R, nL', Q⟩ := Z
  exact fun H locs ls g1 g2 g3 => W.widen h1 h2 (kk H locs ls g1 g2 g3)
end Law
def lawM : Nat := 600128
def lawS : Nat := 7301097
/-- the law's context at its room -/
abbrev LwC (E : Ev) (Z : Zx) : Prop := Ctx E Z RL cL_law (some .boolean) 8 1311 lawM lawS
def lvK (k : Nat) : List (Nat × Value) := [(4, .int (nI (5 * k))), (3, .ref 180), (2, .ref 149), (1, .ref 0), (0, .ref 1050)]
theorem sc_in {k j L : Nat} (h : 5 * k + 5 ≤ L) (hL : L ≤ 320) (hj : j < 5) {x : Int32} (hx : x = nI j) : vp_in (nI (5 * k) + x) L := by
  subst hx
  rw [nI_add]
  exact vp_in_nI (by omega) (by omega)
/-- what the loop's step needs -/
def LStep (E : Ev) (Z : Zx) (H k cells slots : Nat) : Prop := ∀ (σ' : Sg) (A' : Ab), InvC σ' A' → InvR σ' A' → OkA (H + 300) A' → Wm E Z cells slots SH0 σ' 1399 (lvK k) []
theorem opB_run {m8 m9 : Sg → Option (Int32 × Sg)} {H : Nat} {A : Ab} (h : OpB m8 m9 H A) {σ : Sg} (hC : InvC σ A) (hR : InvR σ A) : ∃ v σ1 σ2 A', m8 σ = some (v, σ1) ∧ m9 σ1 = some (v, σ2) ∧ InvC σ2 A' ∧ InvR σ2 A' ∧ OkA (H + 300) A' := by
  obtain ⟨v, A', h8, h9, hA⟩ := h
  obtain ⟨σ1, a1, a2, a3⟩ := h8 σ hC
  obtain ⟨σ2, b1, b2, b3⟩ := h9 σ1 (a3 A hR)
  exact ⟨v, σ1, σ2, A', a1, b1, b3 A' a2, b2, hA⟩

set_option maxRecDepth 100000 in
set_option maxHeartbeats 4000000 in
theorem law_0 {E : Ev} {Z : Zx} {L : Nat} {xs : Nat → Int32} (C : LwC E Z) (hX : SX E Z L xs) (hL : L ≤ 320) {k : Nat} (hk : 5 * k + 5 ≤ L) {N : Nat} (hN : 5000 < N) {cells slots : Nat} (hf : cells ≤ lawM ∧ slots ≤ lawS) {H : Nat} (hH : H < 1000000) {A : Ab} (hA : OkA H A) {σ : Sg} (hC : InvC σ A) (hR : InvR σ A) (hS : LStep E Z H k cells slots) : Wm E Z cells slots SH0 σ 236 (lvK k) [] := by
  obtain ⟨v, σ1, σ2, A', e1, e2, f1, f2, f3⟩ := opB_run (sign_op (N := N) (by omega) hA (xs (nI (5 * k) + 1).toNatClampNeg)) hC hR
  refine r_aload_n (pc' := 237) C dL_law_236 rfl 3 rfl ?_
  refine r_aload_n (pc' := 238) C dL_law_237 rfl 4 rfl ?_
  refine r_iload (pc' := 240) C dL_law_238 rfl 0 rfl ?_
  refine r_iconst (pc' := 241) (v := 1) C dL_law_240 rfl rfl ?_
  refine r_iadd (pc' := 242) C dL_law_241 rfl ?_
  refine r_sld (pc' := 243) C hX (sc_in hk hL (j := 1) (by decide) rfl) dL_law_242 rfl ?_
  refine r_cV1 (pc' := 246) (v := .int v) (As := [.int (xs (nI (5 * k) + 1).toNatClampNeg)]) (st := []) C (X8_sign_ok e1) mlL_23 ceX8_sign cvX8_sign sh_0 rfl rfl rfl (Nat.le_of_ble_eq_true rfl) rfl (Nat.le_of_ble_eq_true rfl) dL_law_243 rfl (hf := hf) (kk := ?_)
  refine r_aload_n (pc' := 247) C dL_law_246 rfl 2 rfl ?_
  refine r_aload_n (pc' := 248) C dL_law_247 rfl 4 rfl ?_
  refine r_iload (pc' := 250) C dL_law_248 rfl 0 rfl ?_
  refine r_iconst (pc' := 251) (v := 1) C dL_law_250 rfl rfl ?_
  refine r_iadd (pc' := 252) C dL_law_251 rfl ?_
  refine r_sld (pc' := 253) C hX (sc_in hk hL (j := 1) (by decide) rfl) dL_law_252 rfl ?_
  refine r_cV1 (pc' := 256) (v := .int v) (As := [.int (xs (nI (5 * k) + 1).toNatClampNeg)]) (st := [.int v]) C (X9_sign_ok e2) mlL_27 ceX9_sign cvX9_sign sh_149 rfl rfl rfl (Nat.le_of_ble_eq_true rfl) rfl (Nat.le_of_ble_eq_true rfl) dL_law_253 rfl (hf := hf) (kk := ?_)
  refine r_icmp_eq (tgt := 1399) (pc' := 259) C dL_law_256 rfl rfl (fun _ => hS σ2 A' f1 f2 f3) (fun h => absurd rfl h)
set_option maxRecDepth 100000 in
set_option maxHeartbeats 4000000 in
theorem law_1 {E : Ev} {Z : Zx} {L : Nat} {xs : Nat → Int32} (C : LwC E Z) (hX : SX E Z L xs) (hL : L ≤ 320) {k : Nat} (hk : 5 * k + 5 ≤ L) {N : Nat} (hN : 5000 < N) {cells slots : Nat} (hf : cells ≤ lawM ∧ slots ≤ lawS) {H : Nat} (hH : H < 1000000) {A : Ab} (hA : OkA H A) {σ : Sg} (hC : InvC σ A) (hR : InvR σ A) (hS : LStep E Z H k cells slots) : Wm E Z cells slots SH0 σ 261 (lvK k) [] := by
  obtain ⟨v, σ1, σ2, A', e1, e2, f1, f2, f3⟩ := opB_run (end_op N hA (xs (nI (5 * k) + 1).toNatClampNeg)) hC hR
  refine r_aload_n (pc' := 262) C dL_law_261 rfl 3 rfl ?_
  refine r_aload_n (pc' := 263) C dL_law_262 rfl 4 rfl ?_
  refine r_iload (pc' := 265) C dL_law_263 rfl 0 rfl ?_
  refine r_iconst (pc' := 266) (v := 1) C dL_law_265 rfl rfl ?_
  refine r_iadd (pc' := 267) C dL_law_266 rfl ?_
  refine r_sld (pc' := 268) C hX (sc_in hk hL (j := 1) (by decide) rfl) dL_law_267 rfl ?_
  refine r_cV1 (pc' := 271) (v := .int v) (As := [.int (xs (nI (5 * k) + 1).toNatClampNeg)]) (st := []) C (X8_end_ok e1) mlL_28 ceX8_end cvX8_end sh_0 rfl rfl rfl (Nat.le_of_ble_eq_true rfl) rfl (Nat.le_of_ble_eq_true rfl) dL_law_268 rfl (hf := hf) (kk := ?_)
  refine r_aload_n (pc' := 272) C dL_law_271 rfl 2 rfl ?_
  refine r_aload_n (pc' := 273) C dL_law_272 rfl 4 rfl ?_
  refine r_iload (pc' := 275) C dL_law_273 rfl 0 rfl ?_
  refine r_iconst (pc' := 276) (v := 1) C dL_law_275 rfl rfl ?_
  refine r_iadd (pc' := 277) C dL_law_276 rfl ?_
  refine r_sld (pc' := 278) C hX (sc_in hk hL (j := 1) (by decide) rfl) dL_law_277 rfl ?_
  refine r_cV1 (pc' := 281) (v := .int v) (As := [.int (xs (nI (5 * k) + 1).toNatClampNeg)]) (st := [.int v]) C (X9_end_ok e2) mlL_32 ceX9_end cvX9_end sh_149 rfl rfl rfl (Nat.le_of_ble_eq_true rfl) rfl (Nat.le_of_ble_eq_true rfl) dL_law_278 rfl (hf := hf) (kk := ?_)
  refine r_icmp_eq (tgt := 1399) (pc' := 284) C dL_law_281 rfl rfl (fun _ => hS σ2 A' f1 f2 f3) (fun h => absurd rfl h)
set_option maxRecDepth 100000 in
set_option maxHeartbeats 4000000 in
theorem law_2 {E : Ev} {Z : Zx} {L : Nat} {xs : Nat → Int32} (C : LwC E Z) (hX : SX E Z L xs) (hL : L ≤ 320) {k : Nat} (hk : 5 * k + 5 ≤ L) {N : Nat} (hN : 5000 < N) {cells slots : Nat} (hf : cells ≤ lawM ∧ slots ≤ lawS) {H : Nat} (hH : H < 1000000) {A : Ab} (hA : OkA H A) {σ : Sg} (hC : InvC σ A) (hR : InvR σ A) (hS : LStep E Z H k cells slots) : Wm E Z cells slots SH0 σ 286 (lvK k) [] := by
  obtain ⟨v, σ1, σ2, A', e1, e2, f1, f2, f3⟩ := opB_run (things_op (N := N) (by omega) hA ) hC hR
  refine r_aload_n (pc' := 287) C dL_law_286 rfl 3 rfl ?_
  refine r_cV1 (pc' := 290) (v := .int v) (As := []) (st := []) C (X8_things_ok e1) mlL_33 ceX8_things cvX8_things sh_0 rfl rfl rfl (Nat.le_of_ble_eq_true rfl) rfl (Nat.le_of_ble_eq_true rfl) dL_law_287 rfl (hf := hf) (kk := ?_)
  refine r_aload_n (pc' := 291) C dL_law_290 rfl 2 rfl ?_
  refine r_cV1 (pc' := 294) (v := .int v) (As := []) (st := [.int v]) C (X9_things_ok e2) mlL_37 ceX9_things cvX9_things sh_149 rfl rfl rfl (Nat.le_of_ble_eq_true rfl) rfl (Nat.le_of_ble_eq_true rfl) dL_law_291 rfl (hf := hf) (kk := ?_)
  refine r_icmp_eq (tgt := 1399) (pc' := 297) C dL_law_294 rfl rfl (fun _ => hS σ2 A' f1 f2 f3) (fun h => absurd rfl h)
set_option maxRecDepth 100000 in
set_option maxHeartbeats 4000000 in
theorem law_3 {E : Ev} {Z : Zx} {L : Nat} {xs : Nat → Int32} (C : LwC E Z) (hX : SX E Z L xs) (hL : L ≤ 320) {k : Nat} (hk : 5 * k + 5 ≤ L) {N : Nat} (hN : 5000 < N) {cells slots : Nat} (hf : cells ≤ lawM ∧ slots ≤ lawS) {H : Nat} (hH : H < 1000000) {A : Ab} (hA : OkA H A) {σ : Sg} (hC : InvC σ A) (hR : InvR σ A) (hS : LStep E Z H k cells slots) : Wm E Z cells slots SH0 σ 299 (lvK k) [] := by
  obtain ⟨v, σ1, σ2, A', e1, e2, f1, f2, f3⟩ := opB_run (strings_op (N := N) (by omega) hA ) hC hR
  refine r_aload_n (pc' := 300) C dL_law_299 rfl 3 rfl ?_
  refine r_cV1 (pc' := 303) (v := .int v) (As := []) (st := []) C (X8_strings_ok e1) mlL_38 ceX8_strings cvX8_strings sh_0 rfl rfl rfl (Nat.le_of_ble_eq_true rfl) rfl (Nat.le_of_ble_eq_true rfl) dL_law_300 rfl (hf := hf) (kk := ?_)
  refine r_aload_n (pc' := 304) C dL_law_303 rfl 2 rfl ?_
  refine r_cV1 (pc' := 307) (v := .int v) (As := []) (st := [.int v]) C (X9_strings_ok e2) mlL_41 ceX9_strings cvX9_strings sh_149 rfl rfl rfl (Nat.le_of_ble_eq_true rfl) rfl (Nat.le_of_ble_eq_true rfl) dL_law_304 rfl (hf := hf) (kk := ?_)
  refine r_icmp_eq (tgt := 1399) (pc' := 310) C dL_law_307 rfl rfl (fun _ => hS σ2 A' f1 f2 f3) (fun h => absurd rfl h)
set_option maxRecDepth 100000 in
set_option maxHeartbeats 4000000 in
theorem law_4 {E : Ev} {Z : Zx} {L : Nat} {xs : Nat → Int32} (C : LwC E Z) (hX : SX E Z L xs) (hL : L ≤ 320) {k : Nat} (hk : 5 * k + 5 ≤ L) {N : Nat} (hN : 5000 < N) {cells slots : Nat} (hf : cells ≤ lawM ∧ slots ≤ lawS) {H : Nat} (hH : H < 1000000) {A : Ab} (hA : OkA H A) {σ : Sg} (hC : InvC σ A) (hR : InvR σ A) (hS : LStep E Z H k cells slots) : Wm E Z cells slots SH0 σ 312 (lvK k) [] := by
  obtain ⟨v, σ1, σ2, A', e1, e2, f1, f2, f3⟩ := opB_run (winds_op (N := N) (by omega) hA ) hC hR
  refine r_aload_n (pc' := 313) C dL_law_312 rfl 3 rfl ?_
  refine r_cV1 (pc' := 316) (v := .int v) (As := []) (st := []) C (X8_winds_ok e1) mlL_42 ceX8_winds cvX8_winds sh_0 rfl rfl rfl (Nat.le_of_ble_eq_true rfl) rfl (Nat.le_of_ble_eq_true rfl) dL_law_313 rfl (hf := hf) (kk := ?_)
  refine r_aload_n (pc' := 317) C dL_law_316 rfl 2 rfl ?_
  refine r_cV1 (pc' := 320) (v := .int v) (As := []) (st := [.int v]) C (X9_winds_ok e2) mlL_45 ceX9_winds cvX9_winds sh_149 rfl rfl rfl (Nat.le_of_ble_eq_true rfl) rfl (Nat.le_of_ble_eq_true rfl) dL_law_317 rfl (hf := hf) (kk := ?_)
  refine r_icmp_eq (tgt := 1399) (pc' := 323) C dL_law_320 rfl rfl (fun _ => hS σ2 A' f1 f2 f3) (fun h => absurd rfl h)
set_option maxRecDepth 100000 in
set_option maxHeartbeats 4000000 in
theorem law_5 {E : Ev} {Z : Zx} {L : Nat} {xs : Nat → Int32} (C : LwC E Z) (hX : SX E Z L xs) (hL : L ≤ 320) {k : Nat} (hk : 5 * k + 5 ≤ L) {N : Nat} (hN : 5000 < N) {cells slots : Nat} (hf : cells ≤ lawM ∧ slots ≤ lawS) {H : Nat} (hH : H < 1000000) {A : Ab} (hA : OkA H A) {σ : Sg} (hC : InvC σ A) (hR : InvR σ A) (hS : LStep E Z H k cells slots) : Wm E Z cells slots SH0 σ 325 (lvK k) [] := by
  obtain ⟨v, σ1, σ2, A', e1, e2, f1, f2, f3⟩ := opB_run (rule_op (N := N) (by omega) hA ) hC hR
  refine r_aload_n (pc' := 326) C dL_law_325 rfl 3 rfl ?_
  refine r_cV1 (pc' := 329) (v := .int v) (As := []) (st := []) C (X8_rule_ok e1) mlL_46 ceX8_rule cvX8_rule sh_0 rfl rfl rfl (Nat.le_of_ble_eq_true rfl) rfl (Nat.le_of_ble_eq_true rfl) dL_law_326 rfl (hf := hf) (kk := ?_)
  refine r_aload_n (pc' := 330) C dL_law_329 rfl 2 rfl ?_
  refine r_cV1 (pc' := 333) (v := .int v) (As := []) (st := [.int v]) C (X9_rule_ok e2) mlL_49 ceX9_rule cvX9_rule sh_149 rfl rfl rfl (Nat.le_of_ble_eq_true rfl) rfl (Nat.le_of_ble_eq_true rfl) dL_law_330 rfl (hf := hf) (kk := ?_)
  refine r_icmp_eq (tgt := 1399) (pc' := 336) C dL_law_333 rfl rfl (fun _ => hS σ2 A' f1 f2 f3) (fun h => absurd rfl h)
set_option maxRecDepth 100000 in
set_option maxHeartbeats 4000000 in
theorem law_7 {E : Ev} {Z : Zx} {L : Nat} {xs : Nat → Int32} (C : LwC E Z) (hX : SX E Z L xs) (hL : L ≤ 320) {k : Nat} (hk : 5 * k + 5 ≤ L) {N : Nat} (hN : 5000 < N) {cells slots : Nat} (hf : cells ≤ lawM ∧ slots ≤ lawS) {H : Nat} (hH : H < 1000000) {A : Ab} (hA : OkA H A) {σ : Sg} (hC : InvC σ A) (hR : InvR σ A) (hS : LStep E Z H k cells slots) : Wm E Z cells slots SH0 σ 406 (lvK k) [] := by
  obtain ⟨v, σ1, σ2, A', e1, e2, f1, f2, f3⟩ := opB_run (sheet_op (N := N) (by omega) hA (xs (nI (5 * k) + 1).toNatClampNeg) (xs (nI (5 * k) + 2).toNatClampNeg) (xs (nI (5 * k) + 3).toNatClampNeg) (xs (nI (5 * k) + 4).toNatClampNeg)) hC hR
  refine r_aload_n (pc' := 407) C dL_law_406 rfl 3 rfl ?_
  refine r_aload_n (pc' := 408) C dL_law_407 rfl 4 rfl ?_
  refine r_iload (pc' := 410) C dL_law_408 rfl 0 rfl ?_
  refine r_iconst (pc' := 411) (v := 1) C dL_law_410 rfl rfl ?_
  refine r_iadd (pc' := 412) C dL_law_411 rfl ?_
  refine r_sld (pc' := 413) C hX (sc_in hk hL (j := 1) (by decide) rfl) dL_law_412 rfl ?_
  refine r_aload_n (pc' := 414) C dL_law_413 rfl 4 rfl ?_
  refine r_iload (pc' := 416) C dL_law_414 rfl 0 rfl ?_
  refine r_iconst (pc' := 417) (v := 2) C dL_law_416 rfl rfl ?_
  refine r_iadd (pc' := 418) C dL_law_417 rfl ?_
  refine r_sld (pc' := 419) C hX (sc_in hk hL (j := 2) (by decide) rfl) dL_law_418 rfl ?_
  refine r_aload_n (pc' := 420) C dL_law_419 rfl 4 rfl ?_
  refine r_iload (pc' := 422) C dL_law_420 rfl 0 rfl ?_
  refine r_iconst (pc' := 423) (v := 3) C dL_law_422 rfl rfl ?_
  refine r_iadd (pc' := 424) C dL_law_423 rfl ?_
  refine r_sld (pc' := 425) C hX (sc_in hk hL (j := 3) (by decide) rfl) dL_law_424 rfl ?_
  refine r_aload_n (pc' := 426) C dL_law_425 rfl 4 rfl ?_
  refine r_iload (pc' := 428) C dL_law_426 rfl 0 rfl ?_
  refine r_iconst (pc' := 429) (v := 4) C dL_law_428 rfl rfl ?_
  refine r_iadd (pc' := 430) C dL_law_429 rfl ?_
  refine r_sld (pc' := 431) C hX (sc_in hk hL (j := 4) (by decide) rfl) dL_law_430 rfl ?_
  refine r_cV1 (pc' := 434) (v := .int v) (As := [.int (xs (nI (5 * k) + 1).toNatClampNeg), .int (xs (nI (5 * k) + 2).toNatClampNeg), .int (xs (nI (5 * k) + 3).toNatClampNeg), .int (xs (nI (5 * k) + 4).toNatClampNeg)]) (st := []) C (X8_sheet_ok e1) mlL_59 ceX8_sheet cvX8_sheet sh_0 rfl rfl rfl (Nat.le_of_ble_eq_true rfl) rfl (Nat.le_of_ble_eq_true rfl) dL_law_431 rfl (hf := hf) (kk := ?_)
  refine r_aload_n (pc' := 435) C dL_law_434 rfl 2 rfl ?_
  refine r_aload_n (pc' := 436) C dL_law_435 rfl 4 rfl ?_
  refine r_iload (pc' := 438) C dL_law_436 rfl 0 rfl ?_
  refine r_iconst (pc' := 439) (v := 1) C dL_law_438 rfl rfl ?_
  refine r_iadd (pc' := 440) C dL_law_439 rfl ?_
  refine r_sld (pc' := 441) C hX (sc_in hk hL (j := 1) (by decide) rfl) dL_law_440 rfl ?_
  refine r_aload_n (pc' := 442) C dL_law_441 rfl 4 rfl ?_
  refine r_iload (pc' := 444) C dL_law_442 rfl 0 rfl ?_
  refine r_iconst (pc' := 445) (v := 2) C dL_law_444 rfl rfl ?_
  refine r_iadd (pc' := 446) C dL_law_445 rfl ?_
  refine r_sld (pc' := 447) C hX (sc_in hk hL (j := 2) (by decide) rfl) dL_law_446 rfl ?_
  refine r_aload_n (pc' := 448) C dL_law_447 rfl 4 rfl ?_
  refine r_iload (pc' := 450) C dL_law_448 rfl 0 rfl ?_
  refine r_iconst (pc' := 451) (v := 3) C dL_law_450 rfl rfl ?_
  refine r_iadd (pc' := 452) C dL_law_451 rfl ?_
  refine r_sld (pc' := 453) C hX (sc_in hk hL (j := 3) (by decide) rfl) dL_law_452 rfl ?_
  refine r_aload_n (pc' := 454) C dL_law_453 rfl 4 rfl ?_
  refine r_iload (pc' := 456) C dL_law_454 rfl 0 rfl ?_
  refine r_iconst (pc' := 457) (v := 4) C dL_law_456 rfl rfl ?_
  refine r_iadd (pc' := 458) C dL_law_457 rfl ?_
  refine r_sld (pc' := 459) C hX (sc_in hk hL (j := 4) (by decide) rfl) dL_law_458 rfl ?_
  refine r_cV1 (pc' := 462) (v := .int v) (As := [.int (xs (nI (5 * k) + 1).toNatClampNeg), .int (xs (nI (5 * k) + 2).toNatClampNeg), .int (xs (nI (5 * k) + 3).toNatClampNeg), .int (xs (nI (5 * k) + 4).toNatClampNeg)]) (st := [.int v]) C (X9_sheet_ok e2) mlL_63 ceX9_sheet cvX9_sheet sh_149 rfl rfl rfl (Nat.le_of_ble_eq_true rfl) rfl (Nat.le_of_ble_eq_true rfl) dL_law_459 rfl (hf := hf) (kk := ?_)
  refine r_icmp_eq (tgt := 1399) (pc' := 465) C dL_law_462 rfl rfl (fun _ => hS σ2 A' f1 f2 f3) (fun h => absurd rfl h)
set_option maxRecDepth 100000 in
set_option maxHeartbeats 4000000 in
theorem law_8 {E : Ev} {Z : Zx} {L : Nat} {xs : Nat → Int32} (C : LwC E Z) (hX : SX E Z L xs) (hL : L ≤ 320) {k : Nat} (hk : 5 * k + 5 ≤ L) {N : Nat} (hN : 5000 < N) {cells slots : Nat} (hf : cells ≤ lawM ∧ slots ≤ lawS) {H : Nat} (hH : H < 1000000) {A : Ab} (hA : OkA H A) {σ : Sg} (hC : InvC σ A) (hR : InvR σ A) (hS : LStep E Z H k cells slots) : Wm E Z cells slots SH0 σ 467 (lvK k) [] := by
  obtain ⟨v, σ1, σ2, A', e1, e2, f1, f2, f3⟩ := opB_run (hours_op (N := N) (by omega) hA hH (xs (nI (5 * k) + 1).toNatClampNeg)) hC hR
  refine r_aload_n (pc' := 468) C dL_law_467 rfl 3 rfl ?_
  refine r_aload_n (pc' := 469) C dL_law_468 rfl 4 rfl ?_
  refine r_iload (pc' := 471) C dL_law_469 rfl 0 rfl ?_
  refine r_iconst (pc' := 472) (v := 1) C dL_law_471 rfl rfl ?_
  refine r_iadd (pc' := 473) C dL_law_472 rfl ?_
  refine r_sld (pc' := 474) C hX (sc_in hk hL (j := 1) (by decide) rfl) dL_law_473 rfl ?_
  refine r_cV1 (pc' := 477) (v := .int v) (As := [.int (xs (nI (5 * k) + 1).toNatClampNeg)]) (st := []) C (X8_hours_ok e1) mlL_64 ceX8_hours cvX8_hours sh_0 rfl rfl rfl (Nat.le_of_ble_eq_true rfl) rfl (Nat.le_of_ble_eq_true rfl) dL_law_474 rfl (hf := hf) (kk := ?_)
  refine r_aload_n (pc' := 478) C dL_law_477 rfl 2 rfl ?_
  refine r_aload_n (pc' := 479) C dL_law_478 rfl 4 rfl ?_
  refine r_iload (pc' := 481) C dL_law_479 rfl 0 rfl ?_
  refine r_iconst (pc' := 482) (v := 1) C dL_law_481 rfl rfl ?_
  refine r_iadd (pc' := 483) C dL_law_482 rfl ?_
  refine r_sld (pc' := 484) C hX (sc_in hk hL (j := 1) (by decide) rfl) dL_law_483 rfl ?_
  refine r_cV1 (pc' := 487) (v := .int v) (As := [.int (xs (nI (5 * k) + 1).toNatClampNeg)]) (st := [.int v]) C (X9_hours_ok e2) mlL_67 ceX9_hours cvX9_hours sh_149 rfl rfl rfl (Nat.le_of_ble_eq_true rfl) rfl (Nat.le_of_ble_eq_true rfl) dL_law_484 rfl (hf := hf) (kk := ?_)
  refine r_icmp_eq (tgt := 1399) (pc' := 490) C dL_law_487 rfl rfl (fun _ => hS σ2 A' f1 f2 f3) (fun h => absurd rfl h)
set_option maxRecDepth 100000 in
set_option maxHeartbeats 4000000 in
theorem law_9 {E : Ev} {Z : Zx} {L : Nat} {xs : Nat → Int32} (C : LwC E Z) (hX : SX E Z L xs) (hL : L ≤ 320) {k : Nat} (hk : 5 * k + 5 ≤ L) {N : Nat} (hN : 5000 < N) {cells slots : Nat} (hf : cells ≤ lawM ∧ slots ≤ lawS) {H : Nat} (hH : H < 1000000) {A : Ab} (hA : OkA H A) {σ : Sg} (hC : InvC σ A) (hR : InvR σ A) (hS : LStep E Z H k cells slots) : Wm E Z cells slots SH0 σ 492 (lvK k) [] := by
  obtain ⟨v, σ1, σ2, A', e1, e2, f1, f2, f3⟩ := opB_run (lends_op (N := N) (by omega) hA (xs (nI (5 * k) + 1).toNatClampNeg) (xs (nI (5 * k) + 2).toNatClampNeg)) hC hR
  refine r_aload_n (pc' := 493) C dL_law_492 rfl 3 rfl ?_
  refine r_aload_n (pc' := 494) C dL_law_493 rfl 4 rfl ?_
  refine r_iload (pc' := 496) C dL_law_494 rfl 0 rfl ?_
  refine r_iconst (pc' := 497) (v := 1) C dL_law_496 rfl rfl ?_
  refine r_iadd (pc' := 498) C dL_law_497 rfl ?_
  refine r_sld (pc' := 499) C hX (sc_in hk hL (j := 1) (by decide) rfl) dL_law_498 rfl ?_
  refine r_aload_n (pc' := 500) C dL_law_499 rfl 4 rfl ?_
  refine r_iload (pc' := 502) C dL_law_500 rfl 0 rfl ?_
  refine r_iconst (pc' := 503) (v := 2) C dL_law_502 rfl rfl ?_
  refine r_iadd (pc' := 504) C dL_law_503 rfl ?_
  refine r_sld (pc' := 505) C hX (sc_in hk hL (j := 2) (by decide) rfl) dL_law_504 rfl ?_
  refine r_cV1 (pc' := 508) (v := .int v) (As := [.int (xs (nI (5 * k) + 1).toNatClampNeg), .int (xs (nI (5 * k) + 2).toNatClampNeg)]) (st := []) C (X8_lends_ok e1) mlL_68 ceX8_lends cvX8_lends sh_0 rfl rfl rfl (Nat.le_of_ble_eq_true rfl) rfl (Nat.le_of_ble_eq_true rfl) dL_law_505 rfl (hf := hf) (kk := ?_)
  refine r_aload_n (pc' := 509) C dL_law_508 rfl 2 rfl ?_
  refine r_aload_n (pc' := 510) C dL_law_509 rfl 4 rfl ?_
  refine r_iload (pc' := 512) C dL_law_510 rfl 0 rfl ?_
  refine r_iconst (pc' := 513) (v := 1) C dL_law_512 rfl rfl ?_
  refine r_iadd (pc' := 514) C dL_law_513 rfl ?_
  refine r_sld (pc' := 515) C hX (sc_in hk hL (j := 1) (by decide) rfl) dL_law_514 rfl ?_
  refine r_aload_n (pc' := 516) C dL_law_515 rfl 4 rfl ?_
  refine r_iload (pc' := 518) C dL_law_516 rfl 0 rfl ?_
  refine r_iconst (pc' := 519) (v := 2) C dL_law_518 rfl rfl ?_
  refine r_iadd (pc' := 520) C dL_law_519 rfl ?_
  refine r_sld (pc' := 521) C hX (sc_in hk hL (j := 2) (by decide) rfl) dL_law_520 rfl ?_
  refine r_cV1 (pc' := 524) (v := .int v) (As := [.int (xs (nI (5 * k) + 1).toNatClampNeg), .int (xs (nI (5 * k) + 2).toNatClampNeg)]) (st := [.int v]) C (X9_lends_ok e2) mlL_71 ceX9_lends cvX9_lends sh_149 rfl rfl rfl (Nat.le_of_ble_eq_true rfl) rfl (Nat.le_of_ble_eq_true rfl) dL_law_521 rfl (hf := hf) (kk := ?_)
  refine r_icmp_eq (tgt := 1399) (pc' := 527) C dL_law_524 rfl rfl (fun _ => hS σ2 A' f1 f2 f3) (fun h => absurd rfl h)
set_option maxRecDepth 100000 in
set_option maxHeartbeats 4000000 in
theorem law_10 {E : Ev} {Z : Zx} {L : Nat} {xs : Nat → Int32} (C : LwC E Z) (hX : SX E Z L xs) (hL : L ≤ 320) {k : Nat} (hk : 5 * k + 5 ≤ L) {N : Nat} (hN : 5000 < N) {cells slots : Nat} (hf : cells ≤ lawM ∧ slots ≤ lawS) {H : Nat} (hH : H < 1000000) {A : Ab} (hA : OkA H A) {σ : Sg} (hC : InvC σ A) (hR : InvR σ A) (hS : LStep E Z H k cells slots) : Wm E Z cells slots SH0 σ 529 (lvK k) [] := by
  obtain ⟨v, σ1, σ2, A', e1, e2, f1, f2, f3⟩ := opB_run (gives_op (N := N) (by omega) hA (xs (nI (5 * k) + 1).toNatClampNeg) (xs (nI (5 * k) + 2).toNatClampNeg)) hC hR
  refine r_aload_n (pc' := 530) C dL_law_529 rfl 3 rfl ?_
  refine r_aload_n (pc' := 531) C dL_law_530 rfl 4 rfl ?_
  refine r_iload (pc' := 533) C dL_law_531 rfl 0 rfl ?_
  refine r_iconst (pc' := 534) (v := 1) C dL_law_533 rfl rfl ?_
  refine r_iadd (pc' := 535) C dL_law_534 rfl ?_
  refine r_sld (pc' := 536) C hX (sc_in hk hL (j := 1) (by decide) rfl) dL_law_535 rfl ?_
  refine r_aload_n (pc' := 537) C dL_law_536 rfl 4 rfl ?_
  refine r_iload (pc' := 539) C dL_law_537 rfl 0 rfl ?_
  refine r_iconst (pc' := 540) (v := 2) C dL_law_539 rfl rfl ?_
  refine r_iadd (pc' := 541) C dL_law_540 rfl ?_
  refine r_sld (pc' := 542) C hX (sc_in hk hL (j := 2) (by decide) rfl) dL_law_541 rfl ?_
  refine r_cV1 (pc' := 545) (v := .int v) (As := [.int (xs (nI (5 * k) + 1).toNatClampNeg), .int (xs (nI (5 * k) + 2).toNatClampNeg)]) (st := []) C (X8_gives_ok e1) mlL_72 ceX8_gives cvX8_gives sh_0 rfl rfl rfl (Nat.le_of_ble_eq_true rfl) rfl (Nat.le_of_ble_eq_true rfl) dL_law_542 rfl (hf := hf) (kk := ?_)
  refine r_aload_n (pc' := 546) C dL_law_545 rfl 2 rfl ?_
  refine r_aload_n (pc' := 547) C dL_law_546 rfl 4 rfl ?_
  refine r_iload (pc' := 549) C dL_law_547 rfl 0 rfl ?_
  refine r_iconst (pc' := 550) (v := 1) C dL_law_549 rfl rfl ?_
  refine r_iadd (pc' := 551) C dL_law_550 rfl ?_
  refine r_sld (pc' := 552) C hX (sc_in hk hL (j := 1) (by decide) rfl) dL_law_551 rfl ?_
  refine r_aload_n (pc' := 553) C dL_law_552 rfl 4 rfl ?_
  refine r_iload (pc' := 555) C dL_law_553 rfl 0 rfl ?_
  refine r_iconst (pc' := 556) (v := 2) C dL_law_555 rfl rfl ?_
  refine r_iadd (pc' := 557) C dL_law_556 rfl ?_
  refine r_sld (pc' := 558) C hX (sc_in hk hL (j := 2) (by decide) rfl) dL_law_557 rfl ?_
  refine r_cV1 (pc' := 561) (v := .int v) (As := [.int (xs (nI (5 * k) + 1).toNatClampNeg), .int (xs (nI (5 * k) + 2).toNatClampNeg)]) (st := [.int v]) C (X9_gives_ok e2) mlL_75 ceX9_gives cvX9_gives sh_149 rfl rfl rfl (Nat.le_of_ble_eq_true rfl) rfl (Nat.le_of_ble_eq_true rfl) dL_law_558 rfl (hf := hf) (kk := ?_)
  refine r_icmp_eq (tgt := 1399) (pc' := 564) C dL_law_561 rfl rfl (fun _ => hS σ2 A' f1 f2 f3) (fun h => absurd rfl h)
set_option maxRecDepth 100000 in
set_option maxHeartbeats 4000000 in
theorem law_11 {E : Ev} {Z : Zx} {L : Nat} {xs : Nat → Int32} (C : LwC E Z) (hX : SX E Z L xs) (hL : L ≤ 320) {k : Nat} (hk : 5 * k + 5 ≤ L) {N : Nat} (hN : 5000 < N) {cells slots : Nat} (hf : cells ≤ lawM ∧ slots ≤ lawS) {H : Nat} (hH : H < 1000000) {A : Ab} (hA : OkA H A) {σ : Sg} (hC : InvC σ A) (hR : InvR σ A) (hS : LStep E Z H k cells slots) : Wm E Z cells slots SH0 σ 566 (lvK k) [] := by
  obtain ⟨v, σ1, σ2, A', e1, e2, f1, f2, f3⟩ := opB_run (ties_op (N := N) (by omega) hA (xs (nI (5 * k) + 1).toNatClampNeg) (xs (nI (5 * k) + 2).toNatClampNeg)) hC hR
  refine r_aload_n (pc' := 567) C dL_law_566 rfl 3 rfl ?_
  refine r_aload_n (pc' := 568) C dL_law_567 rfl 4 rfl ?_
  refine r_iload (pc' := 570) C dL_law_568 rfl 0 rfl ?_
  refine r_iconst (pc' := 571) (v := 1) C dL_law_570 rfl rfl ?_
  refine r_iadd (pc' := 572) C dL_law_571 rfl ?_
  refine r_sld (pc' := 573) C hX (sc_in hk hL (j := 1) (by decide) rfl) dL_law_572 rfl ?_
  refine r_aload_n (pc' := 574) C dL_law_573 rfl 4 rfl ?_
  refine r_iload (pc' := 576) C dL_law_574 rfl 0 rfl ?_
  refine r_iconst (pc' := 577) (v := 2) C dL_law_576 rfl rfl ?_
  refine r_iadd (pc' := 578) C dL_law_577 rfl ?_
  refine r_sld (pc' := 579) C hX (sc_in hk hL (j := 2) (by decide) rfl) dL_law_578 rfl ?_
  refine r_cV1 (pc' := 582) (v := .int v) (As := [.int (xs (nI (5 * k) + 1).toNatClampNeg), .int (xs (nI (5 * k) + 2).toNatClampNeg)]) (st := []) C (X8_ties_ok e1) mlL_76 ceX8_ties cvX8_ties sh_0 rfl rfl rfl (Nat.le_of_ble_eq_true rfl) rfl (Nat.le_of_ble_eq_true rfl) dL_law_579 rfl (hf := hf) (kk := ?_)
  refine r_aload_n (pc' := 583) C dL_law_582 rfl 2 rfl ?_
  refine r_aload_n (pc' := 584) C dL_law_583 rfl 4 rfl ?_
  refine r_iload (pc' := 586) C dL_law_584 rfl 0 rfl ?_
  refine r_iconst (pc' := 587) (v := 1) C dL_law_586 rfl rfl ?_
  refine r_iadd (pc' := 588) C dL_law_587 rfl ?_
  refine r_sld (pc' := 589) C hX (sc_in hk hL (j := 1) (by decide) rfl) dL_law_588 rfl ?_
  refine r_aload_n (pc' := 590) C dL_law_589 rfl 4 rfl ?_
  refine r_iload (pc' := 592) C dL_law_590 rfl 0 rfl ?_
  refine r_iconst (pc' := 593) (v := 2) C dL_law_592 rfl rfl ?_
  refine r_iadd (pc' := 594) C dL_law_593 rfl ?_
  refine r_sld (pc' := 595) C hX (sc_in hk hL (j := 2) (by decide) rfl) dL_law_594 rfl ?_
  refine r_cV1 (pc' := 598) (v := .int v) (As := [.int (xs (nI (5 * k) + 1).toNatClampNeg), .int (xs (nI (5 * k) + 2).toNatClampNeg)]) (st := [.int v]) C (X9_ties_ok e2) mlL_79 ceX9_ties cvX9_ties sh_149 rfl rfl rfl (Nat.le_of_ble_eq_true rfl) rfl (Nat.le_of_ble_eq_true rfl) dL_law_595 rfl (hf := hf) (kk := ?_)
  refine r_icmp_eq (tgt := 1399) (pc' := 601) C dL_law_598 rfl rfl (fun _ => hS σ2 A' f1 f2 f3) (fun h => absurd rfl h)
set_option maxRecDepth 100000 in
set_option maxHeartbeats 4000000 in
theorem law_12 {E : Ev} {Z : Zx} {L : Nat} {xs : Nat → Int32} (C : LwC E Z) (hX : SX E Z L xs) (hL : L ≤ 320) {k : Nat} (hk : 5 * k + 5 ≤ L) {N : Nat} (hN : 5000 < N) {cells slots : Nat} (hf : cells ≤ lawM ∧ slots ≤ lawS) {H : Nat} (hH : H < 1000000) {A : Ab} (hA : OkA H A) {σ : Sg} (hC : InvC σ A) (hR : InvR σ A) (hS : LStep E Z H k cells slots) : Wm E Z cells slots SH0 σ 603 (lvK k) [] := by
  obtain ⟨v, σ1, σ2, A', e1, e2, f1, f2, f3⟩ := opB_run (pays_op (N := N) (by omega) hA (xs (nI (5 * k) + 1).toNatClampNeg)) hC hR
  refine r_aload_n (pc' := 604) C dL_law_603 rfl 3 rfl ?_
  refine r_aload_n (pc' := 605) C dL_law_604 rfl 4 rfl ?_
  refine r_iload (pc' := 607) C dL_law_605 rfl 0 rfl ?_
  refine r_iconst (pc' := 608) (v := 1) C dL_law_607 rfl rfl ?_
  refine r_iadd (pc' := 609) C dL_law_608 rfl ?_
  refine r_sld (pc' := 610) C hX (sc_in hk hL (j := 1) (by decide) rfl) dL_law_609 rfl ?_
  refine r_cV1 (pc' := 613) (v := .int v) (As := [.int (xs (nI (5 * k) + 1).toNatClampNeg)]) (st := []) C (X8_pays_ok e1) mlL_80 ceX8_pays cvX8_pays sh_0 rfl rfl rfl (Nat.le_of_ble_eq_true rfl) rfl (Nat.le_of_ble_eq_true rfl) dL_law_610 rfl (hf := hf) (kk := ?_)
  refine r_aload_n (pc' := 614) C dL_law_613 rfl 2 rfl ?_
  refine r_aload_n (pc' := 615) C dL_law_614 rfl 4 rfl ?_
  refine r_iload (pc' := 617) C dL_law_615 rfl 0 rfl ?_
  refine r_iconst (pc' := 618) (v := 1) C dL_law_617 rfl rfl ?_
  refine r_iadd (pc' := 619) C dL_law_618 rfl ?_
  refine r_sld (pc' := 620) C hX (sc_in hk hL (j := 1) (by decide) rfl) dL_law_619 rfl ?_
  refine r_cV1 (pc' := 623) (v := .int v) (As := [.int (xs (nI (5 * k) + 1).toNatClampNeg)]) (st := [.int v]) C (X9_pays_ok e2) mlL_83 ceX9_pays cvX9_pays sh_149 rfl rfl rfl (Nat.le_of_ble_eq_true rfl) rfl (Nat.le_of_ble_eq_true rfl) dL_law_620 rfl (hf := hf) (kk := ?_)
  refine r_icmp_eq (tgt := 1399) (pc' := 626) C dL_law_623 rfl rfl (fun _ => hS σ2 A' f1 f2 f3) (fun h => absurd rfl h)
set_option maxRecDepth 100000 in
set_option maxHeartbeats 4000000 in
theorem law_13 {E : Ev} {Z : Zx} {L : Nat} {xs : Nat → Int32} (C : LwC E Z) (hX : SX E Z L xs) (hL : L ≤ 320) {k : Nat} (hk : 5 * k + 5 ≤ L) {N : Nat} (hN : 5000 < N) {cells slots : Nat} (hf : cells ≤ lawM ∧ slots ≤ lawS) {H : Nat} (hH : H < 1000000) {A : Ab} (hA : OkA H A) {σ : Sg} (hC : InvC σ A) (hR : InvR σ A) (hS : LStep E Z H k cells slots) : Wm E Z cells slots SH0 σ 628 (lvK k) [] := by
  obtain ⟨v, σ1, σ2, A', e1, e2, f1, f2, f3⟩ := opB_run (digs_op (N := N) (by omega) hA (xs (nI (5 * k) + 1).toNatClampNeg)) hC hR
  refine r_aload_n (pc' := 629) C dL_law_628 rfl 3 rfl ?_
  refine r_aload_n (pc' := 630) C dL_law_629 rfl 4 rfl ?_
  refine r_iload (pc' := 632) C dL_law_630 rfl 0 rfl ?_
  refine r_iconst (pc' := 633) (v := 1) C dL_law_632 rfl rfl ?_
  refine r_iadd (pc' := 634) C dL_law_633 rfl ?_
  refine r_sld (pc' := 635) C hX (sc_in hk hL (j := 1) (by decide) rfl) dL_law_634 rfl ?_
  refine r_cV1 (pc' := 638) (v := .int v) (As := [.int (xs (nI (5 * k) + 1).toNatClampNeg)]) (st := []) C (X8_digs_ok e1) mlL_84 ceX8_digs cvX8_digs sh_0 rfl rfl rfl (Nat.le_of_ble_eq_true rfl) rfl (Nat.le_of_ble_eq_true rfl) dL_law_635 rfl (hf := hf) (kk := ?_)
  refine r_aload_n (pc' := 639) C dL_law_638 rfl 2 rfl ?_
  refine r_aload_n (pc' := 640) C dL_law_639 rfl 4 rfl ?_
  refine r_iload (pc' := 642) C dL_law_640 rfl 0 rfl ?_
  refine r_iconst (pc' := 643) (v := 1) C dL_law_642 rfl rfl ?_
  refine r_iadd (pc' := 644) C dL_law_643 rfl ?_
  refine r_sld (pc' := 645) C hX (sc_in hk hL (j := 1) (by decide) rfl) dL_law_644 rfl ?_
  refine r_cV1 (pc' := 648) (v := .int v) (As := [.int (xs (nI (5 * k) + 1).toNatClampNeg)]) (st := [.int v]) C (X9_digs_ok e2) mlL_87 ceX9_digs cvX9_digs sh_149 rfl rfl rfl (Nat.le_of_ble_eq_true rfl) rfl (Nat.le_of_ble_eq_true rfl) dL_law_645 rfl (hf := hf) (kk := ?_)
  refine r_icmp_eq (tgt := 1399) (pc' := 651) C dL_law_648 rfl rfl (fun _ => hS σ2 A' f1 f2 f3) (fun h => absurd rfl h)
set_option maxRecDepth 100000 in
set_option maxHeartbeats 4000000 in
theorem law_14 {E : Ev} {Z : Zx} {L : Nat} {xs : Nat → Int32} (C : LwC E Z) (hX : SX E Z L xs) (hL : L ≤ 320) {k : Nat} (hk : 5 * k + 5 ≤ L) {N : Nat} (hN : 5000 < N) {cells slots : Nat} (hf : cells ≤ lawM ∧ slots ≤ lawS) {H : Nat} (hH : H < 1000000) {A : Ab} (hA : OkA H A) {σ : Sg} (hC : InvC σ A) (hR : InvR σ A) (hS : LStep E Z H k cells slots) : Wm E Z cells slots SH0 σ 653 (lvK k) [] := by
  obtain ⟨v, σ1, σ2, A', e1, e2, f1, f2, f3⟩ := opB_run (night_op (N := N) (by omega) hA hH ) hC hR
  refine r_aload_n (pc' := 654) C dL_law_653 rfl 3 rfl ?_
  refine r_cV1 (pc' := 657) (v := .int v) (As := []) (st := []) C (X8_night_ok e1) mlL_88 ceX8_night cvX8_night sh_0 rfl rfl rfl (Nat.le_of_ble_eq_true rfl) rfl (Nat.le_of_ble_eq_true rfl) dL_law_654 rfl (hf := hf) (kk := ?_)
  refine r_aload_n (pc' := 658) C dL_law_657 rfl 2 rfl ?_
  refine r_cV1 (pc' := 661) (v := .int v) (As := []) (st := [.int v]) C (X9_night_ok e2) mlL_91 ceX9_night cvX9_night sh_149 rfl rfl rfl (Nat.le_of_ble_eq_true rfl) rfl (Nat.le_of_ble_eq_true rfl) dL_law_658 rfl (hf := hf) (kk := ?_)
  refine r_icmp_eq (tgt := 1399) (pc' := 664) C dL_law_661 rfl rfl (fun _ => hS σ2 A' f1 f2 f3) (fun h => absurd rfl h)
set_option maxRecDepth 100000 in
set_option maxHeartbeats 4000000 in
theorem law_15 {E : Ev} {Z : Zx} {L : Nat} {xs : Nat → Int32} (C : LwC E Z) (hX : SX E Z L xs) (hL : L ≤ 320) {k : Nat} (hk : 5 * k + 5 ≤ L) {N : Nat} (hN : 5000 < N) {cells slots : Nat} (hf : cells ≤ lawM ∧ slots ≤ lawS) {H : Nat} (hH : H < 1000000) {A : Ab} (hA : OkA H A) {σ : Sg} (hC : InvC σ A) (hR : InvR σ A) (hS : LStep E Z H k cells slots) : Wm E Z cells slots SH0 σ 666 (lvK k) [] := by
  obtain ⟨v, σ1, σ2, A', e1, e2, f1, f2, f3⟩ := opB_run (undo_op (N := N) (by omega) hA ) hC hR
  refine r_aload_n (pc' := 667) C dL_law_666 rfl 3 rfl ?_
  refine r_cV1 (pc' := 670) (v := .int v) (As := []) (st := []) C (X8_undo_ok e1) mlL_92 ceX8_undo cvX8_undo sh_0 rfl rfl rfl (Nat.le_of_ble_eq_true rfl) rfl (Nat.le_of_ble_eq_true rfl) dL_law_667 rfl (hf := hf) (kk := ?_)
  refine r_aload_n (pc' := 671) C dL_law_670 rfl 2 rfl ?_
  refine r_cV1 (pc' := 674) (v := .int v) (As := []) (st := [.int v]) C (X9_undo_ok e2) mlL_95 ceX9_undo cvX9_undo sh_149 rfl rfl rfl (Nat.le_of_ble_eq_true rfl) rfl (Nat.le_of_ble_eq_true rfl) dL_law_671 rfl (hf := hf) (kk := ?_)
  refine r_icmp_eq (tgt := 1399) (pc' := 677) C dL_law_674 rfl rfl (fun _ => hS σ2 A' f1 f2 f3) (fun h => absurd rfl h)
set_option maxRecDepth 100000 in
set_option maxHeartbeats 4000000 in
theorem law_16 {E : Ev} {Z : Zx} {L : Nat} {xs : Nat → Int32} (C : LwC E Z) (hX : SX E Z L xs) (hL : L ≤ 320) {k : Nat} (hk : 5 * k + 5 ≤ L) {N : Nat} (hN : 5000 < N) {cells slots : Nat} (hf : cells ≤ lawM ∧ slots ≤ lawS) {H : Nat} (hH : H < 1000000) {A : Ab} (hA : OkA H A) {σ : Sg} (hC : InvC σ A) (hR : InvR σ A) (hS : LStep E Z H k cells slots) : Wm E Z cells slots SH0 σ 679 (lvK k) [] := by
  obtain ⟨v, σ1, σ2, A', e1, e2, f1, f2, f3⟩ := opB_run (floats_op (N := N) (by omega) hA hH ) hC hR
  refine r_aload_n (pc' := 680) C dL_law_679 rfl 3 rfl ?_
  refine r_cV1 (pc' := 683) (v := .int v) (As := []) (st := []) C (X8_floats_ok e1) mlL_96 ceX8_floats cvX8_floats sh_0 rfl rfl rfl (Nat.le_of_ble_eq_true rfl) rfl (Nat.le_of_ble_eq_true rfl) dL_law_680 rfl (hf := hf) (kk := ?_)
  refine r_aload_n (pc' := 684) C dL_law_683 rfl 2 rfl ?_
  refine r_cV1 (pc' := 687) (v := .int v) (As := []) (st := [.int v]) C (X9_floats_ok e2) mlL_99 ceX9_floats cvX9_floats sh_149 rfl rfl rfl (Nat.le_of_ble_eq_true rfl) rfl (Nat.le_of_ble_eq_true rfl) dL_law_684 rfl (hf := hf) (kk := ?_)
  refine r_icmp_eq (tgt := 1399) (pc' := 690) C dL_law_687 rfl rfl (fun _ => hS σ2 A' f1 f2 f3) (fun h => absurd rfl h)
set_option maxRecDepth 100000 in
set_option maxHeartbeats 4000000 in
theorem law_17 {E : Ev} {Z : Zx} {L : Nat} {xs : Nat → Int32} (C : LwC E Z) (hX : SX E Z L xs) (hL : L ≤ 320) {k : Nat} (hk : 5 * k + 5 ≤ L) {N : Nat} (hN : 5000 < N) {cells slots : Nat} (hf : cells ≤ lawM ∧ slots ≤ lawS) {H : Nat} (hH : H < 1000000) {A : Ab} (hA : OkA H A) {σ : Sg} (hC : InvC σ A) (hR : InvR σ A) (hS : LStep E Z H k cells slots) : Wm E Z cells slots SH0 σ 692 (lvK k) [] := by
  obtain ⟨v, σ1, σ2, A', e1, e2, f1, f2, f3⟩ := opB_run (spare_op (N := N) (by omega) hA hH (xs (nI (5 * k) + 1).toNatClampNeg)) hC hR
  refine r_aload_n (pc' := 693) C dL_law_692 rfl 3 rfl ?_
  refine r_aload_n (pc' := 694) C dL_law_693 rfl 4 rfl ?_
  refine r_iload (pc' := 696) C dL_law_694 rfl 0 rfl ?_
  refine r_iconst (pc' := 697) (v := 1) C dL_law_696 rfl rfl ?_
  refine r_iadd (pc' := 698) C dL_law_697 rfl ?_
  refine r_sld (pc' := 699) C hX (sc_in hk hL (j := 1) (by decide) rfl) dL_law_698 rfl ?_
  refine r_cV1 (pc' := 702) (v := .int v) (As := [.int (xs (nI (5 * k) + 1).toNatClampNeg)]) (st := []) C (X8_spare_ok e1) mlL_100 ceX8_spare cvX8_spare sh_0 rfl rfl rfl (Nat.le_of_ble_eq_true rfl) rfl (Nat.le_of_ble_eq_true rfl) dL_law_699 rfl (hf := hf) (kk := ?_)
  refine r_aload_n (pc' := 703) C dL_law_702 rfl 2 rfl ?_
  refine r_aload_n (pc' := 704) C dL_law_703 rfl 4 rfl ?_
  refine r_iload (pc' := 706) C dL_law_704 rfl 0 rfl ?_
  refine r_iconst (pc' := 707) (v := 1) C dL_law_706 rfl rfl ?_
  refine r_iadd (pc' := 708) C dL_law_707 rfl ?_
  refine r_sld (pc' := 709) C hX (sc_in hk hL (j := 1) (by decide) rfl) dL_law_708 rfl ?_
  refine r_cV1 (pc' := 712) (v := .int v) (As := [.int (xs (nI (5 * k) + 1).toNatClampNeg)]) (st := [.int v]) C (X9_spare_ok e2) mlL_103 ceX9_spare cvX9_spare sh_149 rfl rfl rfl (Nat.le_of_ble_eq_true rfl) rfl (Nat.le_of_ble_eq_true rfl) dL_law_709 rfl (hf := hf) (kk := ?_)
  refine r_icmp_eq (tgt := 1399) (pc' := 715) C dL_law_712 rfl rfl (fun _ => hS σ2 A' f1 f2 f3) (fun h => absurd rfl h)
set_option maxRecDepth 100000 in
set_option maxHeartbeats 4000000 in
theorem law_18 {E : Ev} {Z : Zx} {L : Nat} {xs : Nat → Int32} (C : LwC E Z) (hX : SX E Z L xs) (hL : L ≤ 320) {k : Nat} (hk : 5 * k + 5 ≤ L) {N : Nat} (hN : 5000 < N) {cells slots : Nat} (hf : cells ≤ lawM ∧ slots ≤ lawS) {H : Nat} (hH : H < 1000000) {A : Ab} (hA : OkA H A) {σ : Sg} (hC : InvC σ A) (hR : InvR σ A) (hS : LStep E Z H k cells slots) : Wm E Z cells slots SH0 σ 717 (lvK k) [] := by
  obtain ⟨v, σ1, σ2, A', e1, e2, f1, f2, f3⟩ := opB_run (height_op (N := N) (by omega) hA hH (xs (nI (5 * k) + 1).toNatClampNeg) (xs (nI (5 * k) + 2).toNatClampNeg)) hC hR
  refine r_aload_n (pc' := 718) C dL_law_717 rfl 3 rfl ?_
  refine r_aload_n (pc' := 719) C dL_law_718 rfl 4 rfl ?_
  refine r_iload (pc' := 721) C dL_law_719 rfl 0 rfl ?_
  refine r_iconst (pc' := 722) (v := 1) C dL_law_721 rfl rfl ?_
  refine r_iadd (pc' := 723) C dL_law_722 rfl ?_
  refine r_sld (pc' := 724) C hX (sc_in hk hL (j := 1) (by decide) rfl) dL_law_723 rfl ?_
  refine r_aload_n (pc' := 725) C dL_law_724 rfl 4 rfl ?_
  refine r_iload (pc' := 727) C dL_law_725 rfl 0 rfl ?_
  refine r_iconst (pc' := 728) (v := 2) C dL_law_727 rfl rfl ?_
  refine r_iadd (pc' := 729) C dL_law_728 rfl ?_
  refine r_sld (pc' := 730) C hX (sc_in hk hL (j := 2) (by decide) rfl) dL_law_729 rfl ?_
  refine r_cV1 (pc' := 733) (v := .int v) (As := [.int (xs (nI (5 * k) + 1).toNatClampNeg), .int (xs (nI (5 * k) + 2).toNatClampNeg)]) (st := []) C (X8_height_ok e1) mlL_104 ceX8_height cvX8_height sh_0 rfl rfl rfl (Nat.le_of_ble_eq_true rfl) rfl (Nat.le_of_ble_eq_true rfl) dL_law_730 rfl (hf := hf) (kk := ?_)
  refine r_aload_n (pc' := 734) C dL_law_733 rfl 2 rfl ?_
  refine r_aload_n (pc' := 735) C dL_law_734 rfl 4 rfl ?_
  refine r_iload (pc' := 737) C dL_law_735 rfl 0 rfl ?_
  refine r_iconst (pc' := 738) (v := 1) C dL_law_737 rfl rfl ?_
  refine r_iadd (pc' := 739) C dL_law_738 rfl ?_
  refine r_sld (pc' := 740) C hX (sc_in hk hL (j := 1) (by decide) rfl) dL_law_739 rfl ?_
  refine r_aload_n (pc' := 741) C dL_law_740 rfl 4 rfl ?_
  refine r_iload (pc' := 743) C dL_law_741 rfl 0 rfl ?_
  refine r_iconst (pc' := 744) (v := 2) C dL_law_743 rfl rfl ?_
  refine r_iadd (pc' := 745) C dL_law_744 rfl ?_
  refine r_sld (pc' := 746) C hX (sc_in hk hL (j := 2) (by decide) rfl) dL_law_745 rfl ?_
  refine r_cV1 (pc' := 749) (v := .int v) (As := [.int (xs (nI (5 * k) + 1).toNatClampNeg), .int (xs (nI (5 * k) + 2).toNatClampNeg)]) (st := [.int v]) C (X9_height_ok e2) mlL_107 ceX9_height cvX9_height sh_149 rfl rfl rfl (Nat.le_of_ble_eq_true rfl) rfl (Nat.le_of_ble_eq_true rfl) dL_law_746 rfl (hf := hf) (kk := ?_)
  refine r_icmp_eq (tgt := 1399) (pc' := 752) C dL_law_749 rfl rfl (fun _ => hS σ2 A' f1 f2 f3) (fun h => absurd rfl h)
set_option maxRecDepth 100000 in
set_option maxHeartbeats 4000000 in
theorem law_19 {E : Ev} {Z : Zx} {L : Nat} {xs : Nat → Int32} (C : LwC E Z) (hX : SX E Z L xs) (hL : L ≤ 320) {k : Nat} (hk : 5 * k + 5 ≤ L) {N : Nat} (hN : 5000 < N) {cells slots : Nat} (hf : cells ≤ lawM ∧ slots ≤ lawS) {H : Nat} (hH : H < 1000000) {A : Ab} (hA : OkA H A) {σ : Sg} (hC : InvC σ A) (hR : InvR σ A) (hS : LStep E Z H k cells slots) : Wm E Z cells slots SH0 σ 754 (lvK k) [] := by
  obtain ⟨v, σ1, σ2, A', e1, e2, f1, f2, f3⟩ := opB_run (gone_op (N := N) (by omega) hA hH (xs (nI (5 * k) + 1).toNatClampNeg)) hC hR
  refine r_aload_n (pc' := 755) C dL_law_754 rfl 3 rfl ?_
  refine r_aload_n (pc' := 756) C dL_law_755 rfl 4 rfl ?_
  refine r_iload (pc' := 758) C dL_law_756 rfl 0 rfl ?_
  refine r_iconst (pc' := 759) (v := 1) C dL_law_758 rfl rfl ?_
  refine r_iadd (pc' := 760) C dL_law_759 rfl ?_
  refine r_sld (pc' := 761) C hX (sc_in hk hL (j := 1) (by decide) rfl) dL_law_760 rfl ?_
  refine r_cV1 (pc' := 764) (v := .int v) (As := [.int (xs (nI (5 * k) + 1).toNatClampNeg)]) (st := []) C (X8_gone_ok e1) mlL_108 ceX8_gone cvX8_gone sh_0 rfl rfl rfl (Nat.le_of_ble_eq_true rfl) rfl (Nat.le_of_ble_eq_true rfl) dL_law_761 rfl (hf := hf) (kk := ?_)
  refine r_aload_n (pc' := 765) C dL_law_764 rfl 2 rfl ?_
  refine r_aload_n (pc' := 766) C dL_law_765 rfl 4 rfl ?_
  refine r_iload (pc' := 768) C dL_law_766 rfl 0 rfl ?_
  refine r_iconst (pc' := 769) (v := 1) C dL_law_768 rfl rfl ?_
  refine r_iadd (pc' := 770) C dL_law_769 rfl ?_
  refine r_sld (pc' := 771) C hX (sc_in hk hL (j := 1) (by decide) rfl) dL_law_770 rfl ?_
  refine r_cV1 (pc' := 774) (v := .int v) (As := [.int (xs (nI (5 * k) + 1).toNatClampNeg)]) (st := [.int v]) C (X9_gone_ok e2) mlL_111 ceX9_gone cvX9_gone sh_149 rfl rfl rfl (Nat.le_of_ble_eq_true rfl) rfl (Nat.le_of_ble_eq_true rfl) dL_law_771 rfl (hf := hf) (kk := ?_)
  refine r_icmp_eq (tgt := 1399) (pc' := 777) C dL_law_774 rfl rfl (fun _ => hS σ2 A' f1 f2 f3) (fun h => absurd rfl h)
set_option maxRecDepth 100000 in
set_option maxHeartbeats 4000000 in
theorem law_20 {E : Ev} {Z : Zx} {L : Nat} {xs : Nat → Int32} (C : LwC E Z) (hX : SX E Z L xs) (hL : L ≤ 320) {k : Nat} (hk : 5 * k + 5 ≤ L) {N : Nat} (hN : 5000 < N) {cells slots : Nat} (hf : cells ≤ lawM ∧ slots ≤ lawS) {H : Nat} (hH : H < 1000000) {A : Ab} (hA : OkA H A) {σ : Sg} (hC : InvC σ A) (hR : InvR σ A) (hS : LStep E Z H k cells slots) : Wm E Z cells slots SH0 σ 779 (lvK k) [] := by
  obtain ⟨v, σ1, σ2, A', e1, e2, f1, f2, f3⟩ := opB_run (ahead_op (N := N) (by omega) hA hH (xs (nI (5 * k) + 1).toNatClampNeg)) hC hR
  refine r_aload_n (pc' := 780) C dL_law_779 rfl 3 rfl ?_
  refine r_aload_n (pc' := 781) C dL_law_780 rfl 4 rfl ?_
  refine r_iload (pc' := 783) C dL_law_781 rfl 0 rfl ?_
  refine r_iconst (pc' := 784) (v := 1) C dL_law_783 rfl rfl ?_
  refine r_iadd (pc' := 785) C dL_law_784 rfl ?_
  refine r_sld (pc' := 786) C hX (sc_in hk hL (j := 1) (by decide) rfl) dL_law_785 rfl ?_
  refine r_cV1 (pc' := 789) (v := .int v) (As := [.int (xs (nI (5 * k) + 1).toNatClampNeg)]) (st := []) C (X8_ahead_ok e1) mlL_112 ceX8_ahead cvX8_ahead sh_0 rfl rfl rfl (Nat.le_of_ble_eq_true rfl) rfl (Nat.le_of_ble_eq_true rfl) dL_law_786 rfl (hf := hf) (kk := ?_)
  refine r_aload_n (pc' := 790) C dL_law_789 rfl 2 rfl ?_
  refine r_aload_n (pc' := 791) C dL_law_790 rfl 4 rfl ?_
  refine r_iload (pc' := 793) C dL_law_791 rfl 0 rfl ?_
  refine r_iconst (pc' := 794) (v := 1) C dL_law_793 rfl rfl ?_
  refine r_iadd (pc' := 795) C dL_law_794 rfl ?_
  refine r_sld (pc' := 796) C hX (sc_in hk hL (j := 1) (by decide) rfl) dL_law_795 rfl ?_
  refine r_cV1 (pc' := 799) (v := .int v) (As := [.int (xs (nI (5 * k) + 1).toNatClampNeg)]) (st := [.int v]) C (X9_ahead_ok e2) mlL_115 ceX9_ahead cvX9_ahead sh_149 rfl rfl rfl (Nat.le_of_ble_eq_true rfl) rfl (Nat.le_of_ble_eq_true rfl) dL_law_796 rfl (hf := hf) (kk := ?_)
  refine r_icmp_eq (tgt := 1399) (pc' := 802) C dL_law_799 rfl rfl (fun _ => hS σ2 A' f1 f2 f3) (fun h => absurd rfl h)
set_option maxRecDepth 100000 in
set_option maxHeartbeats 4000000 in
theorem law_21 {E : Ev} {Z : Zx} {L : Nat} {xs : Nat → Int32} (C : LwC E Z) (hX : SX E Z L xs) (hL : L ≤ 320) {k : Nat} (hk : 5 * k + 5 ≤ L) {N : Nat} (hN : 5000 < N) {cells slots : Nat} (hf : cells ≤ lawM ∧ slots ≤ lawS) {H : Nat} (hH : H < 1000000) {A : Ab} (hA : OkA H A) {σ : Sg} (hC : InvC σ A) (hR : InvR σ A) (hS : LStep E Z H k cells slots) : Wm E Z cells slots SH0 σ 804 (lvK k) [] := by
  obtain ⟨v, σ1, σ2, A', e1, e2, f1, f2, f3⟩ := opB_run (least_op (N := N) (by omega) hA hH (xs (nI (5 * k) + 1).toNatClampNeg)) hC hR
  refine r_aload_n (pc' := 805) C dL_law_804 rfl 3 rfl ?_
  refine r_aload_n (pc' := 806) C dL_law_805 rfl 4 rfl ?_
  refine r_iload (pc' := 808) C dL_law_806 rfl 0 rfl ?_
  refine r_iconst (pc' := 809) (v := 1) C dL_law_808 rfl rfl ?_
  refine r_iadd (pc' := 810) C dL_law_809 rfl ?_
  refine r_sld (pc' := 811) C hX (sc_in hk hL (j := 1) (by decide) rfl) dL_law_810 rfl ?_
  refine r_cV1 (pc' := 814) (v := .int v) (As := [.int (xs (nI (5 * k) + 1).toNatClampNeg)]) (st := []) C (X8_least_ok e1) mlL_116 ceX8_least cvX8_least sh_0 rfl rfl rfl (Nat.le_of_ble_eq_true rfl) rfl (Nat.le_of_ble_eq_true rfl) dL_law_811 rfl (hf := hf) (kk := ?_)
  refine r_aload_n (pc' := 815) C dL_law_814 rfl 2 rfl ?_
  refine r_aload_n (pc' := 816) C dL_law_815 rfl 4 rfl ?_
  refine r_iload (pc' := 818) C dL_law_816 rfl 0 rfl ?_
  refine r_iconst (pc' := 819) (v := 1) C dL_law_818 rfl rfl ?_
  refine r_iadd (pc' := 820) C dL_law_819 rfl ?_
  refine r_sld (pc' := 821) C hX (sc_in hk hL (j := 1) (by decide) rfl) dL_law_820 rfl ?_
  refine r_cV1 (pc' := 824) (v := .int v) (As := [.int (xs (nI (5 * k) + 1).toNatClampNeg)]) (st := [.int v]) C (X9_least_ok e2) mlL_119 ceX9_least cvX9_least sh_149 rfl rfl rfl (Nat.le_of_ble_eq_true rfl) rfl (Nat.le_of_ble_eq_true rfl) dL_law_821 rfl (hf := hf) (kk := ?_)
  refine r_icmp_eq (tgt := 1399) (pc' := 827) C dL_law_824 rfl rfl (fun _ => hS σ2 A' f1 f2 f3) (fun h => absurd rfl h)
set_option maxRecDepth 100000 in
set_option maxHeartbeats 4000000 in
theorem law_22 {E : Ev} {Z : Zx} {L : Nat} {xs : Nat → Int32} (C : LwC E Z) (hX : SX E Z L xs) (hL : L ≤ 320) {k : Nat} (hk : 5 * k + 5 ≤ L) {N : Nat} (hN : 5000 < N) {cells slots : Nat} (hf : cells ≤ lawM ∧ slots ≤ lawS) {H : Nat} (hH : H < 1000000) {A : Ab} (hA : OkA H A) {σ : Sg} (hC : InvC σ A) (hR : InvR σ A) (hS : LStep E Z H k cells slots) : Wm E Z cells slots SH0 σ 829 (lvK k) [] := by
  obtain ⟨v, σ1, σ2, A', e1, e2, f1, f2, f3⟩ := opB_run (surplus_op (N := N) (by omega) hA hH ) hC hR
  refine r_aload_n (pc' := 830) C dL_law_829 rfl 3 rfl ?_
  refine r_cV1 (pc' := 833) (v := .int v) (As := []) (st := []) C (X8_surplus_ok e1) mlL_120 ceX8_surplus cvX8_surplus sh_0 rfl rfl rfl (Nat.le_of_ble_eq_true rfl) rfl (Nat.le_of_ble_eq_true rfl) dL_law_830 rfl (hf := hf) (kk := ?_)
  refine r_aload_n (pc' := 834) C dL_law_833 rfl 2 rfl ?_
  refine r_cV1 (pc' := 837) (v := .int v) (As := []) (st := [.int v]) C (X9_surplus_ok e2) mlL_123 ceX9_surplus cvX9_surplus sh_149 rfl rfl rfl (Nat.le_of_ble_eq_true rfl) rfl (Nat.le_of_ble_eq_true rfl) dL_law_834 rfl (hf := hf) (kk := ?_)
  refine r_icmp_eq (tgt := 1399) (pc' := 840) C dL_law_837 rfl rfl (fun _ => hS σ2 A' f1 f2 f3) (fun h => absurd rfl h)
set_option maxRecDepth 100000 in
set_option maxHeartbeats 4000000 in
theorem law_23 {E : Ev} {Z : Zx} {L : Nat} {xs : Nat → Int32} (C : LwC E Z) (hX : SX E Z L xs) (hL : L ≤ 320) {k : Nat} (hk : 5 * k + 5 ≤ L) {N : Nat} (hN : 5000 < N) {cells slots : Nat} (hf : cells ≤ lawM ∧ slots ≤ lawS) {H : Nat} (hH : H < 1000000) {A : Ab} (hA : OkA H A) {σ : Sg} (hC : InvC σ A) (hR : InvR σ A) (hS : LStep E Z H k cells slots) : Wm E Z cells slots SH0 σ 842 (lvK k) [] := by
  obtain ⟨v, σ1, σ2, A', e1, e2, f1, f2, f3⟩ := opB_run (vital_op (N := N) (by omega) hA hH ) hC hR
  refine r_aload_n (pc' := 843) C dL_law_842 rfl 3 rfl ?_
  refine r_cV1 (pc' := 846) (v := .int v) (As := []) (st := []) C (X8_vital_ok e1) mlL_124 ceX8_vital cvX8_vital sh_0 rfl rfl rfl (Nat.le_of_ble_eq_true rfl) rfl (Nat.le_of_ble_eq_true rfl) dL_law_843 rfl (hf := hf) (kk := ?_)
  refine r_aload_n (pc' := 847) C dL_law_846 rfl 2 rfl ?_
  refine r_cV1 (pc' := 850) (v := .int v) (As := []) (st := [.int v]) C (X9_vital_ok e2) mlL_127 ceX9_vital cvX9_vital sh_149 rfl rfl rfl (Nat.le_of_ble_eq_true rfl) rfl (Nat.le_of_ble_eq_true rfl) dL_law_847 rfl (hf := hf) (kk := ?_)
  refine r_icmp_eq (tgt := 1399) (pc' := 853) C dL_law_850 rfl rfl (fun _ => hS σ2 A' f1 f2 f3) (fun h => absurd rfl h)
set_option maxRecDepth 100000 in
set_option maxHeartbeats 4000000 in
theorem law_24 {E : Ev} {Z : Zx} {L : Nat} {xs : Nat → Int32} (C : LwC E Z) (hX : SX E Z L xs) (hL : L ≤ 320) {k : Nat} (hk : 5 * k + 5 ≤ L) {N : Nat} (hN : 5000 < N) {cells slots : Nat} (hf : cells ≤ lawM ∧ slots ≤ lawS) {H : Nat} (hH : H < 1000000) {A : Ab} (hA : OkA H A) {σ : Sg} (hC : InvC σ A) (hR : InvR σ A) (hS : LStep E Z H k cells slots) : Wm E Z cells slots SH0 σ 855 (lvK k) [] := by
  obtain ⟨v, σ1, σ2, A', e1, e2, f1, f2, f3⟩ := opB_run (tie_op (N := N) (by omega) hA hH ) hC hR
  refine r_aload_n (pc' := 856) C dL_law_855 rfl 3 rfl ?_
  refine r_cV1 (pc' := 859) (v := .int v) (As := []) (st := []) C (X8_tie_ok e1) mlL_128 ceX8_tie cvX8_tie sh_0 rfl rfl rfl (Nat.le_of_ble_eq_true rfl) rfl (Nat.le_of_ble_eq_true rfl) dL_law_856 rfl (hf := hf) (kk := ?_)
  refine r_aload_n (pc' := 860) C dL_law_859 rfl 2 rfl ?_
  refine r_cV1 (pc' := 863) (v := .int v) (As := []) (st := [.int v]) C (X9_tie_ok e2) mlL_131 ceX9_tie cvX9_tie sh_149 rfl rfl rfl (Nat.le_of_ble_eq_true rfl) rfl (Nat.le_of_ble_eq_true rfl) dL_law_860 rfl (hf := hf) (kk := ?_)
  refine r_icmp_eq (tgt := 1399) (pc' := 866) C dL_law_863 rfl rfl (fun _ => hS σ2 A' f1 f2 f3) (fun h => absurd rfl h)
set_option maxRecDepth 100000 in
set_option maxHeartbeats 4000000 in
theorem law_25 {E : Ev} {Z : Zx} {L : Nat} {xs : Nat → Int32} (C : LwC E Z) (hX : SX E Z L xs) (hL : L ≤ 320) {k : Nat} (hk : 5 * k + 5 ≤ L) {N : Nat} (hN : 5000 < N) {cells slots : Nat} (hf : cells ≤ lawM ∧ slots ≤ lawS) {H : Nat} (hH : H < 1000000) {A : Ab} (hA : OkA H A) {σ : Sg} (hC : InvC σ A) (hR : InvR σ A) (hS : LStep E Z H k cells slots) : Wm E Z cells slots SH0 σ 868 (lvK k) [] := by
  obtain ⟨v, σ1, σ2, A', e1, e2, f1, f2, f3⟩ := opB_run (binds_op (N := N) (by omega) hA hH ) hC hR
  refine r_aload_n (pc' := 869) C dL_law_868 rfl 3 rfl ?_
  refine r_cV1 (pc' := 872) (v := .int v) (As := []) (st := []) C (X8_binds_ok e1) mlL_132 ceX8_binds cvX8_binds sh_0 rfl rfl rfl (Nat.le_of_ble_eq_true rfl) rfl (Nat.le_of_ble_eq_true rfl) dL_law_869 rfl (hf := hf) (kk := ?_)
  refine r_aload_n (pc' := 873) C dL_law_872 rfl 2 rfl ?_
  refine r_cV1 (pc' := 876) (v := .int v) (As := []) (st := [.int v]) C (X9_binds_ok e2) mlL_135 ceX9_binds cvX9_binds sh_149 rfl rfl rfl (Nat.le_of_ble_eq_true rfl) rfl (Nat.le_of_ble_eq_true rfl) dL_law_873 rfl (hf := hf) (kk := ?_)
  refine r_icmp_eq (tgt := 1399) (pc' := 879) C dL_law_876 rfl rfl (fun _ => hS σ2 A' f1 f2 f3) (fun h => absurd rfl h)
set_option maxRecDepth 100000 in
set_option maxHeartbeats 4000000 in
theorem law_26 {E : Ev} {Z : Zx} {L : Nat} {xs : Nat → Int32} (C : LwC E Z) (hX : SX E Z L xs) (hL : L ≤ 320) {k : Nat} (hk : 5 * k + 5 ≤ L) {N : Nat} (hN : 5000 < N) {cells slots : Nat} (hf : cells ≤ lawM ∧ slots ≤ lawS) {H : Nat} (hH : H < 1000000) {A : Ab} (hA : OkA H A) {σ : Sg} (hC : InvC σ A) (hR : InvR σ A) (hS : LStep E Z H k cells slots) : Wm E Z cells slots SH0 σ 881 (lvK k) [] := by
  obtain ⟨v, σ1, σ2, A', e1, e2, f1, f2, f3⟩ := opB_run (way_op (N := N) (by omega) hA (xs (nI (5 * k) + 1).toNatClampNeg) (xs (nI (5 * k) + 2).toNatClampNeg)) hC hR
  refine r_aload_n (pc' := 882) C dL_law_881 rfl 3 rfl ?_
  refine r_aload_n (pc' := 883) C dL_law_882 rfl 4 rfl ?_
  refine r_iload (pc' := 885) C dL_law_883 rfl 0 rfl ?_
  refine r_iconst (pc' := 886) (v := 1) C dL_law_885 rfl rfl ?_
  refine r_iadd (pc' := 887) C dL_law_886 rfl ?_
  refine r_sld (pc' := 888) C hX (sc_in hk hL (j := 1) (by decide) rfl) dL_law_887 rfl ?_
  refine r_aload_n (pc' := 889) C dL_law_888 rfl 4 rfl ?_
  refine r_iload (pc' := 891) C dL_law_889 rfl 0 rfl ?_
  refine r_iconst (pc' := 892) (v := 2) C dL_law_891 rfl rfl ?_
  refine r_iadd (pc' := 893) C dL_law_892 rfl ?_
  refine r_sld (pc' := 894) C hX (sc_in hk hL (j := 2) (by decide) rfl) dL_law_893 rfl ?_
  refine r_cV1 (pc' := 897) (v := .int v) (As := [.int (xs (nI (5 * k) + 1).toNatClampNeg), .int (xs (nI (5 * k) + 2).toNatClampNeg)]) (st := []) C (X8_way_ok e1) mlL_136 ceX8_way cvX8_way sh_0 rfl rfl rfl (Nat.le_of_ble_eq_true rfl) rfl (Nat.le_of_ble_eq_true rfl) dL_law_894 rfl (hf := hf) (kk := ?_)
  refine r_aload_n (pc' := 898) C dL_law_897 rfl 2 rfl ?_
  refine r_aload_n (pc' := 899) C dL_law_898 rfl 4 rfl ?_
  refine r_iload (pc' := 901) C dL_law_899 rfl 0 rfl ?_
  refine r_iconst (pc' := 902) (v := 1) C dL_law_901 rfl rfl ?_
  refine r_iadd (pc' := 903) C dL_law_902 rfl ?_
  refine r_sld (pc' := 904) C hX (sc_in hk hL (j := 1) (by decide) rfl) dL_law_903 rfl ?_
  refine r_aload_n (pc' := 905) C dL_law_904 rfl 4 rfl ?_
  refine r_iload (pc' := 907) C dL_law_905 rfl 0 rfl ?_
  refine r_iconst (pc' := 908) (v := 2) C dL_law_907 rfl rfl ?_
  refine r_iadd (pc' := 909) C dL_law_908 rfl ?_
  refine r_sld (pc' := 910) C hX (sc_in hk hL (j := 2) (by decide) rfl) dL_law_909 rfl ?_
  refine r_cV1 (pc' := 913) (v := .int v) (As := [.int (xs (nI (5 * k) + 1).toNatClampNeg), .int (xs (nI (5 * k) + 2).toNatClampNeg)]) (st := [.int v]) C (X9_way_ok e2) mlL_139 ceX9_way cvX9_way sh_149 rfl rfl rfl (Nat.le_of_ble_eq_true rfl) rfl (Nat.le_of_ble_eq_true rfl) dL_law_910 rfl (hf := hf) (kk := ?_)
  refine r_icmp_eq (tgt := 1399) (pc' := 916) C dL_law_913 rfl rfl (fun _ => hS σ2 A' f1 f2 f3) (fun h => absurd rfl h)
set_option maxRecDepth 100000 in
set_option maxHeartbeats 4000000 in
theorem law_27 {E : Ev} {Z : Zx} {L : Nat} {xs : Nat → Int32} (C : LwC E Z) (hX : SX E Z L xs) (hL : L ≤ 320) {k : Nat} (hk : 5 * k + 5 ≤ L) {N : Nat} (hN : 5000 < N) {cells slots : Nat} (hf : cells ≤ lawM ∧ slots ≤ lawS) {H : Nat} (hH : H < 1000000) {A : Ab} (hA : OkA H A) {σ : Sg} (hC : InvC σ A) (hR : InvR σ A) (hS : LStep E Z H k cells slots) : Wm E Z cells slots SH0 σ 918 (lvK k) [] := by
  obtain ⟨v, σ1, σ2, A', e1, e2, f1, f2, f3⟩ := opB_run (serves_op (N := N) (by omega) hA ) hC hR
  refine r_aload_n (pc' := 919) C dL_law_918 rfl 3 rfl ?_
  refine r_cV1 (pc' := 922) (v := .int v) (As := []) (st := []) C (X8_serves_ok e1) mlL_140 ceX8_serves cvX8_serves sh_0 rfl rfl rfl (Nat.le_of_ble_eq_true rfl) rfl (Nat.le_of_ble_eq_true rfl) dL_law_919 rfl (hf := hf) (kk := ?_)
  refine r_aload_n (pc' := 923) C dL_law_922 rfl 2 rfl ?_
  refine r_cV1 (pc' := 926) (v := .int v) (As := []) (st := [.int v]) C (X9_serves_ok e2) mlL_143 ceX9_serves cvX9_serves sh_149 rfl rfl rfl (Nat.le_of_ble_eq_true rfl) rfl (Nat.le_of_ble_eq_true rfl) dL_law_923 rfl (hf := hf) (kk := ?_)
  refine r_icmp_eq (tgt := 1399) (pc' := 929) C dL_law_926 rfl rfl (fun _ => hS σ2 A' f1 f2 f3) (fun h => absurd rfl h)
set_option maxRecDepth 100000 in
set_option maxHeartbeats 4000000 in
theorem law_28 {E : Ev} {Z : Zx} {L : Nat} {xs : Nat → Int32} (C : LwC E Z) (hX : SX E Z L xs) (hL : L ≤ 320) {k : Nat} (hk : 5 * k + 5 ≤ L) {N : Nat} (hN : 5000 < N) {cells slots : Nat} (hf : cells ≤ lawM ∧ slots ≤ lawS) {H : Nat} (hH : H < 1000000) {A : Ab} (hA : OkA H A) {σ : Sg} (hC : InvC σ A) (hR : InvR σ A) (hS : LStep E Z H k cells slots) : Wm E Z cells slots SH0 σ 931 (lvK k) [] := by
  obtain ⟨v, σ1, σ2, A', e1, e2, f1, f2, f3⟩ := opB_run (owes_op (N := N) (by omega) hA hH (xs (nI (5 * k) + 1).toNatClampNeg)) hC hR
  refine r_aload_n (pc' := 932) C dL_law_931 rfl 3 rfl ?_
  refine r_aload_n (pc' := 933) C dL_law_932 rfl 4 rfl ?_
  refine r_iload (pc' := 935) C dL_law_933 rfl 0 rfl ?_
  refine r_iconst (pc' := 936) (v := 1) C dL_law_935 rfl rfl ?_
  refine r_iadd (pc' := 937) C dL_law_936 rfl ?_
  refine r_sld (pc' := 938) C hX (sc_in hk hL (j := 1) (by decide) rfl) dL_law_937 rfl ?_
  refine r_cV1 (pc' := 941) (v := .int v) (As := [.int (xs (nI (5 * k) + 1).toNatClampNeg)]) (st := []) C (X8_owes_ok e1) mlL_144 ceX8_owes cvX8_owes sh_0 rfl rfl rfl (Nat.le_of_ble_eq_true rfl) rfl (Nat.le_of_ble_eq_true rfl) dL_law_938 rfl (hf := hf) (kk := ?_)
  refine r_aload_n (pc' := 942) C dL_law_941 rfl 2 rfl ?_
  refine r_aload_n (pc' := 943) C dL_law_942 rfl 4 rfl ?_
  refine r_iload (pc' := 945) C dL_law_943 rfl 0 rfl ?_
  refine r_iconst (pc' := 946) (v := 1) C dL_law_945 rfl rfl ?_
  refine r_iadd (pc' := 947) C dL_law_946 rfl ?_
  refine r_sld (pc' := 948) C hX (sc_in hk hL (j := 1) (by decide) rfl) dL_law_947 rfl ?_
  refine r_cV1 (pc' := 951) (v := .int v) (As := [.int (xs (nI (5 * k) + 1).toNatClampNeg)]) (st := [.int v]) C (X9_owes_ok e2) mlL_147 ceX9_owes cvX9_owes sh_149 rfl rfl rfl (Nat.le_of_ble_eq_true rfl) rfl (Nat.le_of_ble_eq_true rfl) dL_law_948 rfl (hf := hf) (kk := ?_)
  refine r_icmp_eq (tgt := 1399) (pc' := 954) C dL_law_951 rfl rfl (fun _ => hS σ2 A' f1 f2 f3) (fun h => absurd rfl h)
set_option maxRecDepth 100000 in
set_option maxHeartbeats 4000000 in
theorem law_29 {E : Ev} {Z : Zx} {L : Nat} {xs : Nat → Int32} (C : LwC E Z) (hX : SX E Z L xs) (hL : L ≤ 320) {k : Nat} (hk : 5 * k + 5 ≤ L) {N : Nat} (hN : 5000 < N) {cells slots : Nat} (hf : cells ≤ lawM ∧ slots ≤ lawS) {H : Nat} (hH : H < 1000000) {A : Ab} (hA : OkA H A) {σ : Sg} (hC : InvC σ A) (hR : InvR σ A) (hS : LStep E Z H k cells slots) : Wm E Z cells slots SH0 σ 956 (lvK k) [] := by
  obtain ⟨v, σ1, σ2, A', e1, e2, f1, f2, f3⟩ := opB_run (seen_op N hA (xs (nI (5 * k) + 1).toNatClampNeg) (xs (nI (5 * k) + 2).toNatClampNeg) (xs (nI (5 * k) + 3).toNatClampNeg)) hC hR
  refine r_aload_n (pc' := 957) C dL_law_956 rfl 3 rfl ?_
  refine r_aload_n (pc' := 958) C dL_law_957 rfl 4 rfl ?_
  refine r_iload (pc' := 960) C dL_law_958 rfl 0 rfl ?_
  refine r_iconst (pc' := 961) (v := 1) C dL_law_960 rfl rfl ?_
  refine r_iadd (pc' := 962) C dL_law_961 rfl ?_
  refine r_sld (pc' := 963) C hX (sc_in hk hL (j := 1) (by decide) rfl) dL_law_962 rfl ?_
  refine r_aload_n (pc' := 964) C dL_law_963 rfl 4 rfl ?_
  refine r_iload (pc' := 966) C dL_law_964 rfl 0 rfl ?_
  refine r_iconst (pc' := 967) (v := 2) C dL_law_966 rfl rfl ?_
  refine r_iadd (pc' := 968) C dL_law_967 rfl ?_
  refine r_sld (pc' := 969) C hX (sc_in hk hL (j := 2) (by decide) rfl) dL_law_968 rfl ?_
  refine r_aload_n (pc' := 970) C dL_law_969 rfl 4 rfl ?_
  refine r_iload (pc' := 972) C dL_law_970 rfl 0 rfl ?_
  refine r_iconst (pc' := 973) (v := 3) C dL_law_972 rfl rfl ?_
  refine r_iadd (pc' := 974) C dL_law_973 rfl ?_
  refine r_sld (pc' := 975) C hX (sc_in hk hL (j := 3) (by decide) rfl) dL_law_974 rfl ?_
  refine r_cV1 (pc' := 978) (v := .int v) (As := [.int (xs (nI (5 * k) + 1).toNatClampNeg), .int (xs (nI (5 * k) + 2).toNatClampNeg), .int (xs (nI (5 * k) + 3).toNatClampNeg)]) (st := []) C (X8_seen_ok e1) mlL_148 ceX8_seen cvX8_seen sh_0 rfl rfl rfl (Nat.le_of_ble_eq_true rfl) rfl (Nat.le_of_ble_eq_true rfl) dL_law_975 rfl (hf := hf) (kk := ?_)
  refine r_aload_n (pc' := 979) C dL_law_978 rfl 2 rfl ?_
  refine r_aload_n (pc' := 980) C dL_law_979 rfl 4 rfl ?_
  refine r_iload (pc' := 982) C dL_law_980 rfl 0 rfl ?_
  refine r_iconst (pc' := 983) (v := 1) C dL_law_982 rfl rfl ?_
  refine r_iadd (pc' := 984) C dL_law_983 rfl ?_
  refine r_sld (pc' := 985) C hX (sc_in hk hL (j := 1) (by decide) rfl) dL_law_984 rfl ?_
  refine r_aload_n (pc' := 986) C dL_law_985 rfl 4 rfl ?_
  refine r_iload (pc' := 988) C dL_law_986 rfl 0 rfl ?_
  refine r_iconst (pc' := 989) (v := 2) C dL_law_988 rfl rfl ?_
  refine r_iadd (pc' := 990) C dL_law_989 rfl ?_
  refine r_sld (pc' := 991) C hX (sc_in hk hL (j := 2) (by decide) rfl) dL_law_990 rfl ?_
  refine r_aload_n (pc' := 992) C dL_law_991 rfl 4 rfl ?_
  refine r_iload (pc' := 994) C dL_law_992 rfl 0 rfl ?_
  refine r_iconst (pc' := 995) (v := 3) C dL_law_994 rfl rfl ?_
  refine r_iadd (pc' := 996) C dL_law_995 rfl ?_
  refine r_sld (pc' := 997) C hX (sc_in hk hL (j := 3) (by decide) rfl) dL_law_996 rfl ?_
  refine r_cV1 (pc' := 1000) (v := .int v) (As := [.int (xs (nI (5 * k) + 1).toNatClampNeg), .int (xs (nI (5 * k) + 2).toNatClampNeg), .int (xs (nI (5 * k) + 3).toNatClampNeg)]) (st := [.int v]) C (X9_seen_ok e2) mlL_152 ceX9_seen cvX9_seen sh_149 rfl rfl rfl (Nat.le_of_ble_eq_true rfl) rfl (Nat.le_of_ble_eq_true rfl) dL_law_997 rfl (hf := hf) (kk := ?_)
  refine r_icmp_eq (tgt := 1399) (pc' := 1003) C dL_law_1000 rfl rfl (fun _ => hS σ2 A' f1 f2 f3) (fun h => absurd rfl h)
set_option maxRecDepth 100000 in
set_option maxHeartbeats 4000000 in
theorem law_30 {E : Ev} {Z : Zx} {L : Nat} {xs : Nat → Int32} (C : LwC E Z) (hX : SX E Z L xs) (hL : L ≤ 320) {k : Nat} (hk : 5 * k + 5 ≤ L) {N : Nat} (hN : 5000 < N) {cells slots : Nat} (hf : cells ≤ lawM ∧ slots ≤ lawS) {H : Nat} (hH : H < 1000000) {A : Ab} (hA : OkA H A) {σ : Sg} (hC : InvC σ A) (hR : InvR σ A) (hS : LStep E Z H k cells slots) : Wm E Z cells slots SH0 σ 1005 (lvK k) [] := by
  obtain ⟨v, σ1, σ2, A', e1, e2, f1, f2, f3⟩ := opB_run (forget_op N hA ) hC hR
  refine r_aload_n (pc' := 1006) C dL_law_1005 rfl 3 rfl ?_
  refine r_cV1 (pc' := 1009) (v := .int v) (As := []) (st := []) C (X8_forget_ok e1) mlL_153 ceX8_forget cvX8_forget sh_0 rfl rfl rfl (Nat.le_of_ble_eq_true rfl) rfl (Nat.le_of_ble_eq_true rfl) dL_law_1006 rfl (hf := hf) (kk := ?_)
  refine r_aload_n (pc' := 1010) C dL_law_1009 rfl 2 rfl ?_
  refine r_cV1 (pc' := 1013) (v := .int v) (As := []) (st := [.int v]) C (X9_forget_ok e2) mlL_156 ceX9_forget cvX9_forget sh_149 rfl rfl rfl (Nat.le_of_ble_eq_true rfl) rfl (Nat.le_of_ble_eq_true rfl) dL_law_1010 rfl (hf := hf) (kk := ?_)
  refine r_icmp_eq (tgt := 1399) (pc' := 1016) C dL_law_1013 rfl rfl (fun _ => hS σ2 A' f1 f2 f3) (fun h => absurd rfl h)
set_option maxRecDepth 100000 in
set_option maxHeartbeats 4000000 in
theorem law_31 {E : Ev} {Z : Zx} {L : Nat} {xs : Nat → Int32} (C : LwC E Z) (hX : SX E Z L xs) (hL : L ≤ 320) {k : Nat} (hk : 5 * k + 5 ≤ L) {N : Nat} (hN : 5000 < N) {cells slots : Nat} (hf : cells ≤ lawM ∧ slots ≤ lawS) {H : Nat} (hH : H < 1000000) {A : Ab} (hA : OkA H A) {σ : Sg} (hC : InvC σ A) (hR : InvR σ A) (hS : LStep E Z H k cells slots) : Wm E Z cells slots SH0 σ 1018 (lvK k) [] := by
  obtain ⟨v, σ1, σ2, A', e1, e2, f1, f2, f3⟩ := opB_run (fits_op (N := N) (by omega) hA hH ) hC hR
  refine r_aload_n (pc' := 1019) C dL_law_1018 rfl 3 rfl ?_
  refine r_cV1 (pc' := 1022) (v := .int v) (As := []) (st := []) C (X8_fits_ok e1) mlL_157 ceX8_fits cvX8_fits sh_0 rfl rfl rfl (Nat.le_of_ble_eq_true rfl) rfl (Nat.le_of_ble_eq_true rfl) dL_law_1019 rfl (hf := hf) (kk := ?_)
  refine r_aload_n (pc' := 1023) C dL_law_1022 rfl 2 rfl ?_
  refine r_cV1 (pc' := 1026) (v := .int v) (As := []) (st := [.int v]) C (X9_fits_ok e2) mlL_160 ceX9_fits cvX9_fits sh_149 rfl rfl rfl (Nat.le_of_ble_eq_true rfl) rfl (Nat.le_of_ble_eq_true rfl) dL_law_1023 rfl (hf := hf) (kk := ?_)
  refine r_icmp_eq (tgt := 1399) (pc' := 1029) C dL_law_1026 rfl rfl (fun _ => hS σ2 A' f1 f2 f3) (fun h => absurd rfl h)
set_option maxRecDepth 100000 in
set_option maxHeartbeats 4000000 in
theorem law_32 {E : Ev} {Z : Zx} {L : Nat} {xs : Nat → Int32} (C : LwC E Z) (hX : SX E Z L xs) (hL : L ≤ 320) {k : Nat} (hk : 5 * k + 5 ≤ L) {N : Nat} (hN : 5000 < N) {cells slots : Nat} (hf : cells ≤ lawM ∧ slots ≤ lawS) {H : Nat} (hH : H < 1000000) {A : Ab} (hA : OkA H A) {σ : Sg} (hC : InvC σ A) (hR : InvR σ A) (hS : LStep E Z H k cells slots) : Wm E Z cells slots SH0 σ 1031 (lvK k) [] := by
  obtain ⟨v, σ1, σ2, A', e1, e2, f1, f2, f3⟩ := opB_run (looks_op (N := N) (by omega) hA hH ) hC hR
  refine r_aload_n (pc' := 1032) C dL_law_1031 rfl 3 rfl ?_
  refine r_cV1 (pc' := 1035) (v := .int v) (As := []) (st := []) C (X8_looks_ok e1) mlL_161 ceX8_looks cvX8_looks sh_0 rfl rfl rfl (Nat.le_of_ble_eq_true rfl) rfl (Nat.le_of_ble_eq_true rfl) dL_law_1032 rfl (hf := hf) (kk := ?_)
  refine r_aload_n (pc' := 1036) C dL_law_1035 rfl 2 rfl ?_
  refine r_cV1 (pc' := 1039) (v := .int v) (As := []) (st := [.int v]) C (X9_looks_ok e2) mlL_164 ceX9_looks cvX9_looks sh_149 rfl rfl rfl (Nat.le_of_ble_eq_true rfl) rfl (Nat.le_of_ble_eq_true rfl) dL_law_1036 rfl (hf := hf) (kk := ?_)
  refine r_icmp_eq (tgt := 1399) (pc' := 1042) C dL_law_1039 rfl rfl (fun _ => hS σ2 A' f1 f2 f3) (fun h => absurd rfl h)
set_option maxRecDepth 100000 in
set_option maxHeartbeats 4000000 in
theorem law_33 {E : Ev} {Z : Zx} {L : Nat} {xs : Nat → Int32} (C : LwC E Z) (hX : SX E Z L xs) (hL : L ≤ 320) {k : Nat} (hk : 5 * k + 5 ≤ L) {N : Nat} (hN : 5000 < N) {cells slots : Nat} (hf : cells ≤ lawM ∧ slots ≤ lawS) {H : Nat} (hH : H < 1000000) {A : Ab} (hA : OkA H A) {σ : Sg} (hC : InvC σ A) (hR : InvR σ A) (hS : LStep E Z H k cells slots) : Wm E Z cells slots SH0 σ 1044 (lvK k) [] := by
  obtain ⟨v, σ1, σ2, A', e1, e2, f1, f2, f3⟩ := opB_run (lifts_op (N := N) (by omega) hA (xs (nI (5 * k) + 1).toNatClampNeg)) hC hR
  refine r_aload_n (pc' := 1045) C dL_law_1044 rfl 3 rfl ?_
  refine r_aload_n (pc' := 1046) C dL_law_1045 rfl 4 rfl ?_
  refine r_iload (pc' := 1048) C dL_law_1046 rfl 0 rfl ?_
  refine r_iconst (pc' := 1049) (v := 1) C dL_law_1048 rfl rfl ?_
  refine r_iadd (pc' := 1050) C dL_law_1049 rfl ?_
  refine r_sld (pc' := 1051) C hX (sc_in hk hL (j := 1) (by decide) rfl) dL_law_1050 rfl ?_
  refine r_cV1 (pc' := 1054) (v := .int v) (As := [.int (xs (nI (5 * k) + 1).toNatClampNeg)]) (st := []) C (X8_lifts_ok e1) mlL_165 ceX8_lifts cvX8_lifts sh_0 rfl rfl rfl (Nat.le_of_ble_eq_true rfl) rfl (Nat.le_of_ble_eq_true rfl) dL_law_1051 rfl (hf := hf) (kk := ?_)
  refine r_aload_n (pc' := 1055) C dL_law_1054 rfl 2 rfl ?_
  refine r_aload_n (pc' := 1056) C dL_law_1055 rfl 4 rfl ?_
  refine r_iload (pc' := 1058) C dL_law_1056 rfl 0 rfl ?_
  refine r_iconst (pc' := 1059) (v := 1) C dL_law_1058 rfl rfl ?_
  refine r_iadd (pc' := 1060) C dL_law_1059 rfl ?_
  refine r_sld (pc' := 1061) C hX (sc_in hk hL (j := 1) (by decide) rfl) dL_law_1060 rfl ?_
  refine r_cV1 (pc' := 1064) (v := .int v) (As := [.int (xs (nI (5 * k) + 1).toNatClampNeg)]) (st := [.int v]) C (X9_lifts_ok e2) mlL_168 ceX9_lifts cvX9_lifts sh_149 rfl rfl rfl (Nat.le_of_ble_eq_true rfl) rfl (Nat.le_of_ble_eq_true rfl) dL_law_1061 rfl (hf := hf) (kk := ?_)
  refine r_icmp_eq (tgt := 1399) (pc' := 1067) C dL_law_1064 rfl rfl (fun _ => hS σ2 A' f1 f2 f3) (fun h => absurd rfl h)
set_option maxRecDepth 100000 in
set_option maxHeartbeats 4000000 in
theorem law_34 {E : Ev} {Z : Zx} {L : Nat} {xs : Nat → Int32} (C : LwC E Z) (hX : SX E Z L xs) (hL : L ≤ 320) {k : Nat} (hk : 5 * k + 5 ≤ L) {N : Nat} (hN : 5000 < N) {cells slots : Nat} (hf : cells ≤ lawM ∧ slots ≤ lawS) {H : Nat} (hH : H < 1000000) {A : Ab} (hA : OkA H A) {σ : Sg} (hC : InvC σ A) (hR : InvR σ A) (hS : LStep E Z H k cells slots) : Wm E Z cells slots SH0 σ 1069 (lvK k) [] := by
  obtain ⟨v, σ1, σ2, A', e1, e2, f1, f2, f3⟩ := opB_run (just_op (N := N) (by omega) hA (xs (nI (5 * k) + 1).toNatClampNeg)) hC hR
  refine r_aload_n (pc' := 1070) C dL_law_1069 rfl 3 rfl ?_
  refine r_aload_n (pc' := 1071) C dL_law_1070 rfl 4 rfl ?_
  refine r_iload (pc' := 1073) C dL_law_1071 rfl 0 rfl ?_
  refine r_iconst (pc' := 1074) (v := 1) C dL_law_1073 rfl rfl ?_
  refine r_iadd (pc' := 1075) C dL_law_1074 rfl ?_
  refine r_sld (pc' := 1076) C hX (sc_in hk hL (j := 1) (by decide) rfl) dL_law_1075 rfl ?_
  refine r_cV1 (pc' := 1079) (v := .int v) (As := [.int (xs (nI (5 * k) + 1).toNatClampNeg)]) (st := []) C (X8_just_ok e1) mlL_169 ceX8_just cvX8_just sh_0 rfl rfl rfl (Nat.le_of_ble_eq_true rfl) rfl (Nat.le_of_ble_eq_true rfl) dL_law_1076 rfl (hf := hf) (kk := ?_)
  refine r_aload_n (pc' := 1080) C dL_law_1079 rfl 2 rfl ?_
  refine r_aload_n (pc' := 1081) C dL_law_1080 rfl 4 rfl ?_
  refine r_iload (pc' := 1083) C dL_law_1081 rfl 0 rfl ?_
  refine r_iconst (pc' := 1084) (v := 1) C dL_law_1083 rfl rfl ?_
  refine r_iadd (pc' := 1085) C dL_law_1084 rfl ?_
  refine r_sld (pc' := 1086) C hX (sc_in hk hL (j := 1) (by decide) rfl) dL_law_1085 rfl ?_
  refine r_cV1 (pc' := 1089) (v := .int v) (As := [.int (xs (nI (5 * k) + 1).toNatClampNeg)]) (st := [.int v]) C (X9_just_ok e2) mlL_172 ceX9_just cvX9_just sh_149 rfl rfl rfl (Nat.le_of_ble_eq_true rfl) rfl (Nat.le_of_ble_eq_true rfl) dL_law_1086 rfl (hf := hf) (kk := ?_)
  refine r_icmp_eq (tgt := 1399) (pc' := 1092) C dL_law_1089 rfl rfl (fun _ => hS σ2 A' f1 f2 f3) (fun h => absurd rfl h)
set_option maxRecDepth 100000 in
set_option maxHeartbeats 4000000 in
theorem law_35 {E : Ev} {Z : Zx} {L : Nat} {xs : Nat → Int32} (C : LwC E Z) (hX : SX E Z L xs) (hL : L ≤ 320) {k : Nat} (hk : 5 * k + 5 ≤ L) {N : Nat} (hN : 5000 < N) {cells slots : Nat} (hf : cells ≤ lawM ∧ slots ≤ lawS) {H : Nat} (hH : H < 1000000) {A : Ab} (hA : OkA H A) {σ : Sg} (hC : InvC σ A) (hR : InvR σ A) (hS : LStep E Z H k cells slots) : Wm E Z cells slots SH0 σ 1094 (lvK k) [] := by
  obtain ⟨v, σ1, σ2, A', e1, e2, f1, f2, f3⟩ := opB_run (evens_op (N := N) (by omega) hA ) hC hR
  refine r_aload_n (pc' := 1095) C dL_law_1094 rfl 3 rfl ?_
  refine r_cV1 (pc' := 1098) (v := .int v) (As := []) (st := []) C (X8_evens_ok e1) mlL_173 ceX8_evens cvX8_evens sh_0 rfl rfl rfl (Nat.le_of_ble_eq_true rfl) rfl (Nat.le_of_ble_eq_true rfl) dL_law_1095 rfl (hf := hf) (kk := ?_)
  refine r_aload_n (pc' := 1099) C dL_law_1098 rfl 2 rfl ?_
  refine r_cV1 (pc' := 1102) (v := .int v) (As := []) (st := [.int v]) C (X9_evens_ok e2) mlL_176 ceX9_evens cvX9_evens sh_149 rfl rfl rfl (Nat.le_of_ble_eq_true rfl) rfl (Nat.le_of_ble_eq_true rfl) dL_law_1099 rfl (hf := hf) (kk := ?_)
  refine r_icmp_eq (tgt := 1399) (pc' := 1105) C dL_law_1102 rfl rfl (fun _ => hS σ2 A' f1 f2 f3) (fun h => absurd rfl h)
set_option maxRecDepth 100000 in
set_option maxHeartbeats 4000000 in
theorem law_36 {E : Ev} {Z : Zx} {L : Nat} {xs : Nat → Int32} (C : LwC E Z) (hX : SX E Z L xs) (hL : L ≤ 320) {k : Nat} (hk : 5 * k + 5 ≤ L) {N : Nat} (hN : 5000 < N) {cells slots : Nat} (hf : cells ≤ lawM ∧ slots ≤ lawS) {H : Nat} (hH : H < 1000000) {A : Ab} (hA : OkA H A) {σ : Sg} (hC : InvC σ A) (hR : InvR σ A) (hS : LStep E Z H k cells slots) : Wm E Z cells slots SH0 σ 1107 (lvK k) [] := by
  obtain ⟨v, σ1, σ2, A', e1, e2, f1, f2, f3⟩ := opB_run (order_op (N := N) (by omega) hA hH ) hC hR
  refine r_aload_n (pc' := 1108) C dL_law_1107 rfl 3 rfl ?_
  refine r_cV1 (pc' := 1111) (v := .int v) (As := []) (st := []) C (X8_order_ok e1) mlL_177 ceX8_order cvX8_order sh_0 rfl rfl rfl (Nat.le_of_ble_eq_true rfl) rfl (Nat.le_of_ble_eq_true rfl) dL_law_1108 rfl (hf := hf) (kk := ?_)
  refine r_aload_n (pc' := 1112) C dL_law_1111 rfl 2 rfl ?_
  refine r_cV1 (pc' := 1115) (v := .int v) (As := []) (st := [.int v]) C (X9_order_ok e2) mlL_180 ceX9_order cvX9_order sh_149 rfl rfl rfl (Nat.le_of_ble_eq_true rfl) rfl (Nat.le_of_ble_eq_true rfl) dL_law_1112 rfl (hf := hf) (kk := ?_)
  refine r_icmp_eq (tgt := 1399) (pc' := 1118) C dL_law_1115 rfl rfl (fun _ => hS σ2 A' f1 f2 f3) (fun h => absurd rfl h)
set_option maxRecDepth 100000 in
set_option maxHeartbeats 4000000 in
theorem law_37 {E : Ev} {Z : Zx} {L : Nat} {xs : Nat → Int32} (C : LwC E Z) (hX : SX E Z L xs) (hL : L ≤ 320) {k : Nat} (hk : 5 * k + 5 ≤ L) {N : Nat} (hN : 5000 < N) {cells slots : Nat} (hf : cells ≤ lawM ∧ slots ≤ lawS) {H : Nat} (hH : H < 1000000) {A : Ab} (hA : OkA H A) {σ : Sg} (hC : InvC σ A) (hR : InvR σ A) (hS : LStep E Z H k cells slots) : Wm E Z cells slots SH0 σ 1120 (lvK k) [] := by
  obtain ⟨v, σ1, σ2, A', e1, e2, f1, f2, f3⟩ := opB_run (storm_op (N := N) hN hA hH (xs (nI (5 * k) + 1).toNatClampNeg) (xs (nI (5 * k) + 2).toNatClampNeg)) hC hR
  refine r_aload_n (pc' := 1121) C dL_law_1120 rfl 3 rfl ?_
  refine r_aload_n (pc' := 1122) C dL_law_1121 rfl 4 rfl ?_
  refine r_iload (pc' := 1124) C dL_law_1122 rfl 0 rfl ?_
  refine r_iconst (pc' := 1125) (v := 1) C dL_law_1124 rfl rfl ?_
  refine r_iadd (pc' := 1126) C dL_law_1125 rfl ?_
  refine r_sld (pc' := 1127) C hX (sc_in hk hL (j := 1) (by decide) rfl) dL_law_1126 rfl ?_
  refine r_aload_n (pc' := 1128) C dL_law_1127 rfl 4 rfl ?_
  refine r_iload (pc' := 1130) C dL_law_1128 rfl 0 rfl ?_
  refine r_iconst (pc' := 1131) (v := 2) C dL_law_1130 rfl rfl ?_
  refine r_iadd (pc' := 1132) C dL_law_1131 rfl ?_
  refine r_sld (pc' := 1133) C hX (sc_in hk hL (j := 2) (by decide) rfl) dL_law_1132 rfl ?_
  refine r_cV1 (pc' := 1136) (v := .int v) (As := [.int (xs (nI (5 * k) + 1).toNatClampNeg), .int (xs (nI (5 * k) + 2).toNatClampNeg)]) (st := []) C (X8_storm_ok e1) mlL_181 ceX8_storm cvX8_storm sh_0 rfl rfl rfl (Nat.le_of_ble_eq_true rfl) rfl (Nat.le_of_ble_eq_true rfl) dL_law_1133 rfl (hf := hf) (kk := ?_)
  refine r_aload_n (pc' := 1137) C dL_law_1136 rfl 2 rfl ?_
  refine r_aload_n (pc' := 1138) C dL_law_1137 rfl 4 rfl ?_
  refine r_iload (pc' := 1140) C dL_law_1138 rfl 0 rfl ?_
  refine r_iconst (pc' := 1141) (v := 1) C dL_law_1140 rfl rfl ?_
  refine r_iadd (pc' := 1142) C dL_law_1141 rfl ?_
  refine r_sld (pc' := 1143) C hX (sc_in hk hL (j := 1) (by decide) rfl) dL_law_1142 rfl ?_
  refine r_aload_n (pc' := 1144) C dL_law_1143 rfl 4 rfl ?_
  refine r_iload (pc' := 1146) C dL_law_1144 rfl 0 rfl ?_
  refine r_iconst (pc' := 1147) (v := 2) C dL_law_1146 rfl rfl ?_
  refine r_iadd (pc' := 1148) C dL_law_1147 rfl ?_
  refine r_sld (pc' := 1149) C hX (sc_in hk hL (j := 2) (by decide) rfl) dL_law_1148 rfl ?_
  refine r_cV1 (pc' := 1152) (v := .int v) (As := [.int (xs (nI (5 * k) + 1).toNatClampNeg), .int (xs (nI (5 * k) + 2).toNatClampNeg)]) (st := [.int v]) C (X9_storm_ok e2) mlL_184 ceX9_storm cvX9_storm sh_149 rfl rfl rfl (Nat.le_of_ble_eq_true rfl) rfl (Nat.le_of_ble_eq_true rfl) dL_law_1149 rfl (hf := hf) (kk := ?_)
  refine r_icmp_eq (tgt := 1399) (pc' := 1155) C dL_law_1152 rfl rfl (fun _ => hS σ2 A' f1 f2 f3) (fun h => absurd rfl h)
set_option maxRecDepth 100000 in
set_option maxHeartbeats 4000000 in
theorem law_38 {E : Ev} {Z : Zx} {L : Nat} {xs : Nat → Int32} (C : LwC E Z) (hX : SX E Z L xs) (hL : L ≤ 320) {k : Nat} (hk : 5 * k + 5 ≤ L) {N : Nat} (hN : 5000 < N) {cells slots : Nat} (hf : cells ≤ lawM ∧ slots ≤ lawS) {H : Nat} (hH : H < 1000000) {A : Ab} (hA : OkA H A) {σ : Sg} (hC : InvC σ A) (hR : InvR σ A) (hS : LStep E Z H k cells slots) : Wm E Z cells slots SH0 σ 1157 (lvK k) [] := by
  obtain ⟨v, σ1, σ2, A', e1, e2, f1, f2, f3⟩ := opB_run (run_op (N := N) (by omega) hA (xs (nI (5 * k) + 1).toNatClampNeg) (xs (nI (5 * k) + 2).toNatClampNeg)) hC hR
  refine r_aload_n (pc' := 1158) C dL_law_1157 rfl 3 rfl ?_
  refine r_aload_n (pc' := 1159) C dL_law_1158 rfl 4 rfl ?_
  refine r_iload (pc' := 1161) C dL_law_1159 rfl 0 rfl ?_
  refine r_iconst (pc' := 1162) (v := 1) C dL_law_1161 rfl rfl ?_
  refine r_iadd (pc' := 1163) C dL_law_1162 rfl ?_
  refine r_sld (pc' := 1164) C hX (sc_in hk hL (j := 1) (by decide) rfl) dL_law_1163 rfl ?_
  refine r_aload_n (pc' := 1165) C dL_law_1164 rfl 4 rfl ?_
  refine r_iload (pc' := 1167) C dL_law_1165 rfl 0 rfl ?_
  refine r_iconst (pc' := 1168) (v := 2) C dL_law_1167 rfl rfl ?_
  refine r_iadd (pc' := 1169) C dL_law_1168 rfl ?_
  refine r_sld (pc' := 1170) C hX (sc_in hk hL (j := 2) (by decide) rfl) dL_law_1169 rfl ?_
  refine r_cV1 (pc' := 1173) (v := .int v) (As := [.int (xs (nI (5 * k) + 1).toNatClampNeg), .int (xs (nI (5 * k) + 2).toNatClampNeg)]) (st := []) C (X8_run_ok e1) mlL_185 ceX8_run cvX8_run sh_0 rfl rfl rfl (Nat.le_of_ble_eq_true rfl) rfl (Nat.le_of_ble_eq_true rfl) dL_law_1170 rfl (hf := hf) (kk := ?_)
  refine r_aload_n (pc' := 1174) C dL_law_1173 rfl 2 rfl ?_
  refine r_aload_n (pc' := 1175) C dL_law_1174 rfl 4 rfl ?_
  refine r_iload (pc' := 1177) C dL_law_1175 rfl 0 rfl ?_
  refine r_iconst (pc' := 1178) (v := 1) C dL_law_1177 rfl rfl ?_
  refine r_iadd (pc' := 1179) C dL_law_1178 rfl ?_
  refine r_sld (pc' := 1180) C hX (sc_in hk hL (j := 1) (by decide) rfl) dL_law_1179 rfl ?_
  refine r_aload_n (pc' := 1181) C dL_law_1180 rfl 4 rfl ?_
  refine r_iload (pc' := 1183) C dL_law_1181 rfl 0 rfl ?_
  refine r_iconst (pc' := 1184) (v := 2) C dL_law_1183 rfl rfl ?_
  refine r_iadd (pc' := 1185) C dL_law_1184 rfl ?_
  refine r_sld (pc' := 1186) C hX (sc_in hk hL (j := 2) (by decide) rfl) dL_law_1185 rfl ?_
  refine r_cV1 (pc' := 1189) (v := .int v) (As := [.int (xs (nI (5 * k) + 1).toNatClampNeg), .int (xs (nI (5 * k) + 2).toNatClampNeg)]) (st := [.int v]) C (X9_run_ok e2) mlL_188 ceX9_run cvX9_run sh_149 rfl rfl rfl (Nat.le_of_ble_eq_true rfl) rfl (Nat.le_of_ble_eq_true rfl) dL_law_1186 rfl (hf := hf) (kk := ?_)
  refine r_icmp_eq (tgt := 1399) (pc' := 1192) C dL_law_1189 rfl rfl (fun _ => hS σ2 A' f1 f2 f3) (fun h => absurd rfl h)
set_option maxRecDepth 100000 in
set_option maxHeartbeats 4000000 in
theorem law_39 {E : Ev} {Z : Zx} {L : Nat} {xs : Nat → Int32} (C : LwC E Z) (hX : SX E Z L xs) (hL : L ≤ 320) {k : Nat} (hk : 5 * k + 5 ≤ L) {N : Nat} (hN : 5000 < N) {cells slots : Nat} (hf : cells ≤ lawM ∧ slots ≤ lawS) {H : Nat} (hH : H < 1000000) {A : Ab} (hA : OkA H A) {σ : Sg} (hC : InvC σ A) (hR : InvR σ A) (hS : LStep E Z H k cells slots) : Wm E Z cells slots SH0 σ 1194 (lvK k) [] := by
  obtain ⟨v, σ1, σ2, A', e1, e2, f1, f2, f3⟩ := opB_run (law_op (N := N) (by omega) hA hH ) hC hR
  refine r_aload_n (pc' := 1195) C dL_law_1194 rfl 3 rfl ?_
  refine r_cV1 (pc' := 1198) (v := .int v) (As := []) (st := []) C (X8_law_ok e1) mlL_189 ceX8_law cvX8_law sh_0 rfl rfl rfl (Nat.le_of_ble_eq_true rfl) rfl (Nat.le_of_ble_eq_true rfl) dL_law_1195 rfl (hf := hf) (kk := ?_)
  refine r_aload_n (pc' := 1199) C dL_law_1198 rfl 2 rfl ?_
  refine r_cV1 (pc' := 1202) (v := .int v) (As := []) (st := [.int v]) C (X9_law_ok e2) mlL_192 ceX9_law cvX9_law sh_149 rfl rfl rfl (Nat.le_of_ble_eq_true rfl) rfl (Nat.le_of_ble_eq_true rfl) dL_law_1199 rfl (hf := hf) (kk := ?_)
  refine r_icmp_eq (tgt := 1399) (pc' := 1205) C dL_law_1202 rfl rfl (fun _ => hS σ2 A' f1 f2 f3) (fun h => absurd rfl h)
set_option maxRecDepth 100000 in
set_option maxHeartbeats 4000000 in
theorem law_40 {E : Ev} {Z : Zx} {L : Nat} {xs : Nat → Int32} (C : LwC E Z) (hX : SX E Z L xs) (hL : L ≤ 320) {k : Nat} (hk : 5 * k + 5 ≤ L) {N : Nat} (hN : 5000 < N) {cells slots : Nat} (hf : cells ≤ lawM ∧ slots ≤ lawS) {H : Nat} (hH : H < 1000000) {A : Ab} (hA : OkA H A) {σ : Sg} (hC : InvC σ A) (hR : InvR σ A) (hS : LStep E Z H k cells slots) : Wm E Z cells slots SH0 σ 1207 (lvK k) [] := by
  obtain ⟨v, σ1, σ2, A', e1, e2, f1, f2, f3⟩ := opB_run (rests_op (N := N) (by omega) hA (xs (nI (5 * k) + 1).toNatClampNeg)) hC hR
  refine r_aload_n (pc' := 1208) C dL_law_1207 rfl 3 rfl ?_
  refine r_aload_n (pc' := 1209) C dL_law_1208 rfl 4 rfl ?_
  refine r_iload (pc' := 1211) C dL_law_1209 rfl 0 rfl ?_
  refine r_iconst (pc' := 1212) (v := 1) C dL_law_1211 rfl rfl ?_
  refine r_iadd (pc' := 1213) C dL_law_1212 rfl ?_
  refine r_sld (pc' := 1214) C hX (sc_in hk hL (j := 1) (by decide) rfl) dL_law_1213 rfl ?_
  refine r_cV1 (pc' := 1217) (v := .int v) (As := [.int (xs (nI (5 * k) + 1).toNatClampNeg)]) (st := []) C (X8_rests_ok e1) mlL_193 ceX8_rests cvX8_rests sh_0 rfl rfl rfl (Nat.le_of_ble_eq_true rfl) rfl (Nat.le_of_ble_eq_true rfl) dL_law_1214 rfl (hf := hf) (kk := ?_)
  refine r_aload_n (pc' := 1218) C dL_law_1217 rfl 2 rfl ?_
  refine r_aload_n (pc' := 1219) C dL_law_1218 rfl 4 rfl ?_
  refine r_iload (pc' := 1221) C dL_law_1219 rfl 0 rfl ?_
  refine r_iconst (pc' := 1222) (v := 1) C dL_law_1221 rfl rfl ?_
  refine r_iadd (pc' := 1223) C dL_law_1222 rfl ?_
  refine r_sld (pc' := 1224) C hX (sc_in hk hL (j := 1) (by decide) rfl) dL_law_1223 rfl ?_
  refine r_cV1 (pc' := 1227) (v := .int v) (As := [.int (xs (nI (5 * k) + 1).toNatClampNeg)]) (st := [.int v]) C (X9_rests_ok e2) mlL_196 ceX9_rests cvX9_rests sh_149 rfl rfl rfl (Nat.le_of_ble_eq_true rfl) rfl (Nat.le_of_ble_eq_true rfl) dL_law_1224 rfl (hf := hf) (kk := ?_)
  refine r_icmp_eq (tgt := 1399) (pc' := 1230) C dL_law_1227 rfl rfl (fun _ => hS σ2 A' f1 f2 f3) (fun h => absurd rfl h)
set_option maxRecDepth 100000 in
set_option maxHeartbeats 4000000 in
theorem law_41 {E : Ev} {Z : Zx} {L : Nat} {xs : Nat → Int32} (C : LwC E Z) (hX : SX E Z L xs) (hL : L ≤ 320) {k : Nat} (hk : 5 * k + 5 ≤ L) {N : Nat} (hN : 5000 < N) {cells slots : Nat} (hf : cells ≤ lawM ∧ slots ≤ lawS) {H : Nat} (hH : H < 1000000) {A : Ab} (hA : OkA H A) {σ : Sg} (hC : InvC σ A) (hR : InvR σ A) (hS : LStep E Z H k cells slots) : Wm E Z cells slots SH0 σ 1232 (lvK k) [] := by
  obtain ⟨v, σ1, σ2, A', e1, e2, f1, f2, f3⟩ := opB_run (years_op (N := N) (by omega) hA hH (xs (nI (5 * k) + 1).toNatClampNeg) (xs (nI (5 * k) + 2).toNatClampNeg)) hC hR
  refine r_aload_n (pc' := 1233) C dL_law_1232 rfl 3 rfl ?_
  refine r_aload_n (pc' := 1234) C dL_law_1233 rfl 4 rfl ?_
  refine r_iload (pc' := 1236) C dL_law_1234 rfl 0 rfl ?_
  refine r_iconst (pc' := 1237) (v := 1) C dL_law_1236 rfl rfl ?_
  refine r_iadd (pc' := 1238) C dL_law_1237 rfl ?_
  refine r_sld (pc' := 1239) C hX (sc_in hk hL (j := 1) (by decide) rfl) dL_law_1238 rfl ?_
  refine r_aload_n (pc' := 1240) C dL_law_1239 rfl 4 rfl ?_
  refine r_iload (pc' := 1242) C dL_law_1240 rfl 0 rfl ?_
  refine r_iconst (pc' := 1243) (v := 2) C dL_law_1242 rfl rfl ?_
  refine r_iadd (pc' := 1244) C dL_law_1243 rfl ?_
  refine r_sld (pc' := 1245) C hX (sc_in hk hL (j := 2) (by decide) rfl) dL_law_1244 rfl ?_
  refine r_cV1 (pc' := 1248) (v := .int v) (As := [.int (xs (nI (5 * k) + 1).toNatClampNeg), .int (xs (nI (5 * k) + 2).toNatClampNeg)]) (st := []) C (X8_years_ok e1) mlL_197 ceX8_years cvX8_years sh_0 rfl rfl rfl (Nat.le_of_ble_eq_true rfl) rfl (Nat.le_of_ble_eq_true rfl) dL_law_1245 rfl (hf := hf) (kk := ?_)
  refine r_aload_n (pc' := 1249) C dL_law_1248 rfl 2 rfl ?_
  refine r_aload_n (pc' := 1250) C dL_law_1249 rfl 4 rfl ?_
  refine r_iload (pc' := 1252) C dL_law_1250 rfl 0 rfl ?_
  refine r_iconst (pc' := 1253) (v := 1) C dL_law_1252 rfl rfl ?_
  refine r_iadd (pc' := 1254) C dL_law_1253 rfl ?_
  refine r_sld (pc' := 1255) C hX (sc_in hk hL (j := 1) (by decide) rfl) dL_law_1254 rfl ?_
  refine r_aload_n (pc' := 1256) C dL_law_1255 rfl 4 rfl ?_
  refine r_iload (pc' := 1258) C dL_law_1256 rfl 0 rfl ?_
  refine r_iconst (pc' := 1259) (v := 2) C dL_law_1258 rfl rfl ?_
  refine r_iadd (pc' := 1260) C dL_law_1259 rfl ?_
  refine r_sld (pc' := 1261) C hX (sc_in hk hL (j := 2) (by decide) rfl) dL_law_1260 rfl ?_
  refine r_cV1 (pc' := 1264) (v := .int v) (As := [.int (xs (nI (5 * k) + 1).toNatClampNeg), .int (xs (nI (5 * k) + 2).toNatClampNeg)]) (st := [.int v]) C (X9_years_ok e2) mlL_200 ceX9_years cvX9_years sh_149 rfl rfl rfl (Nat.le_of_ble_eq_true rfl) rfl (Nat.le_of_ble_eq_true rfl) dL_law_1261 rfl (hf := hf) (kk := ?_)
  refine r_icmp_eq (tgt := 1399) (pc' := 1267) C dL_law_1264 rfl rfl (fun _ => hS σ2 A' f1 f2 f3) (fun h => absurd rfl h)
set_option maxRecDepth 100000 in
set_option maxHeartbeats 4000000 in
theorem law_42 {E : Ev} {Z : Zx} {L : Nat} {xs : Nat → Int32} (C : LwC E Z) (hX : SX E Z L xs) (hL : L ≤ 320) {k : Nat} (hk : 5 * k + 5 ≤ L) {N : Nat} (hN : 5000 < N) {cells slots : Nat} (hf : cells ≤ lawM ∧ slots ≤ lawS) {H : Nat} (hH : H < 1000000) {A : Ab} (hA : OkA H A) {σ : Sg} (hC : InvC σ A) (hR : InvR σ A) (hS : LStep E Z H k cells slots) : Wm E Z cells slots SH0 σ 1269 (lvK k) [] := by
  obtain ⟨v, σ1, σ2, A', e1, e2, f1, f2, f3⟩ := opB_run (keep_op (N := N) (by omega) hA (xs (nI (5 * k) + 1).toNatClampNeg)) hC hR
  refine r_aload_n (pc' := 1270) C dL_law_1269 rfl 3 rfl ?_
  refine r_aload_n (pc' := 1271) C dL_law_1270 rfl 4 rfl ?_
  refine r_iload (pc' := 1273) C dL_law_1271 rfl 0 rfl ?_
  refine r_iconst (pc' := 1274) (v := 1) C dL_law_1273 rfl rfl ?_
  refine r_iadd (pc' := 1275) C dL_law_1274 rfl ?_
  refine r_sld (pc' := 1276) C hX (sc_in hk hL (j := 1) (by decide) rfl) dL_law_1275 rfl ?_
  refine r_cV1 (pc' := 1279) (v := .int v) (As := [.int (xs (nI (5 * k) + 1).toNatClampNeg)]) (st := []) C (X8_keep_ok e1) mlL_201 ceX8_keep cvX8_keep sh_0 rfl rfl rfl (Nat.le_of_ble_eq_true rfl) rfl (Nat.le_of_ble_eq_true rfl) dL_law_1276 rfl (hf := hf) (kk := ?_)
  refine r_aload_n (pc' := 1280) C dL_law_1279 rfl 2 rfl ?_
  refine r_aload_n (pc' := 1281) C dL_law_1280 rfl 4 rfl ?_
  refine r_iload (pc' := 1283) C dL_law_1281 rfl 0 rfl ?_
  refine r_iconst (pc' := 1284) (v := 1) C dL_law_1283 rfl rfl ?_
  refine r_iadd (pc' := 1285) C dL_law_1284 rfl ?_
  refine r_sld (pc' := 1286) C hX (sc_in hk hL (j := 1) (by decide) rfl) dL_law_1285 rfl ?_
  refine r_cV1 (pc' := 1289) (v := .int v) (As := [.int (xs (nI (5 * k) + 1).toNatClampNeg)]) (st := [.int v]) C (X9_keep_ok e2) mlL_204 ceX9_keep cvX9_keep sh_149 rfl rfl rfl (Nat.le_of_ble_eq_true rfl) rfl (Nat.le_of_ble_eq_true rfl) dL_law_1286 rfl (hf := hf) (kk := ?_)
  refine r_icmp_eq (tgt := 1399) (pc' := 1292) C dL_law_1289 rfl rfl (fun _ => hS σ2 A' f1 f2 f3) (fun h => absurd rfl h)
set_option maxRecDepth 100000 in
set_option maxHeartbeats 4000000 in
theorem law_43 {E : Ev} {Z : Zx} {L : Nat} {xs : Nat → Int32} (C : LwC E Z) (hX : SX E Z L xs) (hL : L ≤ 320) {k : Nat} (hk : 5 * k + 5 ≤ L) {N : Nat} (hN : 5000 < N) {cells slots : Nat} (hf : cells ≤ lawM ∧ slots ≤ lawS) {H : Nat} (hH : H < 1000000) {A : Ab} (hA : OkA H A) {σ : Sg} (hC : InvC σ A) (hR : InvR σ A) (hS : LStep E Z H k cells slots) : Wm E Z cells slots SH0 σ 1294 (lvK k) [] := by
  obtain ⟨v, σ1, σ2, A', e1, e2, f1, f2, f3⟩ := opB_run (again_op (N := N) (by omega) hA (xs (nI (5 * k) + 1).toNatClampNeg)) hC hR
  refine r_aload_n (pc' := 1295) C dL_law_1294 rfl 3 rfl ?_
  refine r_aload_n (pc' := 1296) C dL_law_1295 rfl 4 rfl ?_
  refine r_iload (pc' := 1298) C dL_law_1296 rfl 0 rfl ?_
  refine r_iconst (pc' := 1299) (v := 1) C dL_law_1298 rfl rfl ?_
  refine r_iadd (pc' := 1300) C dL_law_1299 rfl ?_
  refine r_sld (pc' := 1301) C hX (sc_in hk hL (j := 1) (by decide) rfl) dL_law_1300 rfl ?_
  refine r_cV1 (pc' := 1304) (v := .int v) (As := [.int (xs (nI (5 * k) + 1).toNatClampNeg)]) (st := []) C (X8_again_ok e1) mlL_205 ceX8_again cvX8_again sh_0 rfl rfl rfl (Nat.le_of_ble_eq_true rfl) rfl (Nat.le_of_ble_eq_true rfl) dL_law_1301 rfl (hf := hf) (kk := ?_)
  refine r_aload_n (pc' := 1305) C dL_law_1304 rfl 2 rfl ?_
  refine r_aload_n (pc' := 1306) C dL_law_1305 rfl 4 rfl ?_
  refine r_iload (pc' := 1308) C dL_law_1306 rfl 0 rfl ?_
  refine r_iconst (pc' := 1309) (v := 1) C dL_law_1308 rfl rfl ?_
  refine r_iadd (pc' := 1310) C dL_law_1309 rfl ?_
  refine r_sld (pc' := 1311) C hX (sc_in hk hL (j := 1) (by decide) rfl) dL_law_1310 rfl ?_
  refine r_cV1 (pc' := 1314) (v := .int v) (As := [.int (xs (nI (5 * k) + 1).toNatClampNeg)]) (st := [.int v]) C (X9_again_ok e2) mlL_208 ceX9_again cvX9_again sh_149 rfl rfl rfl (Nat.le_of_ble_eq_true rfl) rfl (Nat.le_of_ble_eq_true rfl) dL_law_1311 rfl (hf := hf) (kk := ?_)
  refine r_icmp_eq (tgt := 1399) (pc' := 1317) C dL_law_1314 rfl rfl (fun _ => hS σ2 A' f1 f2 f3) (fun h => absurd rfl h)
set_option maxRecDepth 100000 in
set_option maxHeartbeats 4000000 in
theorem law_44 {E : Ev} {Z : Zx} {L : Nat} {xs : Nat → Int32} (C : LwC E Z) (hX : SX E Z L xs) (hL : L ≤ 320) {k : Nat} (hk : 5 * k + 5 ≤ L) {N : Nat} (hN : 5000 < N) {cells slots : Nat} (hf : cells ≤ lawM ∧ slots ≤ lawS) {H : Nat} (hH : H < 1000000) {A : Ab} (hA : OkA H A) {σ : Sg} (hC : InvC σ A) (hR : InvR σ A) (hS : LStep E Z H k cells slots) : Wm E Z cells slots SH0 σ 1319 (lvK k) [] := by
  obtain ⟨v, σ1, σ2, A', e1, e2, f1, f2, f3⟩ := opB_run (count_op (N := N) (by omega) hA hH (xs (nI (5 * k) + 1).toNatClampNeg)) hC hR
  obtain ⟨r8, e6, e3⟩ := bd e1
  have e4 : r8 = v := congrArg Prod.fst (Option.some.inj e3)
  have e5 : σ = σ1 := congrArg Prod.snd (Option.some.inj e3)
  rw [e4] at e6
  subst e5
  clear e1
  have e1 := e6
  refine r_aload_n (pc' := 1320) C dL_law_1319 rfl 3 rfl ?_
  refine r_aload_n (pc' := 1321) C dL_law_1320 rfl 4 rfl ?_
  refine r_iload (pc' := 1323) C dL_law_1321 rfl 0 rfl ?_
  refine r_iconst (pc' := 1324) (v := 1) C dL_law_1323 rfl rfl ?_
  refine r_iadd (pc' := 1325) C dL_law_1324 rfl ?_
  refine r_sld (pc' := 1326) C hX (sc_in hk hL (j := 1) (by decide) rfl) dL_law_1325 rfl ?_
  refine r_cV1 (pc' := 1329) (v := .int v) (As := [.int (xs (nI (5 * k) + 1).toNatClampNeg)]) (st := []) C (X8_count_ok e1) mlL_209 ceX8_count cvX8_count sh_0 rfl rfl rfl (Nat.le_of_ble_eq_true rfl) rfl (Nat.le_of_ble_eq_true rfl) dL_law_1326 rfl (hf := hf) (kk := ?_)
  refine r_aload_n (pc' := 1330) C dL_law_1329 rfl 2 rfl ?_
  refine r_aload_n (pc' := 1331) C dL_law_1330 rfl 4 rfl ?_
  refine r_iload (pc' := 1333) C dL_law_1331 rfl 0 rfl ?_
  refine r_iconst (pc' := 1334) (v := 1) C dL_law_1333 rfl rfl ?_
  refine r_iadd (pc' := 1335) C dL_law_1334 rfl ?_
  refine r_sld (pc' := 1336) C hX (sc_in hk hL (j := 1) (by decide) rfl) dL_law_1335 rfl ?_
  refine r_cV1 (pc' := 1339) (v := .int v) (As := [.int (xs (nI (5 * k) + 1).toNatClampNeg)]) (st := [.int v]) C (X9_count_ok e2) mlL_212 ceX9_count cvX9_count sh_149 rfl rfl rfl (Nat.le_of_ble_eq_true rfl) rfl (Nat.le_of_ble_eq_true rfl) dL_law_1336 rfl (hf := hf) (kk := ?_)
  refine r_icmp_eq (tgt := 1399) (pc' := 1342) C dL_law_1339 rfl rfl (fun _ => hS σ2 A' f1 f2 f3) (fun h => absurd rfl h)
