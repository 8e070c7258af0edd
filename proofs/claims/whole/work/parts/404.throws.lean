/-! ===== the two calls that may throw ===== -/
def OpRu (m : Sg → Option (Int32 × Sg)) (A : Ab) (v t : Int32) : Prop := ∀ σ, InvR σ A → ∃ σ', m σ = some (v, σ') ∧ InvR σ' A ∧ gi σ' 149 0 = t ∧ (∀ B, InvC σ B → InvC σ' B) ∧ gl σ' 180 = gl σ 180
theorem OpRu.fr {m : Sg → Option (Int32 × Sg)} {A : Ab} {v : Int32} (h : ∀ σ, InvR σ A → ∃ σ', m σ = some (v, σ') ∧ Fr [159, 160] (wi σ 149 0 0) σ') : OpRu m A v 0 := by
  intro σ hσ
  obtain ⟨σ', a, b⟩ := h σ hσ
  have f : Fr [3000, 159, 160] σ σ' := ((thrown_f σ 0).mono (by decide)).trans (b.mono (by decide))
  exact ⟨σ', a, hσ.fr f (by decide), by rw [b.g (k := 149) (j := 0) (by decide), giw, if_pos ⟨rfl, rfl⟩], fun B hB => hB.fr f (by decide +kernel), funext fun j => (f 180 j (by simp [pl])).2⟩
theorem thing_yes2 {N : Nat} (hN : 555 < N) {H : Nat} {A : Ab} (hA : OkA H A) (hH : H < 1000000) {k q : Nat} (hk : k < A.1.1) (hq : q ≤ 7) : ∃ v, OpC (X8_thing N (nI k) (nI q)) A v A ∧ OpRu (X9_thing N (nI k) (nI q)) A v 0 := by
  have h8 := hA.1.1.2.2.2.2
  have hk8 : k < 8 := by omega
  obtain ⟨h, hh, e36⟩ := hA.1.h36
  have hin : ∀ σ, X9_in N (nI q).toInt64 0 7 σ = some 1 := fun σ => in11 N (hi := 7) (h64 := 7) rfl (nI_pos (by omega)) (nI_le (b := 7) hq (by decide)) σ
  have key : ∀ v, (∀ σ, InvC σ A → X8_thing N (nI k) (nI q) σ = some (v, σ)) → (∀ σ, InvR σ A → X9_thing N (nI k) (nI q) σ = some (v, wi σ 149 0 0)) → ∃ v, OpC (X8_thing N (nI k) (nI q)) A v A ∧ OpRu (X9_thing N (nI k) (nI q)) A v 0 := fun v h1 h2 => ⟨v, OpC.id h1, OpRu.fr (fun σ hσ => ⟨_, h2 σ hσ, Fr.refl _ _⟩)⟩
  have p8 : ∀ σ, InvC σ A → X0_isThing N (nI k) σ = some 1 := fun σ hσ => isThing_t N hσ.1.n.1 h8 hk
  have p9 : ∀ σ, InvR σ A → X9_isThing N (nI k) (wi σ 149 0 0) = some 1 := fun σ hσ => isThingR_t N (hσ.1.fr (thrown_f σ 0) (by decide)).1 h8 hk
  have r9 : ∀ σ, InvR σ A → rR (wi σ 149 0 0) 153 = A.2.1 := fun σ hσ => (rR_congr ((thrown_f σ 0).r (by simp [pl]))).trans hσ.2.1
  have v9 : ∀ σ, InvR σ A → ∀ j, j < 37 → gi (wi σ 149 0 0) 153 j = A.2.1 j := fun σ hσ j hj => by rw [← r9 σ hσ, rR_j hj]
  have ib : ∀ m, 8 ≤ m → m < 1000 → inb (nI k) m = true := fun m h1 h2 => inbI (by omega) (by omega)
  have i37 : ∀ c, c + k < 37 → inb (nI (c + k)) 37 = true := fun c hc => inbI hc (by omega)
  have cl : (nI k).toNatClampNeg = k := clI (by omega)
  have hq' : q = 0 ∨ q = 1 ∨ q = 2 ∨ q = 3 ∨ q = 4 ∨ q = 5 ∨ q = 6 ∨ q = 7 := by omega
  rcases hq' with rfl | rfl | rfl | rfl | rfl | rfl | rfl | rfl
  · refine key (A.1.2.1 k) (fun σ hσ => ?_) (fun σ hσ => ?_)
    · obtain ⟨k2, m1, m2, m3, m4⟩ := hσ.1.rule
      unfold X8_thing
      rw [p8 σ hσ, Option.bind_some, if_neg oneF]
      show (if inb (nI k) 8 = true then some (gi σ 6 (nI k).toNatClampNeg, σ) else none) = _
      rw [ib 8 (by omega) (by omega), cl, if_pos rfl, m4.2.2.1 k hk]
    · unfold X9_thing
      simp only [bnS]
      rw [p9 σ hσ, Option.bind_some, if_neg oneF, hin, Option.bind_some, if_neg oneF]
      show (if inb (nI k) 8 = true then some (gi (wi σ 149 0 0) 151 (nI k).toNatClampNeg, wi σ 149 0 0) else none) = _
      rw [ib 8 (by omega) (by omega), cl, if_pos rfl, (hσ.1.fr (thrown_f σ 0) (by decide)).2.2.1 k hk]
  · refine key (A.2.1 k) (fun σ hσ => ?_) (fun σ hσ => ?_)
    · unfold X8_thing
      rw [p8 σ hσ, Option.bind_some, if_neg oneF]
      show (if inb (nI k) 8 = true then some (gi σ 20 (nI k).toNatClampNeg, σ) else none) = _
      rw [ib 8 (by omega) (by omega), cl, if_pos rfl, ← hσ.2.1, rC_s hk8]
    · unfold X9_thing
      simp only [bnS]
      rw [p9 σ hσ, Option.bind_some, if_neg oneF, hin, Option.bind_some, if_neg oneF]
      show (if inb (nI k) 37 = true then some (gi (wi σ 149 0 0) 153 (nI k).toNatClampNeg, wi σ 149 0 0) else none) = _
      rw [ib 37 (by omega) (by omega), cl, if_pos rfl, v9 σ hσ k (by omega)]
  · refine key (A.2.1 (8 + k)) (fun σ hσ => ?_) (fun σ hσ => ?_)
    · unfold X8_thing
      rw [p8 σ hσ, Option.bind_some, if_neg oneF]
      show (if inb (nI k) 8 = true then some (gi σ 21 (nI k).toNatClampNeg, σ) else none) = _
      rw [ib 8 (by omega) (by omega), cl, if_pos rfl, ← hσ.2.1, rC_h hk8]
    · unfold X9_thing
      simp only [bnS]
      rw [p9 σ hσ, Option.bind_some, if_neg oneF, hin, Option.bind_some, if_neg oneF]
      show (if inb (8 + nI k) 37 = true then some (gi (wi σ 149 0 0) 153 (8 + nI k).toNatClampNeg, wi σ 149 0 0) else none) = _
      rw [show (8 : Int32) + nI k = nI (8 + k) from nI_add 8 k, i37 8 (by omega), clI (by omega), if_pos rfl, v9 σ hσ _ (by omega)]
  · refine key (A.2.1 (16 + k)) (fun σ hσ => ?_) (fun σ hσ => ?_)
    · unfold X8_thing
      rw [p8 σ hσ, Option.bind_some, if_neg oneF]
      show (if inb (nI k) 8 = true then some (gi σ 22 (nI k).toNatClampNeg, σ) else none) = _
      rw [ib 8 (by omega) (by omega), cl, if_pos rfl, ← hσ.2.1, rC_d hk8]
    · unfold X9_thing
      simp only [bnS]
      rw [p9 σ hσ, Option.bind_some, if_neg oneF, hin, Option.bind_some, if_neg oneF]
      show (if inb (16 + nI k) 37 = true then some (gi (wi σ 149 0 0) 153 (16 + nI k).toNatClampNeg, wi σ 149 0 0) else none) = _
      rw [show (16 : Int32) + nI k = nI (16 + k) from nI_add 16 k, i37 16 (by omega), clI (by omega), if_pos rfl, v9 σ hσ _ (by omega)]
  · refine key (if hb (A.2.1 32) k = true then 1 else 0) (fun σ hσ => ?_) (fun σ hσ => ?_)
    · unfold X8_thing
      rw [p8 σ hσ, Option.bind_some, if_neg oneF]
      show ((X5_isGone N 19 (nI k) σ).bind fun r13 => (if r13 = 0 then (some (0, σ)) else (some (1, σ)))) = _
      rw [isGone_b N 19 (by omega), Option.bind_some, show gi σ 19 4 = A.2.1 32 from congrFun hσ.2.1 32]
      cases hb (A.2.1 32) k <;> rfl
    · unfold X9_thing
      simp only [bnS]
      rw [p9 σ hσ, Option.bind_some, if_neg oneF, hin, Option.bind_some, if_neg oneF]
      show (if inb 32 37 = true then (X9_has N (gi (wi σ 149 0 0) 153 (32 : Int32).toNatClampNeg) (nI k) (wi σ 149 0 0)).bind fun r21 => ((X9_flag N r21 (wi σ 149 0 0)).bind fun r23 => (some (r23, wi σ 149 0 0))) else none) = _
      rw [if_pos i37_32, cl32, v9 σ hσ 32 (by omega), has_b N _ (by omega), Option.bind_some]
      cases hb (A.2.1 32) k <;> rfl
  · refine ⟨needS A.1 A.2.1 k, OpC.same (fun σ hσ => ?_), OpRu.fr (fun σ hσ => ?_)⟩
    · obtain ⟨k2, m1, m2, m3, m4⟩ := hσ.1.rule
      obtain ⟨σ1, e1, e2, e3⟩ := weigh_b (N := N) (by omega) (Or.inl rfl : (19 : Nat) = 19 ∨ (19 : Nat) = 24) m4 (show h < 2147483648 by omega) (by rw [hσ.2.1]; exact e36)
      rw [hσ.2.1] at e2
      refine ⟨σ1, [15, 18, 9, 13], ?_, e3, by decide +kernel, by decide⟩
      unfold X8_thing
      rw [p8 σ hσ, Option.bind_some, if_neg oneF]
      show (if isRule ((gi σ 5 2).toNatClampNeg) = true then (X0_weigh N 19 ((gi σ 5 2).toNatClampNeg) σ).bind fun r18 => (if inb (nI k) 8 = true then some (gi r18 15 (nI k).toNatClampNeg, r18) else none) else none) = _
      rw [m2, m3, if_pos rfl, e1, Option.bind_some, ib 8 (by omega) (by omega), cl, if_pos rfl, e2 k hk]
    · have c1 := hσ.1.fr (thrown_f σ 0) (by decide)
      obtain ⟨σ1, e1, e2⟩ := need_b (N := N) (by omega) (Or.inl rfl : (153 : Nat) = 153 ∨ (153 : Nat) = 154) c1 (show h < 2147483648 by omega) (by rw [r9 σ hσ]; exact e36) hk
      rw [r9 σ hσ] at e1
      refine ⟨σ1, ?_, e2⟩
      unfold X9_thing
      simp only [bnS]
      rw [p9 σ hσ, Option.bind_some, if_neg oneF, hin, Option.bind_some, if_neg oneF]
      show ((X9_need N 153 (nI k) (wi σ 149 0 0)).bind fun r26 => (some (r26.1, r26.2))) = _
      rw [e1]
      rfl
  · refine key (A.2.1 (24 + k)) (fun σ hσ => ?_) (fun σ hσ => ?_)
    · unfold X8_thing
      rw [p8 σ hσ, Option.bind_some, if_neg oneF]
      show (if inb (nI k) 8 = true then some (gi σ 23 (nI k).toNatClampNeg, σ) else none) = _
      rw [ib 8 (by omega) (by omega), cl, if_pos rfl, ← hσ.2.1, rC_l hk8]
    · unfold X9_thing
      simp only [bnS]
      rw [p9 σ hσ, Option.bind_some, if_neg oneF, hin, Option.bind_some, if_neg oneF]
      show (if inb (24 + nI k) 37 = true then some (gi (wi σ 149 0 0) 153 (24 + nI k).toNatClampNeg, wi σ 149 0 0) else none) = _
      rw [show (24 : Int32) + nI k = nI (24 + k) from nI_add 24 k, i37 24 (by omega), clI (by omega), if_pos rfl, v9 σ hσ _ (by omega)]
  · refine key (if hb (A.2.1 32) k = true then 0 else bun A.2.1 k) (fun σ hσ => ?_) (fun σ hσ => ?_)
    · unfold X8_thing
      rw [p8 σ hσ, Option.bind_some, if_neg oneF]
      show ((X5_isGone N 19 (nI k) σ).bind fun r24 => (if r24 = 0 then ((X5_bundleOf N 19 (nI k) σ).bind fun r27 => (some (r27, σ))) else (some (0, σ)))) = _
      rw [isGone_b N 19 (by omega), Option.bind_some, show gi σ 19 4 = A.2.1 32 from congrFun hσ.2.1 32, bundleOf_s (by omega) (by rw [hσ.2.1]; exact hA.1.1) hk8, hσ.2.1]
      cases hb (A.2.1 32) k <;> rfl
    · unfold X9_thing
      simp only [bnS]
      rw [p9 σ hσ, Option.bind_some, if_neg oneF, hin, Option.bind_some, if_neg oneF]
      show ((X9_bundle N 153 (nI k) (wi σ 149 0 0)).bind fun r => (some (r, wi σ 149 0 0))) = _
      rw [bundle_r (by omega) (hσ.1.fr (thrown_f σ 0) (by decide)).1 (by rw [r9 σ hσ]; exact hA.1.1) hk, r9 σ hσ]
      rfl

theorem out_f (σ : Sg) (x : Int64) : Fr [180] σ (wl σ 180 0 x) := (Fr.refl _ _).wl (by simp [pl])
theorem i2c_out : ∀ x ∈ [180], x ∉ inC := by decide +kernel
theorem i2r_out : ∀ x ∈ [180], x ∉ inR := by decide +kernel
theorem lgc_eq (x : Int64) : lg_cmp x x = 0 := by
  unfold lg_cmp
  simp
set_option maxRecDepth 100000 in
set_option maxHeartbeats 4000000 in
theorem law_6y {E : Ev} {Z : Zx} {L : Nat} {xs : Nat → Int32} (C : LwC E Z) (hX : SX E Z L xs) (hl : E.1.stackTraces = false) (hL : L ≤ 320) {k : Nat} (hk : 5 * k + 5 ≤ L) {N : Nat} (hN : 5000 < N) {cells slots : Nat} (hf : cells + 1 ≤ lawM ∧ slots + 6 ≤ lawS) {H : Nat} (hH : H < 1000000) {A : Ab} (hA : OkA H A) {σ : Sg} (hC : InvC σ A) (hR : InvR σ A) (hf0 : cells ≤ lawM ∧ slots ≤ lawS) {v : Int32} {σ1 σ2 : Sg} (e1 : X8_thing N (xs (nI (5 * k) + 1).toNatClampNeg) (xs (nI (5 * k) + 2).toNatClampNeg) σ = some (v, σ1)) (e2 : X9_thing N (xs (nI (5 * k) + 1).toNatClampNeg) (xs (nI (5 * k) + 2).toNatClampNeg) (wl σ1 180 0 v.toInt64) = some (v, σ2)) (e3 : X9_thrown N σ2 = some 0) (e4 : gl σ2 180 0 = v.toInt64) (f1 : InvC σ2 A) (f2 : InvR σ2 A) (hS : LStep E Z H k (cells + 1) (slots + 6)) : Wm E Z cells slots SH0 σ 338 (lvK k) [] := by
  refine r_aload_n (pc' := 339) C dL_law_338 rfl 3 rfl ?_
  refine r_aload_n (pc' := 340) C dL_law_339 rfl 4 rfl ?_
  refine r_iload (pc' := 342) C dL_law_340 rfl 0 rfl ?_
  refine r_iconst (pc' := 343) (v := 1) C dL_law_342 rfl rfl ?_
  refine r_iadd (pc' := 344) C dL_law_343 rfl ?_
  refine r_sld (pc' := 345) C hX (sc_in hk hL (j := 1) (by decide) rfl) dL_law_344 rfl ?_
  refine r_aload_n (pc' := 346) C dL_law_345 rfl 4 rfl ?_
  refine r_iload (pc' := 348) C dL_law_346 rfl 0 rfl ?_
  refine r_iconst (pc' := 349) (v := 2) C dL_law_348 rfl rfl ?_
  refine r_iadd (pc' := 350) C dL_law_349 rfl ?_
  refine r_sld (pc' := 351) C hX (sc_in hk hL (j := 2) (by decide) rfl) dL_law_350 rfl ?_
  refine r_aload_n (pc' := 352) C dL_law_351 rfl 1 rfl ?_
  refine r_callW (pc' := 355) (As := [.ref 0, .int (xs (nI (5 * k) + 1).toNatClampNeg), .int (xs (nI (5 * k) + 2).toNatClampNeg), .ref 180]) (st := []) C (L_thing_y e1) mlL_50 ceL_thing csL_thing rfl (Nat.le_of_ble_eq_true rfl) rfl (Nat.zero_le _) hf0 dL_law_352 rfl ?_
  show Wm E Z _ _ SH0 _ 355 (lvK k) [.int 0]
  refine r_istore (pc' := 357) (lv2 := (5, .int 0) :: lvK k) C dL_law_355 rfl (by decide) rfl ?_
  refine r_aload_n (pc' := 358) C dL_law_357 rfl 3 rfl ?_
  refine r_aload_n (pc' := 359) C dL_law_358 rfl 5 rfl ?_
  refine r_iload (pc' := 361) C dL_law_359 rfl 1 rfl ?_
  refine r_iconst (pc' := 362) (v := 1) C dL_law_361 rfl rfl ?_
  refine r_iadd (pc' := 363) C dL_law_362 rfl ?_
  refine r_sld (pc' := 364) C hX (sc_in hk hL (j := 1) (by decide) rfl) dL_law_363 rfl ?_
  refine r_aload_n (pc' := 365) C dL_law_364 rfl 5 rfl ?_
  refine r_iload (pc' := 367) C dL_law_365 rfl 1 rfl ?_
  refine r_iconst (pc' := 368) (v := 2) C dL_law_367 rfl rfl ?_
  refine r_iadd (pc' := 369) C dL_law_368 rfl ?_
  refine r_sld (pc' := 370) C hX (sc_in hk hL (j := 2) (by decide) rfl) dL_law_369 rfl ?_
  refine r_cV1 (pc' := 373) (v := .int v) (As := [.int (xs (nI (5 * k) + 1).toNatClampNeg), .int (xs (nI (5 * k) + 2).toNatClampNeg)]) (st := []) C (X9_thing_ok e2) mlL_55 ceX9_thing cvX9_thing sh_149 rfl rfl rfl (Nat.le_of_ble_eq_true rfl) rfl (Nat.zero_le _) dL_law_370 rfl (hf := hf0) (kk := ?_)
  refine r_istore (pc' := 375) (lv2 := (6, .int v) :: (5, .int 0) :: lvK k) C dL_law_373 rfl (by decide) rfl ?_
  refine r_aload_n (pc' := 376) C dL_law_375 rfl 4 rfl ?_
  refine r_cV1 (pc' := 379) (v := .int 0) (As := []) (st := []) C (X9_thrown_ok e3) mlL_56 ceX9_thrown cvX9_thrown sh_149 rfl rfl rfl (Nat.le_of_ble_eq_true rfl) rfl (Nat.zero_le _) dL_law_376 rfl (hf := hf0) (kk := ?_)
  refine r_iload (pc' := 381) C dL_law_379 rfl 1 rfl ?_
  refine r_icmp_eq (tgt := 386) (pc' := 384) C dL_law_381 rfl rfl (fun _ => ?_) (fun h => absurd rfl h)
  refine r_iload (pc' := 388) C dL_law_386 rfl 1 rfl ?_
  refine r_if_ne (tgt := 403) (pc' := 391) C dL_law_388 rfl rfl (fun h => absurd rfl h) (fun _ => ?_)
  refine r_aload_n (pc' := 392) C dL_law_391 rfl 3 rfl ?_
  refine r_iconst (pc' := 393) (v := 0) C dL_law_392 rfl rfl ?_
  refine r_lald (pc' := 394) C sh_180 (vin (show inb 0 1 = true by decide)) dL_law_393 rfl ?_
  refine r_iload (pc' := 396) C dL_law_394 rfl 0 rfl ?_
  refine r_i2l (pc' := 397) C dL_law_396 rfl rfl ?_
  refine r_lcmp (pc' := 398) C dL_law_397 rfl ?_
  refine r_if_eq (tgt := 403) (pc' := 401) C dL_law_398 rfl rfl (fun _ => ?_) (fun h => absurd ?_ h)
  · refine r_goto (tgt := 1399) C dL_law_403 rfl ?_
    refine r_sub (lv' := lvK k) [2, 3, 4, 5, 6] rfl ?_
    exact r_widen (Nat.le_succ _) (Nat.le_add_right _ _) (hS σ2 A f1 f2 (hA.mono (Nat.le_add_right _ _)))
  · rw [show gl σ2 180 (0 : Int32).toNatClampNeg = v.toInt64 from e4]
    exact lgc_eq _
set_option maxRecDepth 100000 in
set_option maxHeartbeats 4000000 in
theorem law_6n {E : Ev} {Z : Zx} {L : Nat} {xs : Nat → Int32} (C : LwC E Z) (hX : SX E Z L xs) (hl : E.1.stackTraces = false) (hL : L ≤ 320) {k : Nat} (hk : 5 * k + 5 ≤ L) {N : Nat} (hN : 5000 < N) {cells slots : Nat} (hf : cells + 1 ≤ lawM ∧ slots + 6 ≤ lawS) {H : Nat} (hH : H < 1000000) {A : Ab} (hA : OkA H A) {σ : Sg} (hC : InvC σ A) (hR : InvR σ A) (e1 : Xm E 7 yX8_thing cX8_thing 3 (some .int) [.ref 0, .int (xs (nI (5 * k) + 1).toNatClampNeg), .int (xs (nI (5 * k) + 2).toNatClampNeg)] SH0 σ) {v : Int32} {σ2 : Sg} (e2 : X9_thing N (xs (nI (5 * k) + 1).toNatClampNeg) (xs (nI (5 * k) + 2).toNatClampNeg) σ = some (v, σ2)) (e3 : X9_thrown N σ2 = some 1) (f1 : InvC σ2 A) (f2 : InvR σ2 A) (hS : LStep E Z H k (cells + 1) (slots + 6)) : Wm E Z cells slots SH0 σ 338 (lvK k) [] := by
  refine r_aload_n (pc' := 339) C dL_law_338 rfl 3 rfl ?_
  refine r_aload_n (pc' := 340) C dL_law_339 rfl 4 rfl ?_
  refine r_iload (pc' := 342) C dL_law_340 rfl 0 rfl ?_
  refine r_iconst (pc' := 343) (v := 1) C dL_law_342 rfl rfl ?_
  refine r_iadd (pc' := 344) C dL_law_343 rfl ?_
  refine r_sld (pc' := 345) C hX (sc_in hk hL (j := 1) (by decide) rfl) dL_law_344 rfl ?_
  refine r_aload_n (pc' := 346) C dL_law_345 rfl 4 rfl ?_
  refine r_iload (pc' := 348) C dL_law_346 rfl 0 rfl ?_
  refine r_iconst (pc' := 349) (v := 2) C dL_law_348 rfl rfl ?_
  refine r_iadd (pc' := 350) C dL_law_349 rfl ?_
  refine r_sld (pc' := 351) C hX (sc_in hk hL (j := 2) (by decide) rfl) dL_law_350 rfl ?_
  refine r_aload_n (pc' := 352) C dL_law_351 rfl 1 rfl ?_
  refine r_callW (pc' := 355) (As := [.ref 0, .int (xs (nI (5 * k) + 1).toNatClampNeg), .int (xs (nI (5 * k) + 2).toNatClampNeg), .ref 180]) (st := []) C (L_thing_n e1) mlL_50 ceL_thing csL_thing rfl (Nat.le_of_ble_eq_true rfl) rfl (Nat.zero_le _) hf dL_law_352 rfl ?_
  show Wm E Z _ _ SH0 _ 355 (lvK k) [.int 1]
  refine r_istore (pc' := 357) (lv2 := (5, .int 1) :: lvK k) C dL_law_355 rfl (by decide) rfl ?_
  refine r_aload_n (pc' := 358) C dL_law_357 rfl 3 rfl ?_
  refine r_aload_n (pc' := 359) C dL_law_358 rfl 5 rfl ?_
  refine r_iload (pc' := 361) C dL_law_359 rfl 1 rfl ?_
  refine r_iconst (pc' := 362) (v := 1) C dL_law_361 rfl rfl ?_
  refine r_iadd (pc' := 363) C dL_law_362 rfl ?_
  refine r_sld (pc' := 364) C hX (sc_in hk hL (j := 1) (by decide) rfl) dL_law_363 rfl ?_
  refine r_aload_n (pc' := 365) C dL_law_364 rfl 5 rfl ?_
  refine r_iload (pc' := 367) C dL_law_365 rfl 1 rfl ?_
  refine r_iconst (pc' := 368) (v := 2) C dL_law_367 rfl rfl ?_
  refine r_iadd (pc' := 369) C dL_law_368 rfl ?_
  refine r_sld (pc' := 370) C hX (sc_in hk hL (j := 2) (by decide) rfl) dL_law_369 rfl ?_
  refine r_cV1 (pc' := 373) (v := .int v) (As := [.int (xs (nI (5 * k) + 1).toNatClampNeg), .int (xs (nI (5 * k) + 2).toNatClampNeg)]) (st := []) C (X9_thing_ok e2) mlL_55 ceX9_thing cvX9_thing sh_149 rfl rfl rfl (Nat.le_of_ble_eq_true rfl) rfl (Nat.zero_le _) dL_law_370 rfl (hf := hf) (kk := ?_)
  refine r_istore (pc' := 375) (lv2 := (6, .int v) :: (5, .int 1) :: lvK k) C dL_law_373 rfl (by decide) rfl ?_
  refine r_aload_n (pc' := 376) C dL_law_375 rfl 4 rfl ?_
  refine r_cV1 (pc' := 379) (v := .int 1) (As := []) (st := []) C (X9_thrown_ok e3) mlL_56 ceX9_thrown cvX9_thrown sh_149 rfl rfl rfl (Nat.le_of_ble_eq_true rfl) rfl (Nat.zero_le _) dL_law_376 rfl (hf := hf) (kk := ?_)
  refine r_iload (pc' := 381) C dL_law_379 rfl 1 rfl ?_
  refine r_icmp_eq (tgt := 386) (pc' := 384) C dL_law_381 rfl rfl (fun _ => ?_) (fun h => absurd rfl h)
  refine r_iload (pc' := 388) C dL_law_386 rfl 1 rfl ?_
  refine r_if_ne (tgt := 403) (pc' := 391) C dL_law_388 rfl rfl (fun _ => ?_) (fun h => absurd h (by decide))
  refine r_goto (tgt := 1399) C dL_law_403 rfl ?_
  refine r_sub (lv' := lvK k) [2, 3, 4, 5, 6] rfl ?_
  exact hS σ2 A f1 f2 (hA.mono (Nat.le_add_right _ _))
set_option maxRecDepth 100000 in
set_option maxHeartbeats 4000000 in
theorem law_45y {E : Ev} {Z : Zx} {L : Nat} {xs : Nat → Int32} (C : LwC E Z) (hX : SX E Z L xs) (hl : E.1.stackTraces = false) (hL : L ≤ 320) {k : Nat} (hk : 5 * k + 5 ≤ L) {N : Nat} (hN : 5000 < N) {cells slots : Nat} (hf : cells + 1 ≤ lawM ∧ slots + 6 ≤ lawS) {H : Nat} (hH : H < 1000000) {A : Ab} (hA : OkA H A) {σ : Sg} (hC : InvC σ A) (hR : InvR σ A) (hf0 : cells ≤ lawM ∧ slots ≤ lawS) {v : Int64} {σ1 σ2 : Sg} (e1 : X8_row N (xs (nI (5 * k) + 1).toNatClampNeg) σ = some (v, σ1)) (e2 : X9_row N (xs (nI (5 * k) + 1).toNatClampNeg) (wl σ1 180 0 v) = some (v, σ2)) (e3 : X9_thrown N σ2 = some 0) (e4 : gl σ2 180 0 = v) (f1 : InvC σ2 A) (f2 : InvR σ2 A) (hS : LStep E Z H k (cells + 1) (slots + 6)) : Wm E Z cells slots SH0 σ 1344 (lvK k) [] := by
  refine r_aload_n (pc' := 1345) C dL_law_1344 rfl 3 rfl ?_
  refine r_aload_n (pc' := 1346) C dL_law_1345 rfl 4 rfl ?_
  refine r_iload (pc' := 1348) C dL_law_1346 rfl 0 rfl ?_
  refine r_iconst (pc' := 1349) (v := 1) C dL_law_1348 rfl rfl ?_
  refine r_iadd (pc' := 1350) C dL_law_1349 rfl ?_
  refine r_sld (pc' := 1351) C hX (sc_in hk hL (j := 1) (by decide) rfl) dL_law_1350 rfl ?_
  refine r_aload_n (pc' := 1352) C dL_law_1351 rfl 1 rfl ?_
  refine r_callW (pc' := 1355) (As := [.ref 0, .int (xs (nI (5 * k) + 1).toNatClampNeg), .ref 180]) (st := []) C (L_row_y e1) mlL_213 ceL_row csL_row rfl (Nat.le_of_ble_eq_true rfl) rfl (Nat.zero_le _) hf0 dL_law_1352 rfl ?_
  show Wm E Z _ _ SH0 _ 1355 (lvK k) [.int 0]
  refine r_istore (pc' := 1357) (lv2 := (5, .int 0) :: lvK k) C dL_law_1355 rfl (by decide) rfl ?_
  refine r_aload_n (pc' := 1358) C dL_law_1357 rfl 3 rfl ?_
  refine r_aload_n (pc' := 1359) C dL_law_1358 rfl 5 rfl ?_
  refine r_iload (pc' := 1361) C dL_law_1359 rfl 1 rfl ?_
  refine r_iconst (pc' := 1362) (v := 1) C dL_law_1361 rfl rfl ?_
  refine r_iadd (pc' := 1363) C dL_law_1362 rfl ?_
  refine r_sld (pc' := 1364) C hX (sc_in hk hL (j := 1) (by decide) rfl) dL_law_1363 rfl ?_
  refine r_cV1 (pc' := 1367) (v := .long v) (As := [.int (xs (nI (5 * k) + 1).toNatClampNeg)]) (st := []) C (X9_row_ok e2) mlL_216 ceX9_row cvX9_row sh_149 rfl rfl rfl (Nat.le_of_ble_eq_true rfl) rfl (Nat.zero_le _) dL_law_1364 rfl (hf := hf0) (kk := ?_)
  refine r_lstore (pc' := 1369) (lv2 := (6, .long v) :: (5, .int 0) :: lvK k) C dL_law_1367 rfl (by decide) rfl ?_
  refine r_aload_n (pc' := 1370) C dL_law_1369 rfl 4 rfl ?_
  refine r_cV1 (pc' := 1373) (v := .int 0) (As := []) (st := []) C (X9_thrown_ok e3) mlL_56 ceX9_thrown cvX9_thrown sh_149 rfl rfl rfl (Nat.le_of_ble_eq_true rfl) rfl (Nat.zero_le _) dL_law_1370 rfl (hf := hf0) (kk := ?_)
  refine r_iload (pc' := 1375) C dL_law_1373 rfl 1 rfl ?_
  refine r_icmp_eq (tgt := 1380) (pc' := 1378) C dL_law_1375 rfl rfl (fun _ => ?_) (fun h => absurd rfl h)
  refine r_iload (pc' := 1382) C dL_law_1380 rfl 1 rfl ?_
  refine r_if_ne (tgt := 1396) (pc' := 1385) C dL_law_1382 rfl rfl (fun h => absurd rfl h) (fun _ => ?_)
  refine r_aload_n (pc' := 1386) C dL_law_1385 rfl 3 rfl ?_
  refine r_iconst (pc' := 1387) (v := 0) C dL_law_1386 rfl rfl ?_
  refine r_lald (pc' := 1388) C sh_180 (vin (show inb 0 1 = true by decide)) dL_law_1387 rfl ?_
  refine r_lload (pc' := 1390) C dL_law_1388 rfl 0 rfl ?_
  refine r_lcmp (pc' := 1391) C dL_law_1390 rfl ?_
  refine r_if_eq (tgt := 1396) (pc' := 1394) C dL_law_1391 rfl rfl (fun _ => ?_) (fun h => absurd ?_ h)
  · refine r_goto (tgt := 1399) C dL_law_1396 rfl ?_
    refine r_sub (lv' := lvK k) [2, 3, 4, 5, 6] rfl ?_
    exact r_widen (Nat.le_succ _) (Nat.le_add_right _ _) (hS σ2 A f1 f2 (hA.mono (Nat.le_add_right _ _)))
  · rw [show gl σ2 180 (0 : Int32).toNatClampNeg = v from e4]
    exact lgc_eq _
set_option maxRecDepth 100000 in
set_option maxHeartbeats 4000000 in
theorem law_45n {E : Ev} {Z : Zx} {L : Nat} {xs : Nat → Int32} (C : LwC E Z) (hX : SX E Z L xs) (hl : E.1.stackTraces = false) (hL : L ≤ 320) {k : Nat} (hk : 5 * k + 5 ≤ L) {N : Nat} (hN : 5000 < N) {cells slots : Nat} (hf : cells + 1 ≤ lawM ∧ slots + 6 ≤ lawS) {H : Nat} (hH : H < 1000000) {A : Ab} (hA : OkA H A) {σ : Sg} (hC : InvC σ A) (hR : InvR σ A) (e1 : Xm E 7 yX8_row cX8_row 2 (some .long) [.ref 0, .int (xs (nI (5 * k) + 1).toNatClampNeg)] SH0 σ) {v : Int64} {σ2 : Sg} (e2 : X9_row N (xs (nI (5 * k) + 1).toNatClampNeg) σ = some (v, σ2)) (e3 : X9_thrown N σ2 = some 1) (f1 : InvC σ2 A) (f2 : InvR σ2 A) (hS : LStep E Z H k (cells + 1) (slots + 6)) : Wm E Z cells slots SH0 σ 1344 (lvK k) [] := by
  refine r_aload_n (pc' := 1345) C dL_law_1344 rfl 3 rfl ?_
  refine r_aload_n (pc' := 1346) C dL_law_1345 rfl 4 rfl ?_
  refine r_iload (pc' := 1348) C dL_law_1346 rfl 0 rfl ?_
  refine r_iconst (pc' := 1349) (v := 1) C dL_law_1348 rfl rfl ?_
  refine r_iadd (pc' := 1350) C dL_law_1349 rfl ?_
  refine r_sld (pc' := 1351) C hX (sc_in hk hL (j := 1) (by decide) rfl) dL_law_1350 rfl ?_
  refine r_aload_n (pc' := 1352) C dL_law_1351 rfl 1 rfl ?_
  refine r_callW (pc' := 1355) (As := [.ref 0, .int (xs (nI (5 * k) + 1).toNatClampNeg), .ref 180]) (st := []) C (L_row_n e1) mlL_213 ceL_row csL_row rfl (Nat.le_of_ble_eq_true rfl) rfl (Nat.zero_le _) hf dL_law_1352 rfl ?_
  show Wm E Z _ _ SH0 _ 1355 (lvK k) [.int 1]
  refine r_istore (pc' := 1357) (lv2 := (5, .int 1) :: lvK k) C dL_law_1355 rfl (by decide) rfl ?_
  refine r_aload_n (pc' := 1358) C dL_law_1357 rfl 3 rfl ?_
  refine r_aload_n (pc' := 1359) C dL_law_1358 rfl 5 rfl ?_
  refine r_iload (pc' := 1361) C dL_law_1359 rfl 1 rfl ?_
  refine r_iconst (pc' := 1362) (v := 1) C dL_law_1361 rfl rfl ?_
  refine r_iadd (pc' := 1363) C dL_law_1362 rfl ?_
  refine r_sld (pc' := 1364) C hX (sc_in hk hL (j := 1) (by decide) rfl) dL_law_1363 rfl ?_
  refine r_cV1 (pc' := 1367) (v := .long v) (As := [.int (xs (nI (5 * k) + 1).toNatClampNeg)]) (st := []) C (X9_row_ok e2) mlL_216 ceX9_row cvX9_row sh_149 rfl rfl rfl (Nat.le_of_ble_eq_true rfl) rfl (Nat.zero_le _) dL_law_1364 rfl (hf := hf) (kk := ?_)
  refine r_lstore (pc' := 1369) (lv2 := (6, .long v) :: (5, .int 1) :: lvK k) C dL_law_1367 rfl (by decide) rfl ?_
  refine r_aload_n (pc' := 1370) C dL_law_1369 rfl 4 rfl ?_
  refine r_cV1 (pc' := 1373) (v := .int 1) (As := []) (st := []) C (X9_thrown_ok e3) mlL_56 ceX9_thrown cvX9_thrown sh_149 rfl rfl rfl (Nat.le_of_ble_eq_true rfl) rfl (Nat.zero_le _) dL_law_1370 rfl (hf := hf) (kk := ?_)
  refine r_iload (pc' := 1375) C dL_law_1373 rfl 1 rfl ?_
  refine r_icmp_eq (tgt := 1380) (pc' := 1378) C dL_law_1375 rfl rfl (fun _ => ?_) (fun h => absurd rfl h)
  refine r_iload (pc' := 1382) C dL_law_1380 rfl 1 rfl ?_
  refine r_if_ne (tgt := 1396) (pc' := 1385) C dL_law_1382 rfl rfl (fun _ => ?_) (fun h => absurd h (by decide))
  refine r_goto (tgt := 1399) C dL_law_1396 rfl ?_
  refine r_sub (lv' := lvK k) [2, 3, 4, 5, 6] rfl ?_
  exact hS σ2 A f1 f2 (hA.mono (Nat.le_add_right _ _))
theorem law_6 {E : Ev} {Z : Zx} {L : Nat} {xs : Nat → Int32} (C : LwC E Z) (hX : SX E Z L xs) (hl : E.1.stackTraces = false) (hL : L ≤ 320) {k : Nat} (hk : 5 * k + 5 ≤ L) {N : Nat} (hN : 5000 < N) {cells slots : Nat} (hf : cells + 1 ≤ lawM ∧ slots + 6 ≤ lawS) {H : Nat} (hH : H < 1000000) {A : Ab} (hA : OkA H A) {σ : Sg} (hC : InvC σ A) (hR : InvR σ A) (hS : LStep E Z H k (cells + 1) (slots + 6)) : Wm E Z cells slots SH0 σ 338 (lvK k) [] := by
  have h8 := hA.1.1.2.2.2.2
  have no : ∀ (hx : Xm E 7 yX8_thing cX8_thing 3 (some .int) [.ref 0, .int (xs (nI (5 * k) + 1).toNatClampNeg), .int (xs (nI (5 * k) + 2).toNatClampNeg)] SH0 σ), thNo A (xs (nI (5 * k) + 1).toNatClampNeg) (xs (nI (5 * k) + 2).toNatClampNeg) → Wm E Z cells slots SH0 σ 338 (lvK k) [] := by
    intro hx hno
    obtain ⟨σ2, a1, a2, a3, a4⟩ := thing_no N hA hno σ hR
    exact law_6n C hX hl hL hk hN hf hH hA hC hR hx a1 (by unfold X9_thrown; rw [a3]) (a4 A hC) a2 hS
  rcases thing_or h8 (xs (nI (5 * k) + 1).toNatClampNeg) with ⟨j, hj, hv⟩ | hno
  · by_cases hw : (xs (nI (5 * k) + 2).toNatClampNeg) < 0 ∨ nI 7 < (xs (nI (5 * k) + 2).toNatClampNeg)
    · exact no (X8_thing_x hl N (Or.inr ⟨1, by rw [hv]; exact isThing_t N hC.1.n.1 h8 hj, by decide, hw⟩)) (Or.inr hw)
    · have hw0 : ¬ (xs (nI (5 * k) + 2).toNatClampNeg) < 0 := fun q => hw (Or.inl q)
      obtain ⟨q, hq, hwq⟩ : ∃ q, q ≤ 7 ∧ (xs (nI (5 * k) + 2).toNatClampNeg) = nI q := by
        obtain ⟨q, hq, e⟩ := nI_of2 (M := 7) (n := 7) rfl hw0 (Int32.not_lt.mp fun q => hw (Or.inr q))
        exact ⟨q, hq, e⟩
      obtain ⟨v, hc, hr⟩ := thing_yes2 (N := N) (by omega) hA hH hj hq
      obtain ⟨σ1, a1, a2, a3⟩ := hc σ hC
      have fo := out_f σ1 v.toInt64
      obtain ⟨σ2, b1, b2, b3, b4, b5⟩ := hr _ ((a3 A hR).fr fo i2r_out)
      refine law_6y C hX hl hL hk hN hf hH hA hC hR ⟨by omega, by omega⟩ (v := v) (σ1 := σ1) (σ2 := σ2) (by rw [hv, hwq]; exact a1) (by rw [hv, hwq]; exact b1) (by unfold X9_thrown; rw [b3]) (by rw [b5, glw, if_pos ⟨rfl, rfl⟩]) (b4 A (a2.fr fo i2c_out)) b2 hS
  · exact no (X8_thing_x hl N (Or.inl (isThing_f N hC.1.n.1 hno))) (Or.inl hno)
theorem law_45 {E : Ev} {Z : Zx} {L : Nat} {xs : Nat → Int32} (C : LwC E Z) (hX : SX E Z L xs) (hl : E.1.stackTraces = false) (hL : L ≤ 320) {k : Nat} (hk : 5 * k + 5 ≤ L) {N : Nat} (hN : 5000 < N) {cells slots : Nat} (hf : cells + 1 ≤ lawM ∧ slots + 6 ≤ lawS) {H : Nat} (hH : H < 1000000) {A : Ab} (hA : OkA H A) {σ : Sg} (hC : InvC σ A) (hR : InvR σ A) (hS : LStep E Z H k (cells + 1) (slots + 6)) : Wm E Z cells slots SH0 σ 1344 (lvK k) [] := by
  have h10 := hA.2.2.1
  have e31 : gi σ 3 1 = nI A.2.2.2.1.length := hC.2.2.2.1.1
  by_cases h : (xs (nI (5 * k) + 1).toNatClampNeg) < 0 ∨ nI A.2.2.2.1.length ≤ (xs (nI (5 * k) + 1).toNatClampNeg)
  · have f : Fr [3000] σ (wi (wi σ 149 0 0) 149 0 1) := (thrown_f σ 0).trans (thrown_f _ 1)
    exact law_45n C hX hl hL hk hN hf hH hA hC hR (X8_row_x hl (by rw [e31]; exact h)) (row_no N hA h hR) (by unfold X9_thrown; rw [giw, if_pos ⟨rfl, rfl⟩]) (hC.fr f (by decide +kernel)) (hR.fr f (by decide)) hS
  · have h0 : ¬ (xs (nI (5 * k) + 1).toNatClampNeg) < 0 := fun q => h (Or.inl q)
    obtain ⟨i, hi, hv⟩ : ∃ i, i < A.2.2.2.1.length ∧ (xs (nI (5 * k) + 1).toNatClampNeg) = nI i := by
      obtain ⟨i, hi, e⟩ := nI_of h0
      refine ⟨i, ?_, e⟩
      apply Nat.not_le.mp
      intro q
      exact h (Or.inr (by rw [e]; exact nI_le q hi))
    have fo := out_f σ (A.2.2.2.1.getD i 0)
    have hR1 := hR.fr fo i2r_out
    have hC1 := hC.fr fo i2c_out
    have f := thrown_f (wl σ 180 0 (A.2.2.2.1.getD i 0)) 0
    refine law_45y C hX hl hL hk hN hf hH hA hC hR ⟨by omega, by omega⟩ (v := A.2.2.2.1.getD i 0) (σ1 := σ) (by rw [hv]; exact row_c N hA hi hC) (by rw [hv]; exact row_r N hA hi hR1) (by unfold X9_thrown; rw [giw, if_pos ⟨rfl, rfl⟩]) (by show gl (wl σ 180 0 (A.2.2.2.1.getD i 0)) 180 0 = _; rw [glw, if_pos ⟨rfl, rfl⟩]) (hC1.fr f (by decide +kernel)) (hR1.fr f (by decide)) hS
