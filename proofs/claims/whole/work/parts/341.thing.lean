/-! ===== thing, row: what they answer; where they refuse, thrown is 1 ===== -/
def OpRt (m : Sg → Option (Int32 × Sg)) (A : Ab) (v t : Int32) : Prop := ∀ σ, InvR σ A → ∃ σ', m σ = some (v, σ') ∧ InvR σ' A ∧ gi σ' 149 0 = t ∧ ∀ B, InvC σ B → InvC σ' B
theorem OpRt.fr {m : Sg → Option (Int32 × Sg)} {A : Ab} {v : Int32} (h : ∀ σ, InvR σ A → ∃ σ', m σ = some (v, σ') ∧ Fr [159, 160] (wi σ 149 0 0) σ') : OpRt m A v 0 := by
  intro σ hσ
  obtain ⟨σ', a, b⟩ := h σ hσ
  have f : Fr [3000, 159, 160] σ σ' := ((thrown_f σ 0).mono (by decide)).trans (b.mono (by decide))
  exact ⟨σ', a, hσ.fr f (by decide), by rw [b.g (k := 149) (j := 0) (by decide), giw, if_pos ⟨rfl, rfl⟩], fun B hB => hB.fr f (by decide +kernel)⟩
/-- the call refuses -/
def thNo (A : Ab) (a w : Int32) : Prop := noThing A.1.1 a ∨ (w < 0 ∨ nI 7 < w)
theorem thing_no (N : Nat) {H : Nat} {A : Ab} (hA : OkA H A) {a w : Int32} (h : thNo A a w) : OpRt (X9_thing N a w) A 0 1 := by
  have h8 := hA.1.1.2.2.2.2
  intro σ hσ
  have f0 := thrown_f σ 0
  have c1 := hσ.1.fr f0 (by decide)
  have f : Fr [3000] σ (wi (wi σ 149 0 0) 149 0 1) := f0.trans (thrown_f _ 1)
  have hre : X9_refuse N (wi σ 149 0 0) = some (0, wi (wi σ 149 0 0) 149 0 1) := rfl
  refine ⟨wi (wi σ 149 0 0) 149 0 1, ?_, hσ.fr f (by decide), by rw [giw, if_pos ⟨rfl, rfl⟩], fun B hB => hB.fr f (by decide +kernel)⟩
  unfold X9_thing
  simp only [bnS]
  rcases thing_or h8 a with ⟨k, hk, rfl⟩ | hno
  · have hw := h.resolve_left (noT h8 hk)
    rw [isThingR_t N c1.1 h8 hk, Option.bind_some, if_neg oneF, in01 N (hi := 7) (h64 := 7) rfl hw, Option.bind_some, if_pos rfl, hre]
    rfl
  · rw [isThingR_f N c1.1 h8 hno, Option.bind_some, if_pos rfl, hre]
    rfl
theorem thing_yes {N : Nat} (hN : 555 < N) {H : Nat} {A : Ab} (hA : OkA H A) (hH : H < 1000000) {k q : Nat} (hk : k < A.1.1) (hq : q ≤ 7) : ∃ v, OpC (X8_thing N (nI k) (nI q)) A v A ∧ OpRt (X9_thing N (nI k) (nI q)) A v 0 := by
  have h8 := hA.1.1.2.2.2.2
  have hk8 : k < 8 := by omega
  obtain ⟨h, hh, e36⟩ := hA.1.h36
  have hin : ∀ σ, X9_in N (nI q).toInt64 0 7 σ = some 1 := fun σ => in11 N (hi := 7) (h64 := 7) rfl (nI_pos (by omega)) (nI_le (b := 7) hq (by decide)) σ
  have key : ∀ v, (∀ σ, InvC σ A → X8_thing N (nI k) (nI q) σ = some (v, σ)) → (∀ σ, InvR σ A → X9_thing N (nI k) (nI q) σ = some (v, wi σ 149 0 0)) → ∃ v, OpC (X8_thing N (nI k) (nI q)) A v A ∧ OpRt (X9_thing N (nI k) (nI q)) A v 0 := fun v h1 h2 => ⟨v, OpC.id h1, OpRt.fr (fun σ hσ => ⟨_, h2 σ hσ, Fr.refl _ _⟩)⟩
  have p8 : ∀ σ, InvC σ A → X0_isThing N (nI k) σ = some 1 := fun σ hσ => isThing_t N hσ.1.n.1 h8 hk
  have p9 : ∀ σ, InvR σ A → X9_isThing N (nI k) (wi σ 149 0 0) = some 1 := fun σ hσ => isThingR_t N (hσ.1.fr (thrown_f σ 0) (by decide)).1 h8 hk
  have r9 : ∀ σ, InvR σ A → rR (wi σ 149 0 0) 153 = A.2.1 := fun σ hσ => (rR_congr ((thrown_f σ 0).r (by simp [pl]))).trans hσ.2.1
  have v9 : ∀ σ, InvR σ A → ∀ j, j < 37 → gi (wi σ 149 0 0) 153 j = A.2.1 j := fun σ hσ j hj => by rw [← r9 σ hσ, rR_j hj]
  have ib : ∀ m, 8 ≤ m → m < 1000 → inb (nI k) m = true := fun m h1 h2 => inbI (by omega) (by omega)
  have i37 : ∀ c, c + k < 37 → inb (nI (c + k)) 37 = true := fun c hc => inbI hc (by omega)
  have cl : (nI k).toNatClampNeg = k := clI (by omega)
  have hq' : q = 0 ∨ q = 1 ∨ q = 2 ∨ q = 3 ∨ q = 4 ∨ q = 5 ∨ q = 6 ∨ q = 7 := by omega
  rcases hq' with rfl | rfl | rfl | rfl | rfl | rfl | rfl | rfl
  · refine key (A.1.2.1 k) (fun σ hσ => ?_) (fun σ hσ => ?_)
    · obtain ⟨k2, m1, m2, m3, m4⟩ := hσ.1.rule
      unfold X8_thing
      rw [p8 σ hσ, Option.bind_some, if_neg oneF]
      show (if inb (nI k) 8 = true then some (gi σ 6 (nI k).toNatClampNeg, σ) else none) = _
      rw [ib 8 (by omega) (by omega), cl, if_pos rfl, m4.2.2.1 k hk]
    · unfold X9_thing
      simp only [bnS]
      rw [p9 σ hσ, Option.bind_some, if_neg oneF, hin, Option.bind_some, if_neg oneF]
      show (if inb (nI k) 8 = true then some (gi (wi σ 149 0 0) 151 (nI k).toNatClampNeg, wi σ 149 0 0) else none) = _
      rw [ib 8 (by omega) (by omega), cl, if_pos rfl, (hσ.1.fr (thrown_f σ 0) (by decide)).2.2.1 k hk]
  · refine key (A.2.1 k) (fun σ hσ => ?_) (fun σ hσ => ?_)
    · unfold X8_thing
      rw [p8 σ hσ, Option.bind_some, if_neg oneF]
      show (if inb (nI k) 8 = true then some (gi σ 20 (nI k).toNatClampNeg, σ) else none) = _
      rw [ib 8 (by omega) (by omega), cl, if_pos rfl, ← hσ.2.1, rC_s hk8]
    · unfold X9_thing
      simp only [bnS]
      rw [p9 σ hσ, Option.bind_some, if_neg oneF, hin, Option.bind_some, if_neg oneF]
      show (if inb (nI k) 37 = true then some (gi (wi σ 149 0 0) 153 (nI k).toNatClampNeg, wi σ 149 0 0) else none) = _
      rw [ib 37 (by omega) (by omega), cl, if_pos rfl, v9 σ hσ k (by omega)]
  · refine key (A.2.1 (8 + k)) (fun σ hσ => ?_) (fun σ hσ => ?_)
    · unfold X8_thing
      rw [p8 σ hσ, Option.bind_some, if_neg oneF]
      show (if inb (nI k) 8 = true then some (gi σ 21 (nI k).toNatClampNeg, σ) else none) = _
      rw [ib 8 (by omega) (by omega), cl, if_pos rfl, ← hσ.2.1, rC_h hk8]
    · unfold X9_thing
      simp only [bnS]
      rw [p9 σ hσ, Option.bind_some, if_neg oneF, hin, Option.bind_some, if_neg oneF]
      show (if inb (8 + nI k) 37 = true then some (gi (wi σ 149 0 0) 153 (8 + nI k).toNatClampNeg, wi σ 149 0 0) else none) = _
      rw [show (8 : Int32) + nI k = nI (8 + k) from nI_add 8 k, i37 8 (by omega), clI (by omega), if_pos rfl, v9 σ hσ _ (by omega)]
  · refine key (A.2.1 (16 + k)) (fun σ hσ => ?_) (fun σ hσ => ?_)
    · unfold X8_thing
      rw [p8 σ hσ, Option.bind_some, if_neg oneF]
      show (if inb (nI k) 8 = true then some (gi σ 22 (nI k).toNatClampNeg, σ) else none) = _
      rw [ib 8 (by omega) (by omega), cl, if_pos rfl, ← hσ.2.1, rC_d hk8]
    · unfold X9_thing
      simp only [bnS]
      rw [p9 σ hσ, Option.bind_some, if_neg oneF, hin, Option.bind_some, if_neg oneF]
      show (if inb (16 + nI k) 37 = true then some (gi (wi σ 149 0 0) 153 (16 + nI k).toNatClampNeg, wi σ 149 0 0) else none) = _
      rw [show (16 : Int32) + nI k = nI (16 + k) from nI_add 16 k, i37 16 (by omega), clI (by omega), if_pos rfl, v9 σ hσ _ (by omega)]
  · refine key (if hb (A.2.1 32) k = true then 1 else 0) (fun σ hσ => ?_) (fun σ hσ => ?_)
    · unfold X8_thing
      rw [p8 σ hσ, Option.bind_some, if_neg oneF]
      show ((X5_isGone N 19 (nI k) σ).bind fun r13 => (if r13 = 0 then (some (0, σ)) else (some (1, σ)))) = _
      rw [isGone_b N 19 (by omega), Option.bind_some, show gi σ 19 4 = A.2.1 32 from congrFun hσ.2.1 32]
      cases hb (A.2.1 32) k <;> rfl
    · unfold X9_thing
      simp only [bnS]
      rw [p9 σ hσ, Option.bind_some, if_neg oneF, hin, Option.bind_some, if_neg oneF]
      show (if inb 32 37 = true then (X9_has N (gi (wi σ 149 0 0) 153 (32 : Int32).toNatClampNeg) (nI k) (wi σ 149 0 0)).bind fun r21 => ((X9_flag N r21 (wi σ 149 0 0)).bind fun r23 => (some (r23, wi σ 149 0 0))) else none) = _
      rw [if_pos i37_32, cl32, v9 σ hσ 32 (by omega), has_b N _ (by omega), Option.bind_some]
      cases hb (A.2.1 32) k <;> rfl
  · refine ⟨needS A.1 A.2.1 k, OpC.same (fun σ hσ => ?_), OpRt.fr (fun σ hσ => ?_)⟩
    · obtain ⟨k2, m1, m2, m3, m4⟩ := hσ.1.rule
      obtain ⟨σ1, e1, e2, e3⟩ := weigh_b (N := N) (by omega) (Or.inl rfl : (19 : Nat) = 19 ∨ (19 : Nat) = 24) m4 (show h < 2147483648 by omega) (by rw [hσ.2.1]; exact e36)
      rw [hσ.2.1] at e2
      refine ⟨σ1, [15, 18, 9, 13], ?_, e3, by decide +kernel, by decide⟩
      unfold X8_thing
      rw [p8 σ hσ, Option.bind_some, if_neg oneF]
      show (if isRule ((gi σ 5 2).toNatClampNeg) = true then (X0_weigh N 19 ((gi σ 5 2).toNatClampNeg) σ).bind fun r18 => (if inb (nI k) 8 = true then some (gi r18 15 (nI k).toNatClampNeg, r18) else none) else none) = _
      rw [m2, m3, if_pos rfl, e1, Option.bind_some, ib 8 (by omega) (by omega), cl, if_pos rfl, e2 k hk]
    · have c1 := hσ.1.fr (thrown_f σ 0) (by decide)
      obtain ⟨σ1, e1, e2⟩ := need_b (N := N) (by omega) (Or.inl rfl : (153 : Nat) = 153 ∨ (153 : Nat) = 154) c1 (show h < 2147483648 by omega) (by rw [r9 σ hσ]; exact e36) hk
      rw [r9 σ hσ] at e1
      refine ⟨σ1, ?_, e2⟩
      unfold X9_thing
      simp only [bnS]
      rw [p9 σ hσ, Option.bind_some, if_neg oneF, hin, Option.bind_some, if_neg oneF]
      show ((X9_need N 153 (nI k) (wi σ 149 0 0)).bind fun r26 => (some (r26.1, r26.2))) = _
      rw [e1]
      rfl
  · refine key (A.2.1 (24 + k)) (fun σ hσ => ?_) (fun σ hσ => ?_)
    · unfold X8_thing
      rw [p8 σ hσ, Option.bind_some, if_neg oneF]
      show (if inb (nI k) 8 = true then some (gi σ 23 (nI k).toNatClampNeg, σ) else none) = _
      rw [ib 8 (by omega) (by omega), cl, if_pos rfl, ← hσ.2.1, rC_l hk8]
    · unfold X9_thing
      simp only [bnS]
      rw [p9 σ hσ, Option.bind_some, if_neg oneF, hin, Option.bind_some, if_neg oneF]
      show (if inb (24 + nI k) 37 = true then some (gi (wi σ 149 0 0) 153 (24 + nI k).toNatClampNeg, wi σ 149 0 0) else none) = _
      rw [show (24 : Int32) + nI k = nI (24 + k) from nI_add 24 k, i37 24 (by omega), clI (by omega), if_pos rfl, v9 σ hσ _ (by omega)]
  · refine key (if hb (A.2.1 32) k = true then 0 else bun A.2.1 k) (fun σ hσ => ?_) (fun σ hσ => ?_)
    · unfold X8_thing
      rw [p8 σ hσ, Option.bind_some, if_neg oneF]
      show ((X5_isGone N 19 (nI k) σ).bind fun r24 => (if r24 = 0 then ((X5_bundleOf N 19 (nI k) σ).bind fun r27 => (some (r27, σ))) else (some (0, σ)))) = _
      rw [isGone_b N 19 (by omega), Option.bind_some, show gi σ 19 4 = A.2.1 32 from congrFun hσ.2.1 32, bundleOf_s (by omega) (by rw [hσ.2.1]; exact hA.1.1) hk8, hσ.2.1]
      cases hb (A.2.1 32) k <;> rfl
    · unfold X9_thing
      simp only [bnS]
      rw [p9 σ hσ, Option.bind_some, if_neg oneF, hin, Option.bind_some, if_neg oneF]
      show ((X9_bundle N 153 (nI k) (wi σ 149 0 0)).bind fun r => (some (r, wi σ 149 0 0))) = _
      rw [bundle_r (by omega) (hσ.1.fr (thrown_f σ 0) (by decide)).1 (by rw [r9 σ hσ]; exact hA.1.1) hk, r9 σ hσ]
      rfl
theorem row_c (N : Nat) {H : Nat} {A : Ab} (hA : OkA H A) {i : Nat} (hi : i < A.2.2.2.1.length) {σ : Sg} (hσ : InvC σ A) : X8_row N (nI i) σ = some (A.2.2.2.1.getD i 0, σ) := by
  have h10 := hA.2.2.1
  unfold X8_row
  rw [if_neg (nI_pos (by omega)), hσ.2.2.2.1.1, if_neg (n_le hi (by omega)), if_pos (show nI i < 10 from nI_lt (b := 10) (by omega) (by decide)), inbI (show i < 10 by omega) (by omega), clI (by omega), if_pos rfl, hσ.2.2.2.1.2 i hi]
theorem row_r (N : Nat) {H : Nat} {A : Ab} (hA : OkA H A) {i : Nat} (hi : i < A.2.2.2.1.length) {σ : Sg} (hσ : InvR σ A) : X9_row N (nI i) σ = some (A.2.2.2.1.getD i 0, wi σ 149 0 0) := by
  have h10 := hA.2.2.1
  have f0 := thrown_f σ 0
  have t0 := hσ.2.2.2.1.fr f0 (by decide)
  obtain ⟨m, hm⟩ : ∃ m, A.2.2.2.1.length = m + 1 := ⟨A.2.2.2.1.length - 1, by omega⟩
  unfold X9_row
  simp only [bnS]
  rw [t0.1, hm, nI_pred, in11 N (hi := nI m) rfl (nI_pos (by omega)) (nI_le (by omega) (by omega)), Option.bind_some, if_neg oneF, inbI (show i < 24 by omega) (by omega), clI (by omega), if_pos rfl, t0.2 i hi]
/-- row refuses -/
theorem row_no (N : Nat) {H : Nat} {A : Ab} (hA : OkA H A) {v : Int32} (h : v < 0 ∨ nI A.2.2.2.1.length ≤ v) {σ : Sg} (hσ : InvR σ A) : X9_row N v σ = some (0, wi (wi σ 149 0 0) 149 0 1) := by
  have h10 := hA.2.2.1
  have t0 := hσ.2.2.2.1.fr (thrown_f σ 0) (by decide)
  unfold X9_row
  simp only [bnS]
  rw [t0.1, in01 N (hi := nI A.2.2.2.1.length - 1) rfl (by
    rcases h with h | h
    · exact Or.inl h
    · by_cases q : v < 0
      · exact Or.inl q
      · right
        obtain ⟨j, hj, rfl⟩ := nI_of q
        have hle := (nI_leI (show A.2.2.2.1.length < 2 ^ 31 by omega) hj).mp h
        cases hx : A.2.2.2.1.length with
        | zero => exact Int32.lt_of_lt_of_le (show nI 0 - 1 < 0 by decide) (Int32.not_lt.mp q)
        | succ m => rw [nI_pred]; exact nI_lt (by omega) hj), Option.bind_some, if_pos rfl]
