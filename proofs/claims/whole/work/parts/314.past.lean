/-! ===== the class's ring of states ===== -/
theorem l30 : ∀ x, x < 16 → L30.getD x none = some (31 + 5 * x) ∧ isState (31 + 5 * x) = true := by decide +kernel
theorem a15 : ∀ x, x < 16 → nI x &&& 15 = nI x ∧ (nI x + 1) &&& 15 = nI ((x + 1) % 16) ∧ (nI x - 1) &&& 15 = nI ((x + 15) % 16) := by decide +kernel
def stP : List Nat := List.range' 30 81
theorem stP_in {k : Nat} (h : 30 ≤ k) (h2 : k < 111) : k ∈ stP := by unfold stP; rw [List.mem_range']; exact ⟨k - 30, by omega, by omega⟩
theorem draw_c {N : Nat} (hN : 8 < N) {σ : Sg} {p : List (Nat → Int32)} {x : Nat} (h : PaX σ p x) (hp : p.length ≤ 15) : ∃ σ', X1_draw N 19 σ = some σ' ∧ PaX σ' p x ∧ rC σ' (31 + 5 * x) = rC σ 19 ∧ Fr stP σ σ' := by
  obtain ⟨a, b, c, d⟩ := h
  obtain ⟨σ', e1, e2, e3⟩ := become_c hN (k0 := 31 + 5 * x) (k1 := 19) (by omega) (by omega) σ
  have f : Fr stP σ σ' := e3.mono (by intro k hk; unfold S5 at hk; simp at hk; exact stP_in (by omega) (by omega))
  have hk : ∀ k, k < 31 + 5 * x ∨ 31 + 5 * x + 5 ≤ k → 29 ≤ k → k < 111 → gi σ' k = gi σ k := fun k h1 h2 h3 => e3.r (fun j => by
    have : pl k j = k := by unfold pl; rw [if_neg (by omega), if_neg (by omega), if_neg (by omega)]
    rw [this]; unfold S5; simp; omega)
  refine ⟨σ', ?_, ⟨a, ?_, ?_, fun i hi => ?_⟩, e2, f⟩
  · unfold X1_draw
    rw [b, (a15 x a).1, inbI a (by omega), clI (by omega), (l30 x a).1, Option.bind_some, (l30 x a).2, e1]
    rfl
  · rw [hk 29 (by omega) (by omega) (by omega)]; exact b
  · rw [hk 29 (by omega) (by omega) (by omega)]; exact c
  · rw [← d i hi]
    have hm : (x + 15 - i) % 16 ≠ x := by omega
    have hm2 : (x + 15 - i) % 16 < 16 := Nat.mod_lt _ (by omega)
    generalize (x + 15 - i) % 16 = y at *
    exact rC_congr (hk _ (by omega) (by omega) (by omega)) (hk _ (by omega) (by omega) (by omega)) (hk _ (by omega) (by omega) (by omega)) (hk _ (by omega) (by omega) (by omega)) (hk _ (by omega) (by omega) (by omega))
theorem commit_c (N : Nat) {σ : Sg} {p : List (Nat → Int32)} {x : Nat} (h : PaX σ p x) (hp : p.length ≤ 15) {r : Nat → Int32} (hr : rC σ (31 + 5 * x) = r) : ∃ σ', X1_commit N σ = some σ' ∧ PaX σ' ((r :: p).take 15) ((x + 1) % 16) ∧ Fr [29] σ σ' := by
  obtain ⟨a, b, c, d⟩ := h
  have hlen : ((r :: p).take 15).length = if p.length < 15 then p.length + 1 else 15 := by
    rw [List.length_take, List.length_cons]
    by_cases q : p.length < 15
    · rw [if_pos q]; omega
    · rw [if_neg q]; omega
  have emin : (if (15 : Int32) < nI p.length + 1 then (15 : Int32) else nI p.length + 1) = nI ((r :: p).take 15).length := by
    rw [hlen, nI1]
    by_cases q : p.length < 15
    · rw [if_pos q, if_neg (show ¬ (15 : Int32) < nI (p.length + 1) from nI_nlt (b := p.length + 1) (a := 15) (by omega) (by decide))]
    · rw [if_neg q, show p.length = 15 by omega]; decide
  refine ⟨wi (wi σ 29 1 (nI ((x + 1) % 16))) 29 2 (nI ((r :: p).take 15).length), ?_, ⟨Nat.mod_lt _ (by omega), ?_, ?_, fun i hi => ?_⟩, ((Fr.refl _ _).wi (by simp [pl])).wi (by simp [pl])⟩
  · unfold X1_commit
    simp only [bnS]
    rw [b, (a15 x a).2.1, giw, if_neg (by omega), c, min_b, Option.bind_some, emin]
  · rw [giw, if_neg (by omega), giw, if_pos ⟨rfl, rfl⟩]
  · rw [giw, if_pos ⟨rfl, rfl⟩]
  · have hi15 : i < 15 := by rw [hlen] at hi; split at hi <;> omega
    rw [getD_take _ _ _ _ hi15]
    have hk : ∀ k, k ≠ 29 → gi (wi (wi σ 29 1 (nI ((x + 1) % 16))) 29 2 (nI ((r :: p).take 15).length)) k = gi σ k := fun k q => (gi_wi_ne q).trans (gi_wi_ne q)
    rw [rC_congr (hk _ (by omega)) (hk _ (by omega)) (hk _ (by omega)) (hk _ (by omega)) (hk _ (by omega))]
    cases i with
    | zero =>
      rw [show ((x + 1) % 16 + 15 - 0) % 16 = x by omega]
      simpa using hr
    | succ i =>
      have hip : i < p.length := by rw [hlen] at hi; split at hi <;> omega
      rw [show ((x + 1) % 16 + 15 - (i + 1)) % 16 = (x + 15 - i) % 16 by omega, d i hip]
      simp
theorem bringBack_c {N : Nat} (hN : 8 < N) {σ : Sg} {r : Nat → Int32} {p : List (Nat → Int32)} {x : Nat} (h : PaX σ (r :: p) x) (hp : p.length ≤ 14) : ∃ σ', X1_bringBack N 19 σ = some (nI p.length, σ') ∧ PaX σ' p ((x + 15) % 16) ∧ rC σ' 19 = r ∧ Fr [29, 19, 20, 21, 22, 23] σ σ' := by
  obtain ⟨a, b, c, d⟩ := h
  have hx : (x + 15) % 16 < 16 := Nat.mod_lt _ (by omega)
  have hlen : (r :: p).length = p.length + 1 := rfl
  rw [hlen] at c
  obtain ⟨σ', e1, e2, e3⟩ := become_c hN (k0 := 19) (k1 := 31 + 5 * ((x + 15) % 16)) (by omega) (by omega) (wi (wi σ 29 1 (nI ((x + 15) % 16))) 29 2 (nI p.length))
  have hk0 : ∀ k, k ≠ 29 → gi (wi (wi σ 29 1 (nI ((x + 15) % 16))) 29 2 (nI p.length)) k = gi σ k := fun k q => (gi_wi_ne q).trans (gi_wi_ne q)
  have h29 : gi σ' 29 = gi (wi (wi σ 29 1 (nI ((x + 15) % 16))) 29 2 (nI p.length)) 29 := e3.r (fun j => by simp [pl, S5])
  have hk : ∀ k, 31 ≤ k → k < 111 → gi σ' k = gi σ k := fun k h2 h3 => (e3.r (fun j => by
    have : pl k j = k := by unfold pl; rw [if_neg (by omega), if_neg (by omega), if_neg (by omega)]
    rw [this]; unfold S5; simp; omega)).trans (hk0 k (by omega))
  refine ⟨σ', ?_, ⟨hx, ?_, ?_, fun i hi => ?_⟩, ?_, ?_⟩
  · unfold X1_bringBack
    rw [c, if_neg (nI_ne0 (by omega) (by omega)), b, (a15 x a).2.2]
    simp only [bnS]
    rw [show gi (wi σ 29 1 (nI ((x + 15) % 16))) 29 2 = nI (p.length + 1) by rw [giw, if_neg (by omega)]; exact c, nI_pred, show gi (wi (wi σ 29 1 (nI ((x + 15) % 16))) 29 2 (nI p.length)) 29 1 = nI ((x + 15) % 16) by rw [giw, if_neg (by omega), giw, if_pos ⟨rfl, rfl⟩], inbI hx (by omega), clI (by omega), (l30 _ hx).1, Option.bind_some, (l30 _ hx).2, e1, if_pos rfl, if_pos rfl, Option.bind_some, h29, giw, if_pos ⟨rfl, rfl⟩]
  · rw [h29, giw, if_neg (by omega), giw, if_pos ⟨rfl, rfl⟩]
  · rw [h29, giw, if_pos ⟨rfl, rfl⟩]
  · have hm := Nat.mod_lt ((x + 15) % 16 + 15 - i) (show 16 > 0 by omega)
    rw [rC_congr (hk _ (by omega) (by omega)) (hk _ (by omega) (by omega)) (hk _ (by omega) (by omega)) (hk _ (by omega) (by omega)) (hk _ (by omega) (by omega))]
    have := d (i + 1) (by rw [hlen]; omega)
    rw [show ((x + 15) % 16 + 15 - i) % 16 = (x + 15 - (i + 1)) % 16 by omega, this]
    simp
  · rw [e2, rC_congr (hk0 _ (by omega)) (hk0 _ (by omega)) (hk0 _ (by omega)) (hk0 _ (by omega)) (hk0 _ (by omega))]
    have := d 0 (by rw [hlen]; omega)
    rw [show (x + 15 - 0) % 16 = (x + 15) % 16 by omega] at this
    rw [this]; rfl
  · refine Fr.trans ?_ (e3.mono (by unfold S5; decide))
    exact ((Fr.refl _ _).wi (by simp [pl])).wi (by simp [pl])
theorem undo_r {N : Nat} (hN : 37 < N) {σ : Sg} {r : Nat → Int32} {p : List (Nat → Int32)} (h : PaR σ (r :: p)) (hp : p.length ≤ 14) : ∃ σ', X9_undo N σ = some (nI p.length, σ') ∧ PaR σ' p ∧ rR σ' 153 = r ∧ Fr [3000, 3023, 153] σ σ' := by
  have hlen : (r :: p).length = p.length + 1 := rfl
  have c := h.1
  rw [hlen] at c
  unfold X9_undo
  simp only [bnS]
  rw [show gi (wi σ 149 0 0) 149 23 = nI (p.length + 1) by rw [giw, if_neg (by omega)]; exact c, if_neg (nI_ne0 (by omega) (by omega)), nI_pred]
  have f0 : Fr [3000, 3023, 153] σ (wi (wi σ 149 0 0) 149 23 (nI p.length)) := ((Fr.refl _ _).wi (by simp [pl])).wi (by simp [pl])
  have e23 : gi (wi (wi σ 149 0 0) 149 23 (nI p.length)) 149 23 = nI p.length := by rw [giw, if_pos ⟨rfl, rfl⟩]
  have e161 : ∀ a, Fr [3000, 3023, 153] σ a → gi a 161 = gi σ 161 := fun a f => f.r (by simp [pl])
  generalize wi (wi σ 149 0 0) 149 23 (nI p.length) = σ1 at *
  refine forL0 (L := fun m i a => X9_undo_l26 N m (nI i) a) (m := 37) (a := σ1) (fun i a => Fr [3000, 3023, 153] σ a ∧ gi a 149 23 = nI p.length ∧ ∀ j, j < i → gi a 153 j = gi σ 161 (37 * p.length + j)) (o := fun x => ∃ σ', x = some (nI p.length, σ') ∧ PaR σ' p ∧ rR σ' 153 = r ∧ Fr [3000, 3023, 153] σ σ') hN ⟨f0, e23, fun j hj => absurd hj (Nat.not_lt_zero _)⟩ ?_ ?_
  · intro m i a hi hI
    obtain ⟨f, g0, g⟩ := hI
    left
    refine ⟨wi a 153 i (gi σ 161 (37 * p.length + i)), ⟨f.wi (by simp [pl]), by rw [gi_wi_ne (by omega)]; exact g0, fun j hj => ?_⟩, ?_⟩
    · rw [giw]
      by_cases q : j = i
      · rw [if_pos ⟨rfl, q⟩, q]
      · rw [if_neg (fun z => q z.2)]; exact g j (by omega)
    · rw [X9_undo_l26, if_neg (c37 hi), g0, show (37 : Int32) * nI p.length = nI (37 * p.length) from pk_mul 37 _, nI_add, inbI hi (by omega), inbI (show 37 * p.length + i < 592 by omega) (by omega), clI (show i < 2147483648 by omega), clI (by omega), e161 a f, nI1]
      rfl
  · intro m a hI
    obtain ⟨f, g0, g⟩ := hI
    refine ⟨a, by rw [X9_undo_l26, if_pos c37', g0], ⟨g0, fun i hi => ?_⟩, ?_, f⟩
    · rw [rW_congr (e161 a f)]
      have := h.2 (i + 1) (by rw [hlen]; omega)
      rw [hlen] at this
      rw [show p.length - 1 - i = p.length + 1 - 1 - (i + 1) by omega, this]
      simp
    · have := h.2 0 (by rw [hlen]; omega)
      rw [hlen, show p.length + 1 - 1 - 0 = p.length by omega] at this
      rw [show r = (r :: p).getD 0 r0 from rfl, ← this]
      funext j
      unfold rR rW
      by_cases q : j < 37
      · rw [if_pos q, if_pos q]; exact g j q
      · rw [if_neg q, if_neg q]
