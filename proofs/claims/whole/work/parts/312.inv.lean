/-! ===== is a thing: both sides ===== -/
theorem i64_le {x y : Int32} : x.toInt64 ≤ y.toInt64 ↔ x ≤ y := by rw [Int64.le_iff_toInt_le, Int32.le_iff_toInt_le, Int32.toInt_toInt64, Int32.toInt_toInt64]
theorem i64_lt {x y : Int32} : x.toInt64 < y.toInt64 ↔ x < y := by rw [Int64.lt_iff_toInt_lt, Int32.lt_iff_toInt_lt, Int32.toInt_toInt64, Int32.toInt_toInt64]
theorem in_t (N : Nat) {v lo hi : Int32} (h1 : lo ≤ v) (h2 : v ≤ hi) (σ : Sg) : X9_in N v.toInt64 lo.toInt64 hi.toInt64 σ = some 1 := by
  unfold X9_in
  rw [if_neg (fun q => absurd (i64_lt.mp ((lg_cmp_lt _ _).mp q)) (Int32.not_lt.mpr h1)), if_neg (fun q => absurd (i64_lt.mp ((lg_cmp_gt _ _).mp q)) (Int32.not_lt.mpr h2))]
theorem in_f (N : Nat) {v lo hi : Int32} (h : v < lo ∨ hi < v) (σ : Sg) : X9_in N v.toInt64 lo.toInt64 hi.toInt64 σ = some 0 := by
  unfold X9_in
  by_cases q : v < lo
  · rw [if_pos ((lg_cmp_lt _ _).mpr (i64_lt.mpr q))]
  · rcases h with h | h
    · exact absurd h q
    · rw [if_neg (fun z => q (i64_lt.mp ((lg_cmp_lt _ _).mp z))), if_pos ((lg_cmp_gt _ _).mpr (i64_lt.mpr h))]
/-- a number that is a thing, or none -/
theorem thing_or {n : Nat} (h8 : n ≤ 8) (v : Int32) : (∃ k, k < n ∧ v = nI k) ∨ (v < 0 ∨ nI n ≤ v) := by
  rcases pk_ix v (show n < 2 ^ 31 by omega) with h | h | h
  · exact Or.inr (Or.inl h)
  · exact Or.inr (Or.inr h)
  · exact Or.inl h
theorem isThing_t (N : Nat) {σ : Sg} {n : Nat} (hn : gi σ 5 1 = nI n) (h8 : n ≤ 8) {k : Nat} (hk : k < n) : X0_isThing N (nI k) σ = some 1 := by
  unfold X0_isThing
  rw [if_neg (nI_pos (by omega)), hn, if_neg (n_le hk (by omega)), if_neg (c8 (by omega))]
theorem isThing_f (N : Nat) {σ : Sg} {n : Nat} (hn : gi σ 5 1 = nI n) {v : Int32} (h : v < 0 ∨ nI n ≤ v) : X0_isThing N v σ = some 0 := by
  unfold X0_isThing
  by_cases q : v < 0
  · rw [if_pos q]
  · rcases h with h | h
    · exact absurd h q
    · rw [if_neg q, hn, if_pos h]
theorem isThingR_t (N : Nat) {σ : Sg} {n : Nat} (hn : gi σ 149 3 = nI n) (h8 : n ≤ 8) {k : Nat} (hk : k < n) : X9_isThing N (nI k) σ = some 1 := by
  unfold X9_isThing
  rw [hn]
  obtain ⟨m, rfl⟩ : ∃ m, n = m + 1 := ⟨n - 1, by omega⟩
  rw [nI_pred, show (0 : Int64) = (0 : Int32).toInt64 from rfl, in_t N (nI_pos' (by omega)) (nI_le (by omega) (by omega))]
  rfl
theorem isThingR_f (N : Nat) {σ : Sg} {n : Nat} (hn : gi σ 149 3 = nI n) (h8 : n ≤ 8) {v : Int32} (h : v < 0 ∨ nI n ≤ v) : X9_isThing N v σ = some 0 := by
  unfold X9_isThing
  rw [hn, show (0 : Int64) = (0 : Int32).toInt64 from rfl, in_f N (by
    rcases h with h | h
    · exact Or.inl h
    · by_cases q : v < 0
      · exact Or.inl q
      · right
        obtain ⟨j, hj, rfl⟩ := nI_of q
        cases n with
        | zero => exact Int32.lt_of_lt_of_le (show nI 0 - 1 < 0 by decide) (Int32.not_lt.mp q)
        | succ m =>
          rw [nI_pred]
          have := (nI_leI (show m + 1 < 2 ^ 31 by omega) hj).mp h
          exact nI_lt (by omega) hj)]
  rfl
theorem isHere_b (N : Nat) {k1 : Nat} {σ : Sg} {n : Nat} (hn : gi σ 149 3 = nI n) (h8 : n ≤ 8) {k : Nat} (hk : k < n) : X9_isHere N k1 (nI k) σ = some (if hb (rR σ k1 32) k = true then 0 else 1) := by
  unfold X9_isHere
  rw [isThingR_t N hn h8 hk, Option.bind_some, if_neg oneF, if_pos i37_32, cl32, has_b N _ (by omega), Option.bind_some]
  by_cases q : hb (rR σ k1 32) k = true
  · rw [if_pos q, if_pos (show hb (gi σ k1 32) k = true from q), if_neg oneF]
  · rw [if_neg q, if_neg (show ¬ hb (gi σ k1 32) k = true from q), if_pos rfl]
/-! ===== what both sides keep ===== -/
def r0 : Nat → Int32 := fun _ => 0
/-- land; now; the text; the row that is told; states that undo brings back, the youngest first; the shelf; notes -/
abbrev Ab : Type := Ld × (Nat → Int32) × List Nat × List Int64 × List (Nat → Int32) × (Nat → Option (Nat → Int32)) × List (Nat × Nat × Nat)
def rW (σ : Sg) (k b : Nat) : Nat → Int32 := fun j => if j < 37 then gi σ k (37 * b + j) else 0
def RuC (σ : Sg) (L : Ld) : Prop := ∃ k2, gi σ 5 2 = nI k2 ∧ gi σ 5 3 = nI (18 - k2) ∧ LC σ k2 L
def TxC (σ : Sg) (t : List Nat) : Prop := gi σ 1 1 = nI t.length ∧ ∀ i, i < t.length → gi σ 2 i = nI (t.getD i 0)
def TxR (σ : Sg) (t : List Nat) : Prop := gi σ 149 11 = nI t.length ∧ ∀ i, i < t.length → gi σ 155 i = nI (t.getD i 0)
def ToC (σ : Sg) (l : List Int64) : Prop := gi σ 3 1 = nI l.length ∧ ∀ i, i < l.length → gl σ 4 i = l.getD i 0
def ToR (σ : Sg) (l : List Int64) : Prop := gi σ 149 1 = nI l.length ∧ ∀ i, i < l.length → gl σ 150 i = l.getD i 0
def PaX (σ : Sg) (p : List (Nat → Int32)) (x : Nat) : Prop := x < 16 ∧ gi σ 29 1 = nI x ∧ gi σ 29 2 = nI p.length ∧ ∀ i, i < p.length → rC σ (31 + 5 * ((x + 15 - i) % 16)) = p.getD i r0
def PaC (σ : Sg) (p : List (Nat → Int32)) : Prop := ∃ x, PaX σ p x
def PaR (σ : Sg) (p : List (Nat → Int32)) : Prop := gi σ 149 23 = nI p.length ∧ ∀ i, i < p.length → rW σ 161 (p.length - 1 - i) = p.getD i r0
def ShC (σ : Sg) (s : Nat → Option (Nat → Int32)) : Prop := ∀ i, i < 3 → hb (gi σ 111 1) i = (s i).isSome ∧ ∀ r, s i = some r → rC σ (113 + 5 * i) = r
def ShR (σ : Sg) (n : Nat) (s : Nat → Option (Nat → Int32)) : Prop := ∃ ch, ch ≤ n ∧ gi σ 149 4 = nI ch ∧ ∀ i, i < 3 → (gi σ 177 i = 0 ∨ gi σ 177 i = 1) ∧ ((s i).isSome = true ↔ gi σ 177 i = 1 ∧ gi σ 178 i = nI ch) ∧ (∃ a, a ≤ ch ∧ gi σ 178 i = nI a) ∧ ∀ r, s i = some r → rW σ 179 i = r
def NoC (σ : Sg) (w : List (Nat × Nat × Nat)) : Prop := gi σ 128 3 = nI w.length ∧ ∀ i, i < w.length → gi σ 129 i = nI (w.getD i (0, 0, 0)).1 ∧ gi σ 130 i = nI (w.getD i (0, 0, 0)).2.1 ∧ gi σ 131 i = nI (w.getD i (0, 0, 0)).2.2
def NoR (σ : Sg) (w : List (Nat × Nat × Nat)) : Prop := gi σ 149 35 = nI w.length ∧ ∀ i, i < w.length → gi σ 169 i = nI (w.getD i (0, 0, 0)).1 ∧ gi σ 170 i = nI (w.getD i (0, 0, 0)).2.1 ∧ gi σ 171 i = nI (w.getD i (0, 0, 0)).2.2
def InvC (σ : Sg) (A : Ab) : Prop := RuC σ A.1 ∧ rC σ 19 = A.2.1 ∧ TxC σ A.2.2.1 ∧ ToC σ A.2.2.2.1 ∧ PaC σ A.2.2.2.2.1 ∧ ShC σ A.2.2.2.2.2.1 ∧ NoC σ A.2.2.2.2.2.2
def InvR (σ : Sg) (A : Ab) : Prop := LR σ A.1 ∧ rR σ 153 = A.2.1 ∧ TxR σ A.2.2.1 ∧ ToR σ A.2.2.2.1 ∧ PaR σ A.2.2.2.2.1 ∧ ShR σ A.1.1 A.2.2.2.2.2.1 ∧ NoR σ A.2.2.2.2.2.2
def OkA (H : Nat) (A : Ab) : Prop := WF A.1.1 9 H A.2.1 ∧ (A.2.2.1.length ≤ 80 ∧ ∀ x ∈ A.2.2.1, x < 256) ∧ A.2.2.2.1.length ≤ 10 ∧ (A.2.2.2.2.1.length ≤ 15 ∧ ∀ r ∈ A.2.2.2.2.1, WF A.1.1 9 H r) ∧ (∀ i r, i < 3 → A.2.2.2.2.2.1 i = some r → WF A.1.1 9 H r) ∧ (A.2.2.2.2.2.2.length ≤ 10 ∧ ∀ w ∈ A.2.2.2.2.2.2, w.1 < A.1.1 ∧ w.2.1 ≤ 20 ∧ w.2.2 ≤ 1)
section FR
variable {σ σ' : Sg} {l : List Nat}
theorem RuC.fr {L : Ld} (h : RuC σ L) (f : Fr l σ σ') (hl : ∀ x ∈ [2001, 2008, 6, 17, 7, 8, 11, 12, 2002, 2003], x ∉ l) : RuC σ' L := by
  obtain ⟨k2, a, b, c⟩ := h
  exact ⟨k2, (f.g (k := 5) (j := 2) (hl 2002 (by decide))).trans a, (f.g (k := 5) (j := 3) (hl 2003 (by decide))).trans b, c.fr f (fun x hx => hl x (by simp at hx ⊢; omega))⟩
theorem TxC.fr {t : List Nat} (h : TxC σ t) (f : Fr l σ σ') (hl : ∀ x ∈ [1, 2], x ∉ l) : TxC σ' t := ⟨(f.g (k := 1) (hl 1 (by decide))).trans h.1, fun i hi => (f.g (k := 2) (hl 2 (by decide))).trans (h.2 i hi)⟩
theorem TxR.fr {t : List Nat} (h : TxR σ t) (f : Fr l σ σ') (hl : ∀ x ∈ [3011, 155], x ∉ l) : TxR σ' t := ⟨(f.g (k := 149) (j := 11) (hl 3011 (by decide))).trans h.1, fun i hi => (f.g (k := 155) (hl 155 (by decide))).trans (h.2 i hi)⟩
theorem ToC.fr {t : List Int64} (h : ToC σ t) (f : Fr l σ σ') (hl : ∀ x ∈ [3, 4], x ∉ l) : ToC σ' t := ⟨(f.g (k := 3) (hl 3 (by decide))).trans h.1, fun i hi => ((f 4 i (hl 4 (by decide))).2).trans (h.2 i hi)⟩
theorem ToR.fr {t : List Int64} (h : ToR σ t) (f : Fr l σ σ') (hl : ∀ x ∈ [3001, 150], x ∉ l) : ToR σ' t := ⟨(f.g (k := 149) (j := 1) (hl 3001 (by decide))).trans h.1, fun i hi => ((f 150 i (hl 150 (by decide))).2).trans (h.2 i hi)⟩
def paL : List Nat := List.range' 29 82
theorem paL_in {k : Nat} (h : 29 ≤ k) (h2 : k < 111) : k ∈ paL := by unfold paL; rw [List.mem_range']; exact ⟨k - 29, by omega, by omega⟩
theorem PaX.fr {p : List (Nat → Int32)} {x : Nat} (h : PaX σ p x) (f : Fr l σ σ') (hl : ∀ x ∈ paL, x ∉ l) : PaX σ' p x := by
  obtain ⟨a, b, c, d⟩ := h
  have hk : ∀ k, 29 ≤ k → k < 111 → gi σ' k = gi σ k := fun k h1 h2 => f.r (fun j => by
    have : pl k j = k := by unfold pl; rw [if_neg (by omega), if_neg (by omega), if_neg (by omega)]
    rw [this]
    exact hl k (paL_in h1 h2))
  refine ⟨a, by rw [hk 29 (by omega) (by omega)]; exact b, by rw [hk 29 (by omega) (by omega)]; exact c, fun i hi => ?_⟩
  have := Nat.mod_lt (x + 15 - i) (show 16 > 0 by omega)
  rw [← d i hi]
  exact rC_congr (hk _ (by omega) (by omega)) (hk _ (by omega) (by omega)) (hk _ (by omega) (by omega)) (hk _ (by omega) (by omega)) (hk _ (by omega) (by omega))
theorem PaC.fr {p : List (Nat → Int32)} (h : PaC σ p) (f : Fr l σ σ') (hl : ∀ x ∈ paL, x ∉ l) : PaC σ' p := by
  obtain ⟨x, h⟩ := h
  exact ⟨x, h.fr f hl⟩
theorem rW_congr {k b : Nat} (h : gi σ' k = gi σ k) : rW σ' k b = rW σ k b := by unfold rW; rw [h]
theorem PaR.fr {p : List (Nat → Int32)} (h : PaR σ p) (f : Fr l σ σ') (hl : ∀ x ∈ [3023, 161], x ∉ l) : PaR σ' p := ⟨(f.g (k := 149) (j := 23) (hl 3023 (by decide))).trans h.1, fun i hi => (rW_congr (f.r (k := 161) (fun _ => hl 161 (by decide)))).trans (h.2 i hi)⟩
def shL : List Nat := List.range' 111 17
theorem ShC.fr {s : Nat → Option (Nat → Int32)} (h : ShC σ s) (f : Fr l σ σ') (hl : ∀ x ∈ shL, x ∉ l) : ShC σ' s := by
  have hk : ∀ k, 111 ≤ k → k < 128 → gi σ' k = gi σ k := fun k h1 h2 => f.r (fun j => by
    have : pl k j = k := by unfold pl; rw [if_neg (by omega), if_neg (by omega), if_neg (by omega)]
    rw [this]
    exact hl k (by unfold shL; rw [List.mem_range']; exact ⟨k - 111, by omega, by omega⟩))
  intro i hi
  refine ⟨by rw [hk 111 (by omega) (by omega)]; exact (h i hi).1, fun r hr => ?_⟩
  rw [← (h i hi).2 r hr]
  exact rC_congr (hk _ (by omega) (by omega)) (hk _ (by omega) (by omega)) (hk _ (by omega) (by omega)) (hk _ (by omega) (by omega)) (hk _ (by omega) (by omega))
theorem ShR.fr {n : Nat} {s : Nat → Option (Nat → Int32)} (h : ShR σ n s) (f : Fr l σ σ') (hl : ∀ x ∈ [3004, 177, 178, 179], x ∉ l) : ShR σ' n s := by
  obtain ⟨ch, a, b, c⟩ := h
  have e1 : gi σ' 177 = gi σ 177 := f.r (fun _ => hl 177 (by decide))
  have e2 : gi σ' 178 = gi σ 178 := f.r (fun _ => hl 178 (by decide))
  have e3 : gi σ' 179 = gi σ 179 := f.r (fun _ => hl 179 (by decide))
  refine ⟨ch, a, (f.g (k := 149) (j := 4) (hl 3004 (by decide))).trans b, fun i hi => ?_⟩
  rw [e1, e2]
  exact ⟨(c i hi).1, (c i hi).2.1, (c i hi).2.2.1, fun r hr => (rW_congr e3).trans ((c i hi).2.2.2 r hr)⟩
theorem NoC.fr {w : List (Nat × Nat × Nat)} (h : NoC σ w) (f : Fr l σ σ') (hl : ∀ x ∈ [4003, 129, 130, 131], x ∉ l) : NoC σ' w := ⟨(f.g (k := 128) (j := 3) (hl 4003 (by decide))).trans h.1, fun i hi => by
  rw [f.g (k := 129) (hl 129 (by decide)), f.g (k := 130) (hl 130 (by decide)), f.g (k := 131) (hl 131 (by decide))]
  exact h.2 i hi⟩
theorem NoR.fr {w : List (Nat × Nat × Nat)} (h : NoR σ w) (f : Fr l σ σ') (hl : ∀ x ∈ [3035, 169, 170, 171], x ∉ l) : NoR σ' w := ⟨(f.g (k := 149) (j := 35) (hl 3035 (by decide))).trans h.1, fun i hi => by
  rw [f.g (k := 169) (hl 169 (by decide)), f.g (k := 170) (hl 170 (by decide)), f.g (k := 171) (hl 171 (by decide))]
  exact h.2 i hi⟩
def inC : List Nat := [2001, 2008, 6, 17, 7, 8, 11, 12, 2002, 2003, 19, 20, 21, 22, 23, 1, 2, 3, 4, 4003, 129, 130, 131] ++ paL ++ shL
def inR : List Nat := [3003, 3005, 3019, 151, 152, 157, 153, 3011, 155, 3001, 150, 3023, 161, 3004, 177, 178, 179, 3035, 169, 170, 171]
theorem InvC.fr {A : Ab} (h : InvC σ A) (f : Fr l σ σ') (hl : ∀ x ∈ l, x ∉ inC) : InvC σ' A := by
  have hs : ∀ s : List Nat, (∀ x ∈ s, x ∈ inC) → ∀ x ∈ s, x ∉ l := fun s hs x hx q => hl x q (hs x hx)
  have q1 : ∀ x ∈ paL, x ∈ inC := fun x hx => by unfold inC; simp [hx]
  have q2 : ∀ x ∈ shL, x ∈ inC := fun x hx => by unfold inC; simp [hx]
  have q3 : ∀ x ∈ [2001, 2008, 6, 17, 7, 8, 11, 12, 2002, 2003, 19, 20, 21, 22, 23, 1, 2, 3, 4, 4003, 129, 130, 131], x ∈ inC := fun x hx => by
    unfold inC
    exact List.mem_append_left _ (List.mem_append_left _ hx)
  obtain ⟨a1, a2, a3, a4, a5, a6, a7⟩ := h
  refine ⟨a1.fr f (hs _ (fun x hx => q3 x (by simp at hx ⊢; omega))), (f.row19 (hs _ (fun x hx => q3 x (by simp at hx ⊢; omega)))).trans a2, a3.fr f (hs _ (fun x hx => q3 x (by simp at hx ⊢; omega))), a4.fr f (hs _ (fun x hx => q3 x (by simp at hx ⊢; omega))), a5.fr f (hs _ q1), a6.fr f (hs _ q2), a7.fr f (hs _ (fun x hx => q3 x (by simp at hx ⊢; omega)))⟩
theorem InvR.fr {A : Ab} (h : InvR σ A) (f : Fr l σ σ') (hl : ∀ x ∈ l, x ∉ inR) : InvR σ' A := by
  have hs : ∀ s : List Nat, (∀ x ∈ s, x ∈ inR) → ∀ x ∈ s, x ∉ l := fun s hs x hx q => hl x q (hs x hx)
  obtain ⟨a1, a2, a3, a4, a5, a6, a7⟩ := h
  refine ⟨a1.fr f (hs _ (by decide)), (rR_congr (f.r (k := 153) (fun _ => hs [153] (by decide) 153 (by decide)))).trans a2, a3.fr f (hs _ (by decide)), a4.fr f (hs _ (by decide)), a5.fr f (hs _ (by decide)), a6.fr f (hs _ (by decide)), a7.fr f (hs _ (by decide))⟩
end FR
