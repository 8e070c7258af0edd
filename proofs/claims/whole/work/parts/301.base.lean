/-! ===== rows of bits, of the store, of loops: for the mathematics ===== -/
theorem hb_ext {x y : Int32} (h : ∀ i, i < 32 → hb x i = hb y i) : x = y := Int32.toBitVec_inj.mp (BitVec.eq_of_getLsbD_eq (fun i hi => h i hi))
theorem hb_or (x y : Int32) (i : Nat) : hb (x ||| y) i = (hb x i || hb y i) := by unfold hb; rw [Int32.toBitVec_or, BitVec.getLsbD_or]
theorem hb_and (x y : Int32) (i : Nat) : hb (x &&& y) i = (hb x i && hb y i) := by unfold hb; rw [Int32.toBitVec_and, BitVec.getLsbD_and]
theorem hb_xor (x y : Int32) (i : Nat) : hb (x ^^^ y) i = (hb x i ^^ hb y i) := by unfold hb; rw [Int32.toBitVec_xor, BitVec.getLsbD_xor]
theorem hb_big {x : Int32} {i : Nat} (h : 32 ≤ i) : hb x i = false := BitVec.getLsbD_of_ge _ _ h
theorem hb_m1 : ∀ i, i < 32 → hb (-1) i = true := by decide +kernel
theorem hb_0 (i : Nat) : hb 0 i = false := BitVec.getLsbD_zero
theorem hb_not (x : Int32) {i : Nat} (hi : i < 32) : hb (x ^^^ (-1)) i = !hb x i := by rw [hb_xor, hb_m1 i hi]; cases hb x i <;> rfl
theorem hb_one : ∀ n, n < 32 → ∀ i, i < 32 → hb (1 <<< (nI n &&& 31)) i = decide (i = n) := by decide +kernel
def allI (n : Nat) : Int32 := (1 <<< (nI n &&& 31)) - 1
theorem hb_allI : ∀ n, n < 9 → ∀ i, i < 32 → hb (allI n) i = decide (i < n) := by decide +kernel
theorem nx_and (a b : Nat) : nI a &&& nI b = nI (a &&& b) := by
  apply Int32.toBitVec_inj.1
  show BitVec.ofNat 32 a &&& BitVec.ofNat 32 b = BitVec.ofNat 32 (a &&& b)
  apply BitVec.eq_of_getLsbD_eq
  intro i hi
  simp [hi]
theorem nx_xor (a b : Nat) : nI a ^^^ nI b = nI (a ^^^ b) := by
  apply Int32.toBitVec_inj.1
  show BitVec.ofNat 32 a ^^^ BitVec.ofNat 32 b = BitVec.ofNat 32 (a ^^^ b)
  apply BitVec.eq_of_getLsbD_eq
  intro i hi
  simp [hi]
theorem nx_or (a b : Nat) : nI a ||| nI b = nI (a ||| b) := by
  apply Int32.toBitVec_inj.1
  show BitVec.ofNat 32 a ||| BitVec.ofNat 32 b = BitVec.ofNat 32 (a ||| b)
  apply BitVec.eq_of_getLsbD_eq
  intro i hi
  simp [hi]
theorem nI_self (x : Int32) : x = nI x.toBitVec.toNat := by
  apply Int32.toBitVec_inj.1
  show x.toBitVec = BitVec.ofNat 32 x.toBitVec.toNat
  simp
theorem hb_nI {m i : Nat} (hi : i < 32) : hb (nI m) i = m.testBit i := by
  show (BitVec.ofNat 32 m).getLsbD i = m.testBit i
  rw [BitVec.getLsbD_ofNat]
  simp [hi]
theorem mask_nI {x : Int32} {n : Nat} (h : ∀ i, n ≤ i → hb x i = false) : ∃ m, m < 2 ^ n ∧ x = nI m := by
  refine ⟨x.toBitVec.toNat, ?_, nI_self x⟩
  apply Nat.lt_pow_two_of_testBit
  intro i hi
  exact h i hi
/-- how many of the first n hold -/
def cntB (f : Nat → Bool) : Nat → Nat
  | 0 => 0
  | n + 1 => cntB f n + (if f n then 1 else 0)
theorem cntB_le (f : Nat → Bool) (n : Nat) : cntB f n ≤ n := by
  induction n with
  | zero => exact Nat.le_refl _
  | succ n ih => unfold cntB; split <;> omega
theorem cntB_mono {f g : Nat → Bool} (n : Nat) (h : ∀ i, i < n → f i = true → g i = true) : cntB f n ≤ cntB g n := by
  induction n with
  | zero => exact Nat.le_refl _
  | succ n ih =>
    have := ih (fun i hi => h i (by omega))
    have h1 := h n (by omega)
    unfold cntB
    cases hf : f n <;> cases hg : g n <;> simp_all <;> omega
theorem cntB_lt {f g : Nat → Bool} (n : Nat) (h : ∀ i, i < n → f i = true → g i = true) {j : Nat} (hj : j < n) (hg : g j = true) (hf : f j = false) : cntB f n + 1 ≤ cntB g n := by
  induction n with
  | zero => omega
  | succ n ih =>
    unfold cntB
    by_cases hjn : j = n
    · subst hjn
      have := cntB_mono j (fun i hi => h i (by omega))
      simp [hf, hg]
      omega
    · have := ih (fun i hi => h i (by omega)) (by omega)
      have h1 := h n (by omega)
      cases hf' : f n <;> cases hg' : g n <;> simp_all <;> omega
theorem cntB_congr {f g : Nat → Bool} (n : Nat) (h : ∀ i, i < n → f i = g i) : cntB f n = cntB g n := by
  induction n with
  | zero => rfl
  | succ n ih => unfold cntB; rw [ih (fun i hi => h i (by omega)), h n (by omega)]
/-- the sum over those of the first n that hold -/
def sumB (f : Nat → Bool) (g : Nat → Int32) : Nat → Int32
  | 0 => 0
  | n + 1 => sumB f g n + (if f n then g n else 0)
theorem sumB_congr {f f' : Nat → Bool} {g g' : Nat → Int32} (n : Nat) (h : ∀ i, i < n → f i = f' i) (h2 : ∀ i, i < n → f i = true → g i = g' i) : sumB f g n = sumB f' g' n := by
  induction n with
  | zero => rfl
  | succ n ih =>
    unfold sumB
    rw [ih (fun i hi => h i (by omega)) (fun i hi => h2 i (by omega)), ← h n (by omega)]
    cases hf : f n
    · rfl
    · simp [h2 n (by omega) hf]
theorem sumB_cut {f : Nat → Bool} {g : Nat → Int32} {n : Nat} (m : Nat) (h : ∀ i, n ≤ i → i < n + m → f i = true → g i = 0) : sumB f g (n + m) = sumB f g n := by
  induction m with
  | zero => rfl
  | succ m ih =>
    show sumB f g (n + m) + (if f (n + m) then g (n + m) else 0) = sumB f g n
    rw [ih (fun i hi hi2 => h i hi (by omega))]
    have := h (n + m) (by omega) (by omega)
    cases hf : f (n + m)
    · simp
    · rw [this hf]; simp
theorem sumB_8 {f : Nat → Bool} {g : Nat → Int32} {n : Nat} (hn : n ≤ 8) (h : ∀ i, n ≤ i → i < 8 → f i = true → g i = 0) : sumB f g 8 = sumB f g n := by
  have := sumB_cut (f := f) (g := g) (n := n) (8 - n) (fun i hi hi2 => h i hi (by omega))
  rwa [show n + (8 - n) = 8 by omega] at this
/-- the mask of those of the first n that hold -/
def mkB (f : Nat → Bool) : Nat → Int32
  | 0 => 0
  | n + 1 => mkB f n ||| (if f n then 1 <<< (nI n &&& 31) else 0)
theorem hb_mkB (f : Nat → Bool) : ∀ n, n ≤ 32 → ∀ i, i < 32 → hb (mkB f n) i = (decide (i < n) && f i) := by
  intro n
  induction n with
  | zero => intro _ i _; unfold mkB; rw [hb_0]; simp
  | succ n ih =>
    intro hn i hi
    unfold mkB
    rw [hb_or, ih (by omega) i hi]
    cases hf : f n
    · simp only [Bool.false_eq_true, if_false, hb_0, Bool.or_false]
      by_cases h1 : i = n
      · subst h1; simp [hf]
      · by_cases h2 : i < n
        · simp [h2, Nat.lt_succ_of_lt h2]
        · simp [h2, show ¬ i < n + 1 by omega]
    · simp only [if_true]
      rw [hb_one n (by omega) i hi]
      by_cases h1 : i = n
      · subst h1; simp [hf]
      · by_cases h2 : i < n
        · simp [h1, h2, Nat.lt_succ_of_lt h2]
        · simp [h1, h2, show ¬ i < n + 1 by omega]
/-! ===== the count of bits ===== -/
def σ0 : Sg := (fun _ _ => 0, fun _ _ => 0)
def popI (v : Int32) : Int32 := (J6_bitCount_0f7a4 0 v σ0).getD 0
theorem bitCount_eq (N : Nat) (v : Int32) (σ : Sg) : J6_bitCount_0f7a4 N v σ = some (popI v) := rfl
theorem popI_256 : ∀ m, m < 256 → popI (nI m) = nI (cntB (hb (nI m)) 8) := by decide +kernel
theorem popI_eq {x : Int32} (h : ∀ i, 8 ≤ i → hb x i = false) : popI x = nI (cntB (hb x) 8) := by
  obtain ⟨m, hm, rfl⟩ := mask_nI h
  exact popI_256 m hm
/-! ===== loops ===== -/
theorem forL {α β : Type} {L : Nat → Nat → α → Option β} {m : Nat} {I : Nat → α → Prop} {o : Option β → Prop}
    (step : ∀ n i a, i < m → I i a → (∃ a', I (i + 1) a' ∧ L (n + 1) i a = L n (i + 1) a') ∨ o (L (n + 1) i a))
    (fin : ∀ n a, I m a → o (L (n + 1) m a)) : ∀ (d n i : Nat) (a : α), i + d = m → d < n → I i a → o (L n i a) := by
  intro d
  induction d with
  | zero =>
    intro n i a hd hn hI
    obtain ⟨n, rfl⟩ : ∃ k, n = k + 1 := ⟨n - 1, by omega⟩
    have : i = m := by omega
    subst this
    exact fin n a hI
  | succ d ih =>
    intro n i a hd hn hI
    obtain ⟨n, rfl⟩ : ∃ k, n = k + 1 := ⟨n - 1, by omega⟩
    rcases step n i a (by omega) hI with ⟨a', hI', he⟩ | h
    · rw [he]
      exact ih n (i + 1) a' (by omega) (by omega) hI'
    · exact h
theorem forL0 {α β : Type} {L : Nat → Nat → α → Option β} {m : Nat} (I : Nat → α → Prop) {o : Option β → Prop} {N : Nat} {a : α} (hN : m < N) (h0 : I 0 a)
    (step : ∀ n i a, i < m → I i a → (∃ a', I (i + 1) a' ∧ L (n + 1) i a = L n (i + 1) a') ∨ o (L (n + 1) i a))
    (fin : ∀ n a, I m a → o (L (n + 1) m a)) : o (L N 0 a) := forL step fin m N 0 a (Nat.zero_add m) hN h0
/-! ===== numbers ===== -/
theorem n_le {a b : Nat} (h : a < b) (hb : b < 2147483648) : ¬ nI b ≤ nI a := nI_ge h hb
theorem c8 {i : Nat} (h : i < 8) : ¬ (8 : Int32) ≤ nI i := nI_ge (b := 8) h (by decide)
theorem c8' : (8 : Int32) ≤ nI 8 := by decide
theorem inbI {i m : Nat} (h : i < m) (hm : m ≤ 2147483648) : inb (nI i) m = true := by
  unfold inb
  rw [nI_clamp (by omega)]
  simp only [Bool.and_eq_true, decide_eq_true_eq]
  exact ⟨nI_pos' (by omega), h⟩
theorem clI {i : Nat} (h : i < 2147483648) : (nI i).toNatClampNeg = i := nI_clamp h
theorem nI1 (i : Nat) : nI i + 1 = nI (i + 1) := nI_1 i
theorem has_b (N : Nat) (v : Int32) {i : Nat} (hi : i < 32) (σ : Sg) : X9_has N v (nI i) σ = some (if hb v i = true then 1 else 0) := by
  unfold X9_has
  by_cases h : hb v i = true
  · rw [if_pos ((hasT v hi).mpr h), if_pos h]
  · rw [if_neg (fun q => h ((hasT v hi).mp q)), if_neg h]
theorem isGone_b (N k : Nat) {i : Nat} (hi : i < 32) (σ : Sg) : X5_isGone N k (nI i) σ = some (if hb (gi σ k 4) i = true then 1 else 0) := by
  unfold X5_isGone
  by_cases h : hb (gi σ k 4) i = true
  · rw [if_pos ((hasT _ hi).mpr h), if_pos h]
  · rw [if_neg (fun q => h ((hasT _ hi).mp q)), if_neg h]
theorem isTied_b (N k : Nat) {a i : Nat} (ha : a < 8) (hi : i < 32) (σ : Sg) : X5_isTied N k (nI a) (nI i) σ = some (if hb (gi σ (k + 4) a) i = true then 1 else 0) := by
  unfold X5_isTied
  rw [if_pos (inbI ha (by omega)), clI (by omega)]
  by_cases h : hb (gi σ (k + 4) a) i = true
  · rw [if_pos ((hasT _ hi).mpr h), if_pos h]
  · rw [if_neg (fun q => h ((hasT _ hi).mp q)), if_neg h]
theorem oneF : ¬ (1 : Int32) = 0 := by decide
/-! ===== what a model writes: places; the fields of an object of which parts are asked apart have numbers of their own ===== -/
def pl (k j : Nat) : Nat := if k = 5 then 2000 + j else if k = 149 then 3000 + j else if k = 128 then 4000 + j else k
def Fr (l : List Nat) (σ σ' : Sg) : Prop := ∀ k j, pl k j ∉ l → gi σ' k j = gi σ k j ∧ gl σ' k j = gl σ k j
theorem Fr.refl (l : List Nat) (σ : Sg) : Fr l σ σ := fun _ _ _ => ⟨rfl, rfl⟩
theorem Fr.trans {l : List Nat} {σ σ1 σ2 : Sg} (h : Fr l σ σ1) (h2 : Fr l σ1 σ2) : Fr l σ σ2 := fun k j hk => ⟨((h2 k j hk).1).trans (h k j hk).1, ((h2 k j hk).2).trans (h k j hk).2⟩
theorem Fr.mono {l l' : List Nat} {σ σ' : Sg} (h : Fr l σ σ') (hs : ∀ k ∈ l, k ∈ l') : Fr l' σ σ' := fun k j hk => h k j (fun q => hk (hs _ q))
theorem Fr.wi {l : List Nat} {σ σ' : Sg} {k j : Nat} {x : Int32} (h : Fr l σ σ') (hk : pl k j ∈ l) : Fr l σ (wi σ' k j x) := by
  intro a b hab
  refine ⟨?_, (h a b hab).2⟩
  rw [← (h a b hab).1]
  show (if a = k then upd (σ'.1 k) j x else σ'.1 a) b = σ'.1 a b
  by_cases ha : a = k
  · subst ha
    rw [if_pos rfl]
    exact pk_un (fun q => hab (q ▸ hk))
  · rw [if_neg ha]
theorem Fr.wl {l : List Nat} {σ σ' : Sg} {k j : Nat} {x : Int64} (h : Fr l σ σ') (hk : pl k j ∈ l) : Fr l σ (wl σ' k j x) := by
  intro a b hab
  refine ⟨(h a b hab).1, ?_⟩
  rw [← (h a b hab).2]
  show (if a = k then vp_updL (σ'.2 k) j x else σ'.2 a) b = σ'.2 a b
  by_cases ha : a = k
  · subst ha
    rw [if_pos rfl]
    exact pk_uLn (fun q => hab (q ▸ hk))
  · rw [if_neg ha]
theorem Fr.g {l : List Nat} {σ σ' : Sg} (h : Fr l σ σ') {k j : Nat} (hk : pl k j ∉ l) : gi σ' k j = gi σ k j := (h k j hk).1
theorem Fr.r {l : List Nat} {σ σ' : Sg} (h : Fr l σ σ') {k : Nat} (hk : ∀ j, pl k j ∉ l) : gi σ' k = gi σ k := funext fun j => (h k j (hk j)).1
theorem giw (σ : Sg) (k j : Nat) (x : Int32) (a b : Nat) : gi (wi σ k j x) a b = if a = k ∧ b = j then x else gi σ a b := by
  show (if a = k then upd (σ.1 k) j x else σ.1 a) b = _
  by_cases ha : a = k
  · subst ha
    rw [if_pos rfl]
    by_cases hb : b = j
    · subst hb; rw [if_pos ⟨rfl, rfl⟩]; exact pk_us
    · rw [if_neg (fun q => hb q.2)]; exact pk_un hb
  · rw [if_neg ha, if_neg (fun q => ha q.1)]; rfl
theorem giwl (σ : Sg) (k j : Nat) (x : Int64) (a b : Nat) : gi (wl σ k j x) a b = gi σ a b := rfl
theorem glw (σ : Sg) (k j : Nat) (x : Int64) (a b : Nat) : gl (wl σ k j x) a b = if a = k ∧ b = j then x else gl σ a b := by
  show (if a = k then vp_updL (σ.2 k) j x else σ.2 a) b = _
  by_cases ha : a = k
  · subst ha
    rw [if_pos rfl]
    by_cases hb : b = j
    · subst hb; rw [if_pos ⟨rfl, rfl⟩]; exact pk_uLs
    · rw [if_neg (fun q => hb q.2)]; exact pk_uLn hb
  · rw [if_neg ha, if_neg (fun q => ha q.1)]; rfl
theorem glwi (σ : Sg) (k j : Nat) (x : Int32) (a b : Nat) : gl (wi σ k j x) a b = gl σ a b := rfl
