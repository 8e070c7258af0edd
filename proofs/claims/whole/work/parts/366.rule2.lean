/-! ===== the rule: runs of the class, the reader of the reference, tokens in balance ===== -/
def dL : List Nat → Nat → Option Nat
  | [], d => some d
  | t :: x, d => if tNd t ≤ d then dL x (tD d t) else none
theorem dL_app (x y : List Nat) : ∀ d, dL (x ++ y) d = (dL x d).bind (dL y) := by
  induction x with
  | nil => intro d; rfl
  | cons t x ih =>
    intro d
    show (if tNd t ≤ d then dL (x ++ y) (tD d t) else none) = (if tNd t ≤ d then dL x (tD d t) else none).bind (dL y)
    by_cases z : tNd t ≤ d
    · rw [if_pos z, if_pos z, ih]
    · rw [if_neg z, if_neg z]; rfl
def Bal (x : List Nat) : Prop := (∀ t ∈ x, tOk t) ∧ ∀ d, dL x d = some (d + 1)
def BalX (x : List Nat) : Prop := (∀ t ∈ x, tOk t) ∧ ∀ d, dL x (d + 1) = some (d + 1)
theorem Bal.one {t : Nat} (h : t < 1000 ∨ (1000 ≤ t ∧ t < 1008)) : Bal [t] := by
  refine ⟨fun x hx => ?_, fun d => ?_⟩
  · rw [List.mem_singleton.mp hx]; unfold tOk; omega
  · show (if tNd t ≤ d then some (tD d t) else none) = some (d + 1)
    have h1 : tNd t = 0 := if_pos (by omega)
    have h2 : tD d t = d + 1 := if_pos (by omega)
    rw [h1, h2, if_pos (Nat.zero_le _)]
theorem Bal.neg {x : List Nat} (h : Bal x) : Bal (x ++ [3000]) := by
  refine ⟨fun t ht => ?_, fun d => ?_⟩
  · rcases List.mem_append.mp ht with z | z
    · exact h.1 t z
    · rw [List.mem_singleton.mp z]; unfold tOk; omega
  · rw [dL_app, h.2 d]
    show (if tNd 3000 ≤ d + 1 then some (tD (d + 1) 3000) else none) = some (d + 1)
    rw [if_pos (show tNd 3000 ≤ d + 1 by unfold tNd; rw [if_neg (by omega), if_pos rfl]; omega)]
    unfold tD
    rw [if_neg (by omega), if_pos rfl]
theorem BalX.nil : BalX [] := ⟨fun _ h => absurd h (by simp), fun _ => rfl⟩
theorem BalX.op {x y : List Nat} {a : Nat} (h : Bal x) (ha : 2000 ≤ a ∧ a < 2007) (h2 : BalX y) : BalX (x ++ [a] ++ y) := by
  refine ⟨fun t ht => ?_, fun d => ?_⟩
  · rcases List.mem_append.mp ht with z | z
    · rcases List.mem_append.mp z with z | z
      · exact h.1 t z
      · rw [List.mem_singleton.mp z]; unfold tOk; omega
    · exact h2.1 t z
  · rw [dL_app, dL_app, h.2 (d + 1)]
    have e : dL [a] (d + 1 + 1) = some (d + 1) := by
      show (if tNd a ≤ d + 1 + 1 then some (tD (d + 1 + 1) a) else none) = some (d + 1)
      rw [if_pos (show tNd a ≤ d + 1 + 1 by unfold tNd; rw [if_neg (by omega), if_neg (by omega)]; omega)]
      unfold tD
      rw [if_neg (by omega), if_neg (by omega)]; rfl
    rw [Option.bind_some, e, Option.bind_some, h2.2 d]
theorem Bal.app {x y : List Nat} (h : Bal x) (h2 : BalX y) : Bal (x ++ y) := by
  refine ⟨fun t ht => ?_, fun d => ?_⟩
  · rcases List.mem_append.mp ht with z | z
    · exact h.1 t z
    · exact h2.1 t z
  · rw [dL_app, h.2 d]; exact h2.2 d
def dSd (ts : Nat → Nat) (d0 : Nat) : Nat → Nat
  | 0 => d0
  | i + 1 => tD (dSd ts d0 i) (ts i)
theorem dSd_cons (t : Nat) (x : List Nat) (d0 : Nat) : ∀ i, dSd (fun i => (t :: x).getD i 0) d0 (i + 1) = dSd (fun i => x.getD i 0) (tD d0 t) i := by
  intro i
  induction i with
  | zero => rfl
  | succ i ih =>
    show tD (dSd (fun i => (t :: x).getD i 0) d0 (i + 1)) _ = tD (dSd (fun i => x.getD i 0) (tD d0 t) i) _
    rw [ih]
    rfl
theorem dL_run : ∀ (x : List Nat) (d0 e : Nat), dL x d0 = some e → (∀ i, i < x.length → tNd (x.getD i 0) ≤ dSd (fun i => x.getD i 0) d0 i) ∧ dSd (fun i => x.getD i 0) d0 x.length = e := by
  intro x
  induction x with
  | nil =>
    intro d0 e h
    have : d0 = e := Option.some.inj h
    exact ⟨fun i hi => absurd hi (Nat.not_lt_zero _), this⟩
  | cons t x ih =>
    intro d0 e h
    have h' : (if tNd t ≤ d0 then dL x (tD d0 t) else none) = some e := h
    by_cases z : tNd t ≤ d0
    · rw [if_pos z] at h'
      obtain ⟨h1, h2⟩ := ih _ _ h'
      refine ⟨fun i hi => ?_, by rw [List.length_cons, dSd_cons]; exact h2⟩
      cases i with
      | zero => exact z
      | succ i => rw [dSd_cons]; exact h1 i (by simpa using hi)
    · rw [if_neg z] at h'; cases h'
theorem Gd_of {x : List Nat} (h : Bal x) (hl : x.length ≤ 40) : Gd (fun i => x.getD i 0) x.length := by
  obtain ⟨h1, h2⟩ := dL_run x 0 1 (h.2 0)
  have e : ∀ i, dSd (fun i => x.getD i 0) 0 i = dS (fun i => x.getD i 0) i := by
    intro i
    induction i with
    | zero => rfl
    | succ i ih => show tD _ _ = tD _ _; rw [ih]
  refine ⟨fun i hi => ⟨h.1 _ (getD_mem hi 0), by rw [← e]; exact h1 i hi⟩, by rw [← e]; exact h2, hl⟩
theorem opT_rng : ∀ s, s < 256 → 1 ≤ stg s → stg s ≤ 3 → 2000 ≤ opT s ∧ opT s < 2007 := by decide +kernel
/-! runs of the class -/
def TX (t : List Nat) (σ : Sg) : Prop := ∀ i, i < t.length → gi σ 2 i = nI (t.getD i 0)
theorem TX.fr {t : List Nat} {σ σ' : Sg} {k2 : Nat} (hk : k2 = 7 ∨ k2 = 11) (h : TX t σ) (f : Fr (frK k2) σ σ') : TX t σ' := fun i hi => (f.g (k := 2) (by rcases hk with rfl | rfl <;> simp [pl, frK])).trans (h i hi)
def LT (N k2 : Nat) (t : List Nat) (f q : Nat) (σ : Sg) : Option (Int32 × Sg) := X3_compileT_l45 N k2 (fun v2 v3 σ => X3_compileT_j93 N k2 v2 v3 σ) f (nI t.length) (nI (min t.length 40)) (nI q) σ
def CRun (N k2 : Nat) (t : List Nat) (σ : Sg) (q : Nat) (σ' : Sg) (q' : Nat) : Prop := ∀ f, LT N k2 t (f + (q' - q)) q σ = LT N k2 t f q' σ'
def CFail (N k2 : Nat) (t : List Nat) (σ : Sg) (q q' : Nat) : Prop := ∃ σ', (∀ f, min t.length 40 - q < f → LT N k2 t f q σ = some (nI q', σ')) ∧ Fr (frK k2) σ σ'
section RU
variable {N k2 : Nat} {t : List Nat}
theorem CRun.refl (σ : Sg) (q : Nat) : CRun N k2 t σ q σ q := fun f => by rw [Nat.sub_self]; rfl
theorem CRun.trans {σ σ1 σ2 : Sg} {q q1 q2 : Nat} (h : CRun N k2 t σ q σ1 q1) (h2 : CRun N k2 t σ1 q1 σ2 q2) (l1 : q ≤ q1) (l2 : q1 ≤ q2) : CRun N k2 t σ q σ2 q2 := by
  intro f
  have := h (f + (q2 - q1))
  rw [show f + (q2 - q1) + (q1 - q) = f + (q2 - q) by omega] at this
  rw [this]; exact h2 f
theorem CRun.fail {σ σ1 : Sg} {q q1 q' : Nat} (h : CRun N k2 t σ q σ1 q1) (h2 : CFail N k2 t σ1 q1 q') (l1 : q ≤ q1) (l2 : q1 ≤ min t.length 40) (fr : Fr (frK k2) σ σ1) : CFail N k2 t σ q q' := by
  obtain ⟨σ', a1, a2⟩ := h2
  refine ⟨σ', fun f hf => ?_, fr.trans a2⟩
  have := h (f - (q1 - q))
  rw [show f - (q1 - q) + (q1 - q) = f by omega] at this
  rw [this]
  exact a1 _ (by omega)
theorem LT_want (hl : t.length ≤ 80) {σ : Sg} (hT : TX t σ) (h8 : gi σ k2 8 = 1) {q : Nat} (hq : q < min t.length 40) (f : Nat) : LT N k2 t (f + 1) q σ = (X3_takeThing N k2 (nI (t.getD q 0)) σ).bind fun r => if r.1 = 0 then some (nI q, r.2) else LT N k2 t f (q + 1) r.2 := by
  unfold LT
  rw [X3_compileT_l45, if_neg (nI_ge hq (by omega)), h8, if_neg oneF, inbI (show q < 80 by omega) (by omega), if_pos rfl, clI (by omega), hT q (by omega)]
  cases X3_takeThing N k2 (nI (t.getD q 0)) σ with
  | none => rfl
  | some r => rw [Option.bind_some, Option.bind_some, X3_compileT_j77, nI1]
theorem LT_beh (hl : t.length ≤ 80) {σ : Sg} (hT : TX t σ) (h8 : gi σ k2 8 = 0) {q : Nat} (hq : q < min t.length 40) (f : Nat) : LT N k2 t (f + 1) q σ = (X3_takeBehind N k2 (nI (t.getD q 0)) σ).bind fun r => if r.1 = 0 then some (nI q, r.2) else LT N k2 t f (q + 1) r.2 := by
  unfold LT
  rw [X3_compileT_l45, if_neg (nI_ge hq (by omega)), h8, if_pos rfl, inbI (show q < 80 by omega) (by omega), if_pos rfl, clI (by omega), hT q (by omega)]
  cases X3_takeBehind N k2 (nI (t.getD q 0)) σ with
  | none => rfl
  | some r => rw [Option.bind_some, Option.bind_some, X3_compileT_j77, nI1]
theorem run_want (hl : t.length ≤ 80) {σ σ' : Sg} {o w : List Nat} {d g : Nat} {c : Nat → Bool} (h : CR k2 σ o w d c g true) (hT : TX t σ) {q : Nat} (hq : q < min t.length 40) (e : X3_takeThing N k2 (nI (t.getD q 0)) σ = some (1, σ')) : CRun N k2 t σ q σ' (q + 1) := by
  intro f
  rw [show f + (q + 1 - q) = f + 1 by omega, LT_want hl hT (h.2.2.2.2.2.2.2.trans (if_pos rfl)) hq, e, Option.bind_some, if_neg oneF]
theorem run_beh (hl : t.length ≤ 80) {σ σ' : Sg} {o w : List Nat} {d g : Nat} {c : Nat → Bool} (h : CR k2 σ o w d c g false) (hT : TX t σ) {q : Nat} (hq : q < min t.length 40) (e : X3_takeBehind N k2 (nI (t.getD q 0)) σ = some (1, σ')) : CRun N k2 t σ q σ' (q + 1) := by
  intro f
  rw [show f + (q + 1 - q) = f + 1 by omega, LT_beh hl hT (h.2.2.2.2.2.2.2.trans (if_neg (by decide))) hq, e, Option.bind_some, if_neg oneF]
theorem fail_want (hl : t.length ≤ 80) {σ σ' : Sg} {o w : List Nat} {d g : Nat} {c : Nat → Bool} (h : CR k2 σ o w d c g true) (hT : TX t σ) {q : Nat} (hq : q < min t.length 40) (e : X3_takeThing N k2 (nI (t.getD q 0)) σ = some (0, σ')) (fr : Fr (frK k2) σ σ') : CFail N k2 t σ q q := by
  refine ⟨σ', fun f hf => ?_, fr⟩
  obtain ⟨f, rfl⟩ : ∃ z, f = z + 1 := ⟨f - 1, by omega⟩
  rw [LT_want hl hT (h.2.2.2.2.2.2.2.trans (if_pos rfl)) hq, e, Option.bind_some, if_pos rfl]
theorem fail_beh (hl : t.length ≤ 80) {σ σ' : Sg} {o w : List Nat} {d g : Nat} {c : Nat → Bool} (h : CR k2 σ o w d c g false) (hT : TX t σ) {q : Nat} (hq : q < min t.length 40) (e : X3_takeBehind N k2 (nI (t.getD q 0)) σ = some (0, σ')) (fr : Fr (frK k2) σ σ') : CFail N k2 t σ q q := by
  refine ⟨σ', fun f hf => ?_, fr⟩
  obtain ⟨f, rfl⟩ : ∃ z, f = z + 1 := ⟨f - 1, by omega⟩
  rw [LT_beh hl hT (h.2.2.2.2.2.2.2.trans (if_neg (by decide))) hq, e, Option.bind_some, if_pos rfl]
theorem fail_end (hl : t.length ≤ 80) {σ : Sg} {o w : List Nat} {d g : Nat} {c : Nat → Bool} {b : Bool} (h : CR k2 σ o w d c g b) (hd : d ≤ 4) (hb1 : b = true ∨ 0 < d) : CFail N k2 t σ (min t.length 40) (min t.length 40) := by
  refine ⟨σ, fun f hf => ?_, Fr.refl _ _⟩
  obtain ⟨f, rfl⟩ : ∃ z, f = z + 1 := ⟨f - 1, by omega⟩
  unfold LT
  rw [X3_compileT_l45, if_pos (nI_le (Nat.le_refl _) (by omega)), X3_compileT_j93, h.2.2.2.2.2.2.2, h.2.2.2.2.1]
  by_cases z : min t.length 40 < t.length
  · rw [if_pos (nI_lt z (by omega))]
  · rw [if_neg (nI_nlt (by omega) (by omega))]
    cases hb2 : b
    · rcases hb1 with y | y
      · rw [hb2] at y; exact Bool.noConfusion y
      · rw [if_pos (if_neg (by decide)), if_neg (nI_nle y (by omega))]
    · rw [if_neg (fun u => oneF ((if_pos rfl).symm.trans u))]
end RU
/-! the reader of the reference -/
def rfL : List Nat := [3012, 3014, 3020, 158]
def RR (t : List Nat) (m : Nat) (τ : Sg) (q d : Nat) (o : List Nat) : Prop := RdR τ t m q ∧ gi τ 149 14 = nI d ∧ gi τ 149 20 = nI o.length ∧ ∀ i, i < o.length → gi τ 158 i = nI (o.getD i 0)
section RE
variable {N m : Nat} {t : List Nat} {τ : Sg} {q d : Nat} {o : List Nat}
theorem RR.move (h : RR t m τ q d o) : RR t m (wi τ 149 12 (nI q + 1)) (q + 1) d o := ⟨h.1.next, by rw [giw, if_neg (by omega)]; exact h.2.1, by rw [giw, if_neg (by omega)]; exact h.2.2.1, fun i hi => by rw [gi_wi_ne (by omega)]; exact h.2.2.2 i hi⟩
theorem RR.stay (h : RR t m τ q d o) (hR : RdR (wi τ 149 12 (nI q + 0)) t m q) : RR t m (wi τ 149 12 (nI q + 0)) q d o := ⟨hR, by rw [giw, if_neg (by omega)]; exact h.2.1, by rw [giw, if_neg (by omega)]; exact h.2.2.1, fun i hi => by rw [gi_wi_ne (by omega)]; exact h.2.2.2 i hi⟩
theorem RR.nest (h : RR t m τ q d o) (d' : Nat) : RR t m (wi τ 149 14 (nI d')) q d' o := by
  obtain ⟨⟨h1, h2, h3, h4⟩, h5, h6, h7⟩ := h
  exact ⟨⟨by rw [giw, if_neg (by omega)]; exact h1, by rw [giw, if_neg (by omega)]; exact h2, h3, fun i hi => by rw [gi_wi_ne (by omega)]; exact h4 i hi⟩, by rw [giw_s], by rw [giw, if_neg (by omega)]; exact h6, fun i hi => by rw [gi_wi_ne (by omega)]; exact h7 i hi⟩
theorem codes_r (h : RR t m τ q d o) (ho : o.length < 80) (x : Nat) : ∃ τ', X9_codes N (nI x) τ = some τ' ∧ RR t m τ' q d (o ++ [x]) ∧ Fr rfL τ τ' := by
  obtain ⟨h1, h2, h3, h4⟩ := h
  have fr : Fr [3020, 158] τ (wi (wi τ 158 o.length (nI x)) 149 20 (gi (wi τ 158 o.length (nI x)) 149 20 + 1)) := ((Fr.refl _ _).wi (by simp [pl])).wi (by decide)
  refine ⟨_, ?_, ⟨h1.fr fr (by decide), (fr.g (k := 149) (j := 14) (by decide)).trans h2, ?_, fun i hi => ?_⟩, fr.mono (by decide)⟩
  · unfold X9_codes
    rw [h3, inbI (show o.length < 80 by omega) (by omega), if_pos rfl, clI (by omega)]
    rfl
  · rw [giw_s, gi_wi_ne (by omega), h3, nI1, List.length_append]; rfl
  · rw [List.length_append] at hi
    simp only [List.length_cons, List.length_nil] at hi
    rw [gi_wi_ne (by omega), giw, getD_last]
    by_cases z : i = o.length
    · rw [if_pos ⟨rfl, z⟩, if_neg (by omega), if_pos z]
    · rw [if_neg (fun u => z u.2), if_pos (by omega)]; exact h4 i (by omega)
def nvT (t : List Nat) (q : Nat) : Nat → Nat
  | 0 => 0
  | j + 1 => 10 * nvT t q j + (t.getD (q + j) 0 - 48)
theorem num3_r (hN : 20 < N) (h : RR t m τ q d o) (hl : t.length ≤ 80) (hx : ∀ x ∈ t, x < 256) {k : Nat} (hk : 1 ≤ k) (hk3 : k ≤ 3) (hd : ∀ j, j < k → q + j < m ∧ isD (t.getD (q + j) 0) = true) (he : k = 3 ∨ ¬ (q + k < m ∧ isD (t.getD (q + k) 0) = true)) : ∃ τ', X9_number N 3 τ = some (nI (nvT t q k), τ') ∧ RR t m τ' (q + k) d o ∧ Fr rfL τ τ' := by
  have hm := h.1.2.2.1
  have h0 := hd 0 (by omega)
  unfold X9_number
  rw [isDigit_r N h.1 hl hx (by omega), if_pos (show q < m ∧ wdP t q = true from h0), Option.bind_some, if_neg oneF]
  refine forL0 (L := fun f j a => X9_number_l13 N f 3 (nI (nvT t q j)) (nI j) a) (m := k) (a := τ) (fun j a => RR t m a (q + j) d o ∧ Fr rfL τ a) (o := fun x => ∃ τ', x = some (nI (nvT t q k), τ') ∧ RR t m τ' (q + k) d o ∧ Fr rfL τ τ') (by omega) ⟨h, Fr.refl _ _⟩ ?_ ?_
  · intro f j a hj hI
    obtain ⟨i1, i2⟩ := hI
    left
    have dj := hd j hj
    refine ⟨wi a 149 12 (nI (q + j) + 1), ⟨i1.move, i2.wi (by decide)⟩, ?_⟩
    have dg := dgI_pos dj.2
    have ev : 10 * nI (nvT t q j) + nI (t.getD (q + j) 0) - 48 = nI (nvT t q (j + 1)) := by
      rw [show 10 * nI (nvT t q j) = nI (10 * nvT t q j) from pk_mul 10 _, nI_add, show (48 : Int32) = nI 48 from rfl, pk_sub (by omega)]
      show nI _ = nI (10 * nvT t q j + (t.getD (q + j) 0 - 48))
      congr 1
      omega
    rw [X9_number_l13, if_neg (show ¬ (3 : Int32) ≤ nI j from nI_ge (b := 3) (by omega) (by decide)), isDigit_r N i1.1 hl hx (by omega), if_pos (show q + j < m ∧ wdP t (q + j) = true from dj), Option.bind_some, if_neg oneF, i1.1.1, inbI (show q + j < 80 by omega) (by omega), if_pos rfl, clI (by omega), i1.1.2.2.2 (q + j) (by omega), ev, nI1 j]
    rfl
  · intro f a hI
    obtain ⟨i1, i2⟩ := hI
    refine ⟨a, ?_, i1, i2⟩
    by_cases z : k = 3
    · rw [X9_number_l13, z, if_pos (by decide)]
    · rw [X9_number_l13, if_neg (show ¬ (3 : Int32) ≤ nI k from nI_ge (b := 3) (by omega) (by decide)), isDigit_r N i1.1 hl hx (by have := hd (k - 1) (by omega); omega), if_neg (show ¬ (q + k < m ∧ wdP t (q + k) = true) by
        rcases he with y | y
        · exact absurd y z
        · exact y), Option.bind_some, if_pos rfl]
theorem nvT_lt {k : Nat} (hk : k ≤ 3) (hd : ∀ j, j < k → isD (t.getD (q + j) 0) = true) : nvT t q k < 1000 ∧ (k ≤ 2 → nvT t q k < 100) := by
  have h9 : ∀ j, j < k → t.getD (q + j) 0 - 48 ≤ 9 := fun j hj => (dgI_pos (hd j hj)).2.1
  have hk4 : k = 0 ∨ k = 1 ∨ k = 2 ∨ k = 3 := by omega
  rcases hk4 with rfl | rfl | rfl | rfl
  · exact ⟨by simp [nvT], fun _ => by simp [nvT]⟩
  · have a := h9 0 (by omega)
    simp only [nvT]; omega
  · have a := h9 0 (by omega); have b := h9 1 (by omega)
    simp only [nvT]; omega
  · have a := h9 0 (by omega); have b := h9 1 (by omega); have e := h9 2 (by omega)
    simp only [nvT]; omega
theorem s1_256 : ∀ s, s < 256 → stg s = 1 → ∃ k, k < 3 ∧ sB1.getD k 0 = nI s ∧ (∀ j, j < k → ¬ sB1.getD j 0 = nI s) ∧ opT s = 2000 + k := by decide +kernel
theorem s2_256 : ∀ s, s < 256 → stg s = 2 → ∃ k, k < 2 ∧ sB2.getD k 0 = nI s ∧ (∀ j, j < k → ¬ sB2.getD j 0 = nI s) ∧ opT s = 2003 + k := by decide +kernel
theorem s3_256 : ∀ s, s < 256 → stg s = 3 → ∃ k, k < 2 ∧ sB3.getD k 0 = nI s ∧ (∀ j, j < k → ¬ sB3.getD j 0 = nI s) ∧ opT s = 2005 + k := by decide +kernel
theorem s1_no : ∀ s, s < 256 → stg s ≠ 1 → ∀ j, j < 3 → ¬ sB1.getD j 0 = nI s := by decide +kernel
theorem s2_no : ∀ s, s < 256 → stg s ≠ 2 → ∀ j, j < 2 → ¬ sB2.getD j 0 = nI s := by decide +kernel
theorem s3_no : ∀ s, s < 256 → stg s ≠ 3 → ∀ j, j < 2 → ¬ sB3.getD j 0 = nI s := by decide +kernel
theorem rank_yes (hN : 20 < N) (h : RdR τ t m q) (hl : t.length ≤ 80) (hx : ∀ x ∈ t, x < 256) {v : Nat} (hv : v < 3) (hq : q < m) (hs : stg (t.getD q 0) = v + 1) (fR : Int32 → Sg → Option (Int32 × Sg)) (fT : Sg → Option (Int32 × Sg)) (f : Nat) : X9_readsRank_b_l24 N fR fT (f + 1) (nI v) 1 τ = (fR (nI (v + 1)) (wi τ 149 12 (nI q + 1))).bind fun r => if r.1 = 0 then some (0, r.2) else (X9_codes N (nI (opT (t.getD q 0))) r.2).bind fun r16 => X9_readsRank_b_l24 N fR fT f (nI v) (if v = 0 then 0 else 1) r16 := by
  have h256 := get256 hx q
  have hv3 : v = 0 ∨ v = 1 ∨ v = 2 := by omega
  rcases hv3 with rfl | rfl | rfl
  · obtain ⟨k, k1, k2, k3, k4⟩ := s1_256 _ h256 hs
    rw [X9_readsRank_b_l24, if_neg oneF, if_pos (show nI 0 = 0 from rfl), takes_s1 (by omega) h hl k1 hq k2 k3, Option.bind_some, X9_readsRank_b_j54, if_pos (nI_pos' (by omega)), show nI 0 + 1 = nI (0 + 1) from rfl]
    congr 1
    funext r
    by_cases z : r.1 = 0
    · rw [if_pos z, if_pos z]
    · rw [if_neg z, if_neg z, if_pos (show nI 0 = 0 from rfl), X9_readsRank_b_j96, show 2000 + nI k + 0 = nI (opT (t.getD q 0)) by rw [k4, Int32.add_zero]; exact nI_add 2000 k]
      congr 1
  · obtain ⟨k, k1, k2, k3, k4⟩ := s2_256 _ h256 hs
    rw [X9_readsRank_b_l24, if_neg oneF, if_neg (show ¬ nI 1 = 0 by decide), if_pos (show nI 1 = 1 from rfl), takes_s2 (by omega) h hl k1 hq k2 k3, Option.bind_some, X9_readsRank_b_j54, if_pos (nI_pos' (by omega)), show nI 1 + 1 = nI (1 + 1) from rfl]
    congr 1
    funext r
    by_cases z : r.1 = 0
    · rw [if_pos z, if_pos z]
    · rw [if_neg z, if_neg z, if_neg (show ¬ nI 1 = 0 by decide), if_pos (show nI 1 = 1 from rfl), X9_readsRank_b_j96, show 2000 + nI k + 3 = nI (opT (t.getD q 0)) by rw [k4, show (2000 : Int32) + nI k = nI (2000 + k) from nI_add 2000 k, show nI (2000 + k) + 3 = nI (2000 + k + 3) from nI_add _ 3]; congr 1; omega]
      congr 1
  · obtain ⟨k, k1, k2, k3, k4⟩ := s3_256 _ h256 hs
    rw [X9_readsRank_b_l24, if_neg oneF, if_neg (show ¬ nI 2 = 0 by decide), if_neg (show ¬ nI 2 = 1 by decide), takes_s3 (by omega) h hl k1 hq k2 k3, Option.bind_some, X9_readsRank_b_j54, if_pos (nI_pos' (by omega)), show nI 2 + 1 = nI (2 + 1) from rfl]
    congr 1
    funext r
    by_cases z : r.1 = 0
    · rw [if_pos z, if_pos z]
    · rw [if_neg z, if_neg z, if_neg (show ¬ nI 2 = 0 by decide), if_neg (show ¬ nI 2 = 1 by decide), X9_readsRank_b_j96, show 2000 + nI k + 5 = nI (opT (t.getD q 0)) by rw [k4, show (2000 : Int32) + nI k = nI (2000 + k) from nI_add 2000 k, show nI (2000 + k) + 5 = nI (2000 + k + 5) from nI_add _ 5]; congr 1; omega]
      congr 1
theorem rank_no (hN : 20 < N) (h : RdR τ t m q) (hl : t.length ≤ 80) (hx : ∀ x ∈ t, x < 256) (hq2 : q ≤ m) {v : Nat} (hv : v < 3) (hs : q < m → stg (t.getD q 0) ≠ v + 1) (fR : Int32 → Sg → Option (Int32 × Sg)) (fT : Sg → Option (Int32 × Sg)) (f : Nat) : X9_readsRank_b_l24 N fR fT (f + 1) (nI v) 1 τ = some (1, τ) := by
  have h256 := get256 hx q
  have hm := h.2.2.1
  have hv3 : v = 0 ∨ v = 1 ∨ v = 2 := by omega
  rcases hv3 with rfl | rfl | rfl
  · rw [X9_readsRank_b_l24, if_neg oneF, if_pos (show nI 0 = 0 from rfl), takesN_s1 (by omega) h hl (by omega) (fun u => s1_no _ h256 (hs u)), Option.bind_some, X9_readsRank_b_j54, if_neg (show ¬ (0 : Int32) ≤ -1 by decide)]
  · rw [X9_readsRank_b_l24, if_neg oneF, if_neg (show ¬ nI 1 = 0 by decide), if_pos (show nI 1 = 1 from rfl), takesN_s2 (by omega) h hl (by omega) (fun u => s2_no _ h256 (hs u)), Option.bind_some, X9_readsRank_b_j54, if_neg (show ¬ (0 : Int32) ≤ -1 by decide)]
  · rw [X9_readsRank_b_l24, if_neg oneF, if_neg (show ¬ nI 2 = 0 by decide), if_neg (show ¬ nI 2 = 1 by decide), takesN_s3 (by omega) h hl (by omega) (fun u => s3_no _ h256 (hs u)), Option.bind_some, X9_readsRank_b_j54, if_neg (show ¬ (0 : Int32) ≤ -1 by decide)]
end RE
