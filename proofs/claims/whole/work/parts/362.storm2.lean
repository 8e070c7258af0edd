/-! ===== storms: the class ===== -/
theorem cntB_mono_n {f : Nat → Bool} {a b : Nat} (h : a ≤ b) : cntB f a ≤ cntB f b := by
  induction b with
  | zero => rw [show a = 0 by omega]; exact Nat.le_refl _
  | succ b ih =>
    by_cases z : a = b + 1
    · rw [z]; exact Nat.le_refl _
    · have := ih (by omega)
      show cntB f a ≤ cntB f b + (if f b then 1 else 0)
      omega
theorem len_mono {p : Nat → Nat → Bool} {n : Nat} (a : Nat) : ∀ d, (prA (lsF p) n [] a).length ≤ (prA (lsF p) n [] (a + d)).length := by
  intro d
  induction d with
  | zero => exact Nat.le_refl _
  | succ d ih =>
    have : (prA (lsF p) n [] (a + d + 1)).length = (prA (lsF p) n [] (a + d)).length + cntB (fun t => p (a + d) (a + d + 1 + t)) (n - (a + d + 1)) := len_row _ _
    show _ ≤ (prA (lsF p) n [] (a + d + 1)).length
    omega
theorem len_prS {p : Nat → Nat → Bool} {n a b : Nat} (ha : a < n) (hb1 : b ≤ n) : (prS (lsF p) n [] a b).length ≤ (prA (lsF p) n [] n).length := by
  have h1 : (prS (lsF p) n [] a b).length = (prA (lsF p) n [] a).length + cntB (fun t => p a (a + 1 + t)) (b - (a + 1)) := len_row _ _
  have h2 : (prA (lsF p) n [] (a + 1)).length = (prA (lsF p) n [] a).length + cntB (fun t => p a (a + 1 + t)) (n - (a + 1)) := len_row _ _
  have h3 := cntB_mono_n (f := fun t => p a (a + 1 + t)) (show b - (a + 1) ≤ n - (a + 1) by omega)
  have h4 := len_mono (p := p) (n := n) (a + 1) (n - (a + 1))
  rw [show a + 1 + (n - (a + 1)) = n by omega] at h4
  omega
def stI (a : Sg) (k j : Nat) (V : List (Nat × Nat)) : Prop := ∀ i, i < V.length → gi a k i = nI (V.getD i (0, 0)).1 ∧ gi a j i = nI (V.getD i (0, 0)).2
theorem stI.fr {a b : Sg} {k j : Nat} {V : List (Nat × Nat)} {l : List Nat} (h : stI a k j V) (f : Fr l a b) (h1 : ∀ i, pl k i ∉ l) (h2 : ∀ i, pl j i ∉ l) : stI b k j V := fun i hi => ⟨(f.g (h1 i)).trans (h i hi).1, (f.g (h2 i)).trans (h i hi).2⟩
theorem stI.add {a : Sg} {k j : Nat} (hkj : k ≠ j) {V : List (Nat × Nat)} (h : stI a k j V) (x y : Nat) : stI (wi (wi a k V.length (nI x)) j V.length (nI y)) k j (V ++ [(x, y)]) := by
  intro i hi
  rw [List.length_append] at hi
  simp only [List.length_cons, List.length_nil] at hi
  rw [getD_app V (x, y) (0, 0) i (by omega)]
  by_cases z : i = V.length
  · subst z
    rw [if_pos rfl, giw, if_neg (fun u => hkj u.1), giw_s, giw_s]
    exact ⟨rfl, rfl⟩
  · rw [if_neg z, giw, if_neg (fun u => hkj u.1), giw, if_neg (fun u => z u.2), giw, if_neg (fun u => z u.2), giw, if_neg (fun u => hkj u.1.symm)]
    exact h i (by omega)
def tyP (r : Nat → Int32) (a b : Nat) : Bool := hb (lnk r a) b
theorem listS_c {N : Nat} (hN : 20 < N) {σ : Sg} {r : Nat → Int32} (hr : rC σ 19 = r) (B : Int32) (h12 : (prA (lsF (fun a b => hb B a && tyP r a b)) 8 [] 8).length ≤ 12) : ∃ σ', X8_listStrings N B σ = some (nI (prA (lsF (fun a b => hb B a && tyP r a b)) 8 [] 8).length, σ') ∧ stI σ' 146 147 (prA (lsF (fun a b => hb B a && tyP r a b)) 8 [] 8) ∧ Fr [146, 147] σ σ' := by
  unfold X8_listStrings
  refine pairL (n := 8) (N := N) (Lo := fun m a (s : List (Nat × Nat) × Sg) => X8_listStrings_l4 N m B (nI s.1.length) (nI a) s.2) (Li := fun m a f b (s : List (Nat × Nat) × Sg) => X8_listStrings_l15 N (fun v1 v2 v3 σ => X8_listStrings_j86 N (fun v1 v2 v3 σ => X8_listStrings_l4 N m v1 v2 v3 σ) v1 v2 v3 σ) f B (nI s.1.length) (nI a) (nI b) s.2) (fun a b s => s.1 = prS (lsF (fun a b => hb B a && tyP r a b)) 8 [] a b ∧ stI s.2 146 147 s.1 ∧ Fr [146, 147] σ s.2) (o := fun x => ∃ σ', x = some (nI (prA (lsF (fun a b => hb B a && tyP r a b)) 8 [] 8).length, σ') ∧ stI σ' 146 147 (prA (lsF (fun a b => hb B a && tyP r a b)) 8 [] 8) ∧ Fr [146, 147] σ σ') (by omega) ?_ ?_ ?_ ?_ ?_ (s0 := ([], σ)) ⟨rfl, fun i hi => absurd hi (Nat.not_lt_zero _), Fr.refl _ _⟩
  · intro m a s ha hI
    rw [X8_listStrings_l4, if_neg (c8 ha), nI1]
  · intro m a f b s ha hb1 hab hI
    obtain ⟨V, τ⟩ := s
    obtain ⟨i1, i2, i3⟩ := hI
    dsimp only at i1 i2 i3
    have et : gi τ (19 + 4) a = lnk r a := by rw [i3.g (k := 23) (by simp [pl])]; show gi σ (19 + 4) a = r (24 + a); rw [← rC_l ha, hr]
    have hstep : prS (lsF (fun a b => hb B a && tyP r a b)) 8 [] a (b + 1) = lsF (fun a b => hb B a && tyP r a b) a b V := by rw [prS_s _ _ _ hab, ← i1]
    have j0 : X8_listStrings_j49 N (fun v1 v2 v3 v4 σ => X8_listStrings_l15 N (fun v1 v2 v3 σ => X8_listStrings_j86 N (fun v1 v2 v3 σ => X8_listStrings_l4 N m v1 v2 v3 σ) v1 v2 v3 σ) f v1 v2 v3 v4 σ) B (nI V.length) (nI a) (nI b) 0 τ = X8_listStrings_l15 N (fun v1 v2 v3 σ => X8_listStrings_j86 N (fun v1 v2 v3 σ => X8_listStrings_l4 N m v1 v2 v3 σ) v1 v2 v3 σ) f B (nI V.length) (nI a) (nI (b + 1)) τ := by
      rw [X8_listStrings_j49, if_pos rfl, nI1]
    by_cases z : (hb B a && tyP r a b) = true
    · have hl : lsF (fun a b => hb B a && tyP r a b) a b V = V ++ [(a, b)] := if_pos z
      rw [hl] at hstep
      have hlen := len_prS (p := fun a b => hb B a && tyP r a b) (n := 8) (a := a) (b := b + 1) ha (by omega)
      rw [hstep, List.length_append] at hlen
      simp only [List.length_cons, List.length_nil] at hlen
      rw [Bool.and_eq_true] at z
      refine ⟨(V ++ [(a, b)], wi (wi τ 146 V.length (nI a)) 147 V.length (nI b)), ⟨hstep.symm, i2.add (by decide) a b, (i3.wi (by simp [pl])).wi (by simp [pl])⟩, ?_⟩
      dsimp only
      rw [X8_listStrings_l15, if_neg (c8 hb1), if_pos ((hasT B (by omega)).mpr z.1), isTied_b N 19 ha (by omega), Option.bind_some, et, if_pos (show hb (lnk r a) b = true from z.2), if_neg oneF, X8_listStrings_j49, if_neg oneF, if_neg (show ¬ (12 : Int32) ≤ nI V.length from nI_ge (b := 12) (by omega) (by decide)), inbI (show V.length < 12 by omega) (by omega), if_pos rfl, clI (by omega), nI1, nI1, List.length_append]
      rfl
    · have hl : lsF (fun a b => hb B a && tyP r a b) a b V = V := if_neg z
      rw [hl] at hstep
      refine ⟨(V, τ), ⟨hstep.symm, i2, i3⟩, ?_⟩
      dsimp only
      rw [X8_listStrings_l15, if_neg (c8 hb1)]
      by_cases y : hb B a = true
      · have y2 : ¬ hb (lnk r a) b = true := fun u => z (by rw [y]; exact u)
        rw [if_pos ((hasT B (by omega)).mpr y), isTied_b N 19 ha (by omega), Option.bind_some, et, if_neg y2, if_pos rfl, j0]
      · rw [if_neg (fun u => y ((hasT B (by omega)).mp u)), j0]
  · intro m a f s ha hI
    rw [X8_listStrings_l15, if_pos c8', X8_listStrings_j86, nI1]
  · intro a s ha hI
    exact ⟨by rw [prS_n]; exact hI.1, hI.2⟩
  · intro m s hI
    obtain ⟨V, τ⟩ := s
    obtain ⟨i1, i2, i3⟩ := hI
    dsimp only at i1 i2 i3 ⊢
    have e : V = prA (lsF (fun a b => hb B a && tyP r a b)) 8 [] 8 := i1
    refine ⟨τ, ?_, ?_, i3⟩
    · rw [X8_listStrings_l4, if_pos c8', e]
    · rw [← e]; exact i2
theorem cutAll_c {N : Nat} (hN : 8 < N) (σ : Sg) : ∃ σ', X5_cutAll N 24 σ = some σ' ∧ (∀ i, i < 8 → gi σ' 28 i = 0) ∧ Fr [28] σ σ' := by
  unfold X5_cutAll
  refine forL0 (L := fun m i a => X5_cutAll_l2 N 24 m (nI i) a) (m := 8) (a := σ) (fun i a => (∀ j, j < i → gi a 28 j = 0) ∧ Fr [28] σ a) (o := fun x => ∃ σ', x = some σ' ∧ (∀ i, i < 8 → gi σ' 28 i = 0) ∧ Fr [28] σ σ') hN ⟨fun j hj => absurd hj (Nat.not_lt_zero _), Fr.refl _ _⟩ ?_ ?_
  · intro m i a hi hI
    obtain ⟨i1, i2⟩ := hI
    left
    refine ⟨wi a 28 i 0, ⟨fun j hj => ?_, i2.wi (by simp [pl])⟩, ?_⟩
    · rw [giw]
      by_cases z : j = i
      · rw [if_pos ⟨rfl, z⟩]
      · rw [if_neg (fun y => z y.2)]; exact i1 j (by omega)
    · rw [X5_cutAll_l2, if_neg (c8 hi), inbI hi (by omega), clI (by omega), nI1]
      rfl
  · intro m a hI
    exact ⟨a, by rw [X5_cutAll_l2, if_pos c8'], hI⟩
theorem popI_hl : ∀ h, h < 16 → ∀ l, l < 256 → popI (nI (256 * h + l)) = nI (cntB (256 * h + l).testBit 12) := by decide +kernel
theorem popI_4096 (m : Nat) (hm : m < 4096) : popI (nI m) = nI (cntB m.testBit 12) := by
  have := popI_hl (m / 256) (by omega) (m % 256) (by omega)
  rwa [show 256 * (m / 256) + m % 256 = m by omega] at this
theorem pop_m {w m : Nat} (hw : w < 2 ^ m) (hm : m ≤ 12) : popI (nI w) = nI (cntB w.testBit m) := by
  have h2 : 2 ^ m ≤ 2 ^ 12 := Nat.pow_le_pow_right (by omega) hm
  rw [popI_4096 w (by omega)]
  have := cntB_cut (f := w.testBit) (n := m) (12 - m) (fun i hi => Nat.testBit_lt_two_pow (Nat.lt_of_lt_of_le hw (Nat.pow_le_pow_right (by omega) hi)))
  rw [show m + (12 - m) = 12 by omega] at this
  rw [this]
theorem selI_mem {v : Nat → Nat × Nat} {s : Nat} {e : Nat × Nat} : ∀ m, e ∈ selI v s m ↔ ∃ i, i < m ∧ s.testBit i = true ∧ v i = e := by
  intro m
  induction m with
  | zero => show e ∈ [] ↔ _; simp
  | succ m ih =>
    show e ∈ selI v s m ++ (if s.testBit m = true then [v m] else []) ↔ _
    rw [List.mem_append, ih]
    constructor
    · rintro (⟨i, h1, h2⟩ | h)
      · exact ⟨i, by omega, h2⟩
      · by_cases z : s.testBit m = true
        · rw [if_pos z] at h; exact ⟨m, by omega, z, (List.mem_singleton.mp h).symm⟩
        · rw [if_neg z] at h; simp at h
    · rintro ⟨i, h1, h2, h3⟩
      by_cases z : i = m
      · subst z; right; rw [if_pos h2, h3]; simp
      · left; exact ⟨i, by omega, h2, h3⟩
theorem selI_nodup {v : Nat → Nat × Nat} {s m0 : Nat} (hv : ∀ i j, i < m0 → j < m0 → v i = v j → i = j) : ∀ m, m ≤ m0 → (selI v s m).Nodup := by
  intro m
  induction m with
  | zero => intro _; exact List.nodup_nil
  | succ m ih =>
    intro hm
    show (selI v s m ++ (if s.testBit m = true then [v m] else [])).Nodup
    by_cases z : s.testBit m = true
    · rw [if_pos z, List.nodup_append]
      refine ⟨ih (by omega), by simp, fun x hx y hy => ?_⟩
      rw [List.mem_singleton.mp hy]
      intro q
      rw [q] at hx
      obtain ⟨i, i1, i2, i3⟩ := (selI_mem m).mp hx
      have := hv i m (by omega) (by omega) i3
      omega
    · rw [if_neg z, List.append_nil]; exact ih (by omega)
theorem getV_mem {V : List (Nat × Nat)} {i : Nat} (h : i < V.length) : V.getD i (0, 0) ∈ V := by
  rw [List.getD_eq_getElem?_getD, List.getElem?_eq_getElem h]
  exact List.getElem_mem h
theorem getD_inj {V : List (Nat × Nat)} (hn : V.Nodup) : ∀ i j, i < V.length → j < V.length → V.getD i (0, 0) = V.getD j (0, 0) → i = j := by
  intro i j hi hj h
  rw [List.getD_eq_getElem?_getD, List.getElem?_eq_getElem hi, List.getD_eq_getElem?_getD, List.getElem?_eq_getElem hj] at h
  exact (List.getElem_inj hn).mp h
theorem selV_ok {V : List (Nat × Nat)} {n s : Nat} (h : eOk n V) {m : Nat} (hm : m ≤ V.length) : eOk n (selI (fun i => V.getD i (0, 0)) s m) := by
  intro e he
  obtain ⟨i, i1, _, i3⟩ := (selI_mem m).mp he
  rw [← i3]
  exact h _ (getV_mem (by omega))
def tly (ok c : Nat → Nat) : Nat → Nat → Nat
  | 0, _ => 0
  | w + 1, b => tly ok c w b + (if ok w = 1 ∧ c w = b then 1 else 0)
theorem tly_le (ok c : Nat → Nat) (w b : Nat) : tly ok c w b ≤ w := by
  induction w with
  | zero => exact Nat.le_refl _
  | succ w ih => unfold tly; split <;> omega
theorem smN_add (F G : Nat → Nat) (n : Nat) : smN (fun i => F i + G i) n = smN F n + smN G n := by
  induction n with
  | zero => rfl
  | succ n ih => unfold smN; rw [ih]; omega
theorem smN_pick (P : Prop) [Decidable P] (x : Nat) (val : Nat → Nat) : ∀ n, smN (fun b => (if P ∧ x = b then 1 else 0) * val b) n = if P ∧ x < n then val x else 0 := by
  intro n
  induction n with
  | zero => rw [if_neg (by omega)]; rfl
  | succ n ih =>
    unfold smN
    rw [ih]
    by_cases hP : P
    · by_cases h1 : x < n
      · rw [if_pos ⟨hP, h1⟩, if_neg (by omega), if_pos ⟨hP, by omega⟩]; simp
      · by_cases h2 : x = n
        · subst h2
          rw [if_neg (by omega), if_pos ⟨hP, rfl⟩, if_pos ⟨hP, by omega⟩]; simp
        · rw [if_neg (by omega), if_neg (by omega), if_neg (by omega)]; simp
    · rw [if_neg (fun u => hP u.1), if_neg (fun u => hP u.1), if_neg (fun u => hP u.1)]; simp
theorem tly_sum {ok c : Nat → Nat} {m : Nat} (val : Nat → Nat) (h1 : ∀ w, ok w ≤ 1) (M : Nat) (h2 : ∀ w, w < M → c w ≤ m) : smN (fun b => tly ok c M b * val b) (m + 1) = smN (fun w => ok w * val (c w)) M := by
  induction M with
  | zero =>
    show smN (fun b => 0 * val b) (m + 1) = 0
    have : ∀ n, smN (fun b => 0 * val b) n = 0 := by
      intro n
      induction n with
      | zero => rfl
      | succ n ih => unfold smN; rw [ih]; simp
    exact this _
  | succ M ih =>
    show _ = smN (fun w => ok w * val (c w)) M + ok M * val (c M)
    rw [← ih (fun w hw => h2 w (by omega))]
    have e : (fun b => tly ok c (M + 1) b * val b) = fun b => tly ok c M b * val b + (if ok M = 1 ∧ c M = b then 1 else 0) * val b := by
      funext b
      show (tly ok c M b + _) * _ = _
      rw [Nat.add_mul]
    rw [e, smN_add, smN_pick]
    have := h2 M (by omega)
    have := h1 M
    by_cases z : ok M = 1
    · rw [if_pos ⟨z, by omega⟩, z, Nat.one_mul]
    · rw [if_neg (fun u => z u.1), show ok M = 0 by omega, Nat.zero_mul]
section ST
variable {N : Nat} {L : Ld} {r : Nat → Int32} {k : Nat} {V : List (Nat × Nat)}
theorem okG_le (T : List (Nat × Nat)) : okG L r k T ≤ 1 := by unfold okG; split <;> omega
theorem bunG_out {n : Nat} (h8 : n ≤ 8) (hk : k < n) {D : List (Nat × Nat)} (ho : eOk n D) : ∀ i, n ≤ i → hb (bunS (gM D) k) i = false := by
  have o8 : eOk 8 D := fun e he => ⟨(ho e he).1, by have := (ho e he).2; omega⟩
  have h := bunS_is (f := gM D) (show k < 8 by omega) (gM_8 D)
  have hs := h.2.2 (allI n) (by rw [hb_allI n (by omega) k (by omega)]; exact decide_eq_true hk) (fun i hi _ j hj => by
    rw [hb_gM o8, mE_iff] at hj
    have : j < n := by
      rcases hj with y | y
      · exact (ho _ y).2
      · have := ho _ y; dsimp only at this; omega
    rw [hb_allI n (by omega) j (by omega)]; exact decide_eq_true this)
  intro i hi
  cases hx : hb (bunS (gM D) k) i
  · rfl
  · have := hs i hx
    rcases Nat.lt_or_ge i 32 with z | z
    · rw [hb_allI n (by omega) i z] at this
      exact absurd (of_decide_eq_true this) (by omega)
    · rw [hb_big z] at hx; exact Bool.noConfusion hx
theorem tally_l52 (hN : 20 < N) (hn : V.Nodup) (ho : eOk 8 V) (h12 : V.length ≤ 12) {a : Sg} (hV : stI a 146 147 V) {w : Nat} (hw : w < 2 ^ V.length) (K : Int32 → Int32 → Int32 → Sg → Option (Int32 × Sg)) (v1 : Int32) : ∃ a', X8_tallyStorm_l52 N K N v1 (nI V.length) (nI w) 0 a = K v1 (nI V.length) (nI w) a' ∧ rC a' 24 = tgL (rC a 24) (selI (fun i => V.getD i (0, 0)) w V.length) ∧ Fr [28] a a' := by
  refine forL0 (L := fun m i b => X8_tallyStorm_l52 N K m v1 (nI V.length) (nI w) (nI i) b) (m := V.length) (a := a) (fun i b => rC b 24 = tgL (rC a 24) (selI (fun i => V.getD i (0, 0)) w i) ∧ Fr [28] a b) (o := fun x => ∃ a', x = K v1 (nI V.length) (nI w) a' ∧ rC a' 24 = tgL (rC a 24) (selI (fun i => V.getD i (0, 0)) w V.length) ∧ Fr [28] a a') (by omega) ⟨rfl, Fr.refl _ _⟩ ?_ ?_
  · intro m i b hi hI
    obtain ⟨i1, i2⟩ := hI
    left
    by_cases z : w.testBit i = true
    · have he := ho _ (getV_mem hi)
      have hVi := (hV.fr i2 (by simp [pl]) (by simp [pl])) i hi
      obtain ⟨b', t1, t2, t3⟩ := toggle_b N (Or.inr rfl : (24 : Nat) = 19 ∨ (24 : Nat) = 24) (show (V.getD i (0, 0)).1 < 8 by omega) he.2 b
      refine ⟨b', ⟨?_, i2.trans t3⟩, ?_⟩
      · rw [t2, i1]
        show _ = tgL (rC a 24) (selI (fun i => V.getD i (0, 0)) w i ++ (if w.testBit i = true then [V.getD i (0, 0)] else []))
        rw [if_pos z, tgL_app]
      · rw [X8_tallyStorm_l52, if_neg (nI_ge hi (by omega)), if_pos ((hasT (nI w) (by omega)).mpr (by rw [hb_nI (by omega)]; exact z)), inbI (show i < 12 by omega) (by omega), if_pos rfl, if_pos rfl, clI (by omega), hVi.1, hVi.2, t1, Option.bind_some, nI1]
    · refine ⟨b, ⟨?_, i2⟩, ?_⟩
      · rw [i1]
        show _ = tgL (rC a 24) (selI (fun i => V.getD i (0, 0)) w i ++ (if w.testBit i = true then [V.getD i (0, 0)] else []))
        rw [if_neg z, List.append_nil]
      · rw [X8_tallyStorm_l52, if_neg (nI_ge hi (by omega)), if_neg (fun u => z (by have := (hasT (nI w) (by omega)).mp u; rwa [hb_nI (by omega)] at this)), nI1]
  · intro m b hI
    exact ⟨b, by rw [X8_tallyStorm_l52, if_pos (nI_le (Nat.le_refl _) (by omega))], hI.1, hI.2⟩
def okW (L : Ld) (r : Nat → Int32) (k : Nat) (V : List (Nat × Nat)) (w : Nat) : Nat := okG L r k (selI (fun i => V.getD i (0, 0)) w V.length)
def brW (V : List (Nat × Nat)) (w : Nat) : Nat := V.length - cntB w.testBit V.length
theorem tally_l35 (hN : 5000 < N) {σ : Sg} (hr : rC σ 19 = r) (h8 : L.1 ≤ 8) (hk : k < L.1) (en : ∀ i, i < L.1 → gi σ 15 i = needS L r i) (hn : V.Nodup) (ho : eOk L.1 V) (h12 : V.length ≤ 12) (hV : stI σ 146 147 V) (h0 : ∀ b, b ≤ V.length → gi σ 145 b = 0) : ∃ σ', X8_tallyStorm_l35 N N (nI k) (nI V.length) 0 σ = some (nI V.length, σ') ∧ (∀ b, b ≤ V.length → gi σ' 145 b = nI (tly (okW L r k V) (brW V) (2 ^ V.length) b)) ∧ Fr [28, 145] σ σ' := by
  have h2 : 2 ^ V.length ≤ 2 ^ 12 := Nat.pow_le_pow_right (by omega) h12
  have o8 : eOk 8 V := fun e he => ⟨(ho e he).1, by have := (ho e he).2; omega⟩
  have hsh : (1 : Int32) <<< (nI V.length &&& 31) = nI (2 ^ V.length) := (by decide +kernel : ∀ m, m < 13 → (1 : Int32) <<< (nI m &&& 31) = nI (2 ^ m)) V.length (by omega)
  refine forL0 (L := fun m w a => X8_tallyStorm_l35 N m (nI k) (nI V.length) (nI w) a) (m := 2 ^ V.length) (a := σ) (fun w a => (∀ b, b ≤ V.length → gi a 145 b = nI (tly (okW L r k V) (brW V) w b)) ∧ Fr [28, 145] σ a) (o := fun x => ∃ σ', x = some (nI V.length, σ') ∧ (∀ b, b ≤ V.length → gi σ' 145 b = nI (tly (okW L r k V) (brW V) (2 ^ V.length) b)) ∧ Fr [28, 145] σ σ') (by omega) ⟨fun b hb1 => by rw [h0 b hb1]; rfl, Fr.refl _ _⟩ ?_ ?_
  · intro m w a hw hI
    obtain ⟨i1, i2⟩ := hI
    left
    obtain ⟨a1, c1, c2, c3⟩ := cutAll_c (N := N) (by omega) a
    obtain ⟨a2, d1, d2, d3⟩ := tally_l52 (N := N) (by omega) hn o8 h12 ((hV.fr i2 (by simp [pl]) (by simp [pl])).fr c3 (by simp [pl]) (by simp [pl])) hw (fun v1 v2 v3 σ => X8_tallyStorm_j95 N (fun v1 v2 v3 σ => X8_tallyStorm_l35 N m v1 v2 v3 σ) v1 v2 v3 σ) (nI k)
    have oD : eOk L.1 (selI (fun i => V.getD i (0, 0)) w V.length) := selV_ok ho (Nat.le_refl _)
    have oD8 : eOk 8 (selI (fun i => V.getD i (0, 0)) w V.length) := selV_ok o8 (Nat.le_refl _)
    have nD : (selI (fun i => V.getD i (0, 0)) w V.length).Nodup := selI_nodup (getD_inj hn) _ (Nat.le_refl _)
    have links : ∀ i, i < 8 → gi a2 28 i = gM (selI (fun i => V.getD i (0, 0)) w V.length) i := by
      intro i hi
      apply hb_ext
      intro j _
      rw [hb_gM oD8, show gi a2 28 i = rC a2 24 (24 + i) from (rC_l (k := 24) hi).symm, d2, hb_tgL _ nD oD8 i j hi, rC_l hi, c2 i hi, hb_0]
      cases mE (selI (fun i => V.getD i (0, 0)) w V.length) i j <;> rfl
    obtain ⟨bb, b1, b2⟩ := bundleOf_b (N := N) (by omega) 24 (σ := a2) (show k < 8 by omega) (fun i hi j hj => by rw [show gi a2 (24 + 4) i = gi a2 28 i from rfl, links i hi]; exact gM_8 _ i hi j hj)
    have ebb : bb = bunS (gM (selI (fun i => V.getD i (0, 0)) w V.length)) k := IsBu.uniq (IsBu.congr links b2) (bunS_is (show k < 8 by omega) (gM_8 _))
    have f2 : Fr [28, 145] σ a2 := (i2.trans (c3.mono (by decide))).trans (d3.mono (by decide))
    have r2 : rC a2 19 = r := (f2.row19 (by decide)).trans hr
    have ex := excess_s (N := N) (by omega) h8 r2 (fun i hi => (f2.g (k := 15) (by simp [pl])).trans (en i hi)) (bunG_out h8 hk oD)
    have t2 : ∀ b, b ≤ V.length → gi a2 145 b = nI (tly (okW L r k V) (brW V) w b) := fun b hb1 => by rw [d3.g (k := 145) (by simp [pl]), c3.g (k := 145) (by simp [pl])]; exact i1 b hb1
    have hcl := cntB_le w.testBit V.length
    have etl : ∀ b, tly (okW L r k V) (brW V) (w + 1) b = tly (okW L r k V) (brW V) w b + (if okW L r k V w = 1 ∧ brW V w = b then 1 else 0) := fun _ => rfl
    by_cases z : exS L r (bunS (gM (selI (fun i => V.getD i (0, 0)) w V.length)) k) < 0
    · have eok : okW L r k V w = 0 := if_pos z
      refine ⟨a2, ⟨fun b hb1 => ?_, f2⟩, ?_⟩
      · rw [t2 b hb1, etl, eok, if_neg (by omega)]; rfl
      · rw [X8_tallyStorm_l35, hsh, if_neg (nI_ge hw (by omega)), c1, Option.bind_some, d1, X8_tallyStorm_j95, b1, Option.bind_some, ebb, ex, Option.bind_some, if_pos z, nI1]
    · have eok : okW L r k V w = 1 := if_neg z
      refine ⟨wi a2 145 (brW V w) (nI (tly (okW L r k V) (brW V) w (brW V w)) + 1), ⟨fun b hb1 => ?_, f2.wi (by simp [pl])⟩, ?_⟩
      · rw [giw, etl, eok]
        by_cases y : b = brW V w
        · rw [if_pos ⟨rfl, y⟩, if_pos ⟨rfl, y.symm⟩, y, nI1]
        · rw [if_neg (fun u => y u.2), if_neg (fun u => y u.2.symm), t2 b hb1]; rfl
      · have eb : nI V.length - popI (nI w) = nI (brW V w) := by rw [pop_m hw h12, pk_sub hcl]; rfl
        have hbr : brW V w ≤ V.length := by unfold brW; omega
        rw [X8_tallyStorm_l35, hsh, if_neg (nI_ge hw (by omega)), c1, Option.bind_some, d1, X8_tallyStorm_j95, b1, Option.bind_some, ebb, ex, Option.bind_some, if_neg z, bitCount_eq, Option.bind_some, eb, inbI (show brW V w < 13 by omega) (by omega), if_pos rfl, if_pos rfl, clI (by omega), t2 _ hbr, nI1 w]
        rfl
  · intro m a hI
    exact ⟨a, by rw [X8_tallyStorm_l35, hsh, if_pos (nI_le (Nat.le_refl _) (by omega))], hI.1, hI.2⟩
theorem tally_c (hN : 5000 < N) {σ : Sg} (hr : rC σ 19 = r) (hW : WL L.1 r) (hk : k < L.1) (en : ∀ i, i < L.1 → gi σ 15 i = needS L r i) (eV : V = prA (lsF (fun a b => hb (bun r k) a && tyP r a b)) 8 [] 8) (hn : V.Nodup) (ho : eOk L.1 V) (h12 : V.length ≤ 12) : ∃ σ', X8_tallyStorm N (nI k) σ = some (nI V.length, σ') ∧ (∀ b, b ≤ V.length → gi σ' 145 b = nI (tly (okW L r k V) (brW V) (2 ^ V.length) b)) ∧ Fr [28, 145, 146, 147] σ σ' := by
  have h8 := hW.2.2.2.2
  obtain ⟨σ1, a1, a2, a3⟩ := listS_c (N := N) (by omega) hr (bun r k) (by rw [← eV]; exact h12)
  rw [← eV] at a1 a2
  have l15 : ∃ σ2, X8_tallyStorm_l15 N (fun v1 v2 σ => X8_tallyStorm_j33 N v1 v2 σ) N (nI k) (nI V.length) 0 σ1 = X8_tallyStorm_j33 N (nI k) (nI V.length) σ2 ∧ (∀ b, b ≤ V.length → gi σ2 145 b = 0) ∧ Fr [145] σ1 σ2 := by
    refine forL0 (L := fun m i a => X8_tallyStorm_l15 N (fun v1 v2 σ => X8_tallyStorm_j33 N v1 v2 σ) m (nI k) (nI V.length) (nI i) a) (m := V.length + 1) (a := σ1) (fun i a => (∀ b, b < i → gi a 145 b = 0) ∧ Fr [145] σ1 a) (o := fun x => ∃ σ2, x = X8_tallyStorm_j33 N (nI k) (nI V.length) σ2 ∧ (∀ b, b ≤ V.length → gi σ2 145 b = 0) ∧ Fr [145] σ1 σ2) (by omega) ⟨fun j hj => absurd hj (Nat.not_lt_zero _), Fr.refl _ _⟩ ?_ ?_
    · intro m i a hi hI
      obtain ⟨i1, i2⟩ := hI
      left
      refine ⟨wi a 145 i 0, ⟨fun j hj => ?_, i2.wi (by simp [pl])⟩, ?_⟩
      · rw [giw]
        by_cases z : j = i
        · rw [if_pos ⟨rfl, z⟩]
        · rw [if_neg (fun y => z y.2)]; exact i1 j (by omega)
      · rw [X8_tallyStorm_l15, if_neg (nI_nlt (show i ≤ V.length by omega) (by omega)), inbI (show i < 13 by omega) (by omega), clI (by omega), nI1]
        rfl
    · intro m a hI
      exact ⟨a, by rw [X8_tallyStorm_l15, if_pos (nI_lt (by omega) (by omega))], fun b hb1 => hI.1 b (by omega), hI.2⟩
  obtain ⟨σ2, l1, l2, l3⟩ := l15
  have f2 : Fr [145, 146, 147] σ σ2 := (a3.mono (by decide)).trans (l3.mono (by decide))
  obtain ⟨σ3, b1, b2, b3⟩ := tally_l35 hN ((f2.row19 (by decide)).trans hr) h8 hk (fun i hi => (f2.g (k := 15) (by simp [pl])).trans (en i hi)) hn ho h12 (a2.fr l3 (by simp [pl]) (by simp [pl])) l2
  refine ⟨σ3, ?_, b2, (f2.mono (by decide)).trans (b3.mono (by decide))⟩
  unfold X8_tallyStorm
  rw [bundleOf_s (by omega) (by rw [hr]; exact hW) (show k < 8 by omega), Option.bind_some, hr, a1, Option.bind_some, l1, X8_tallyStorm_j33, b1]
end ST
theorem power_c {N : Nat} (x : Nat) (hx : x < 2147483648) {t : Nat} (ht : t < N) (ht2 : t < 1000) (σ : Sg) : X8_power N (nI x) (nI t) σ = some (lN (x ^ t)) := by
  unfold X8_power
  refine forL0 (L := fun m i a => X8_power_l5 N σ m (nI x) (nI t) a (nI i)) (m := t) (a := (1 : Int64)) (fun i a => a = lN (x ^ i)) (o := fun y => y = some (lN (x ^ t))) ht rfl ?_ ?_
  · intro m i a hi ha
    left
    refine ⟨_, rfl, ?_⟩
    rw [X8_power_l5, if_neg (nI_ge hi (by omega)), ha, nI_l hx, lN_mul, nI1, Nat.pow_succ]
  · intro m a ha
    rw [X8_power_l5, if_pos (nI_le (Nat.le_refl _) (by omega)), ha]
theorem mod_half {b c : Nat} (hc : 0 < c) (hcb : c < b) : 2 * (b % c) < b := by
  have h1 := Nat.mod_lt b hc
  have h2 := Nat.div_add_mod b c
  have h3 : c ≤ c * (b / c) := Nat.le_mul_of_pos_right c (Nat.div_pos (by omega) hc)
  omega
theorem gcd_step (a b : Nat) : Nat.gcd a b = Nat.gcd b (a % b) := by rw [Nat.gcd_comm a b, Nat.gcd_rec b a, Nat.gcd_comm]
theorem lN_0 {b : Nat} (hb1 : b < 2 ^ 63) : (lg_cmp (lN b) 0 = 0) ↔ b = 0 := by
  rw [lg_cmp_eq]
  exact pk_lEQ (b := 0) hb1 (by decide)
theorem lN_ne {b : Nat} (hb1 : b < 2 ^ 63) (h : b ≠ 0) : ¬ lN b = 0 := fun u => h ((pk_lEQ (b := 0) hb1 (by decide)).mp u)
theorem gcd_c {N : Nat} (σ : Sg) : ∀ (k a b f i : Nat), a < 2 ^ 62 → b < 2 ^ 62 → b < 2 ^ k → 2 * k + 1 ≤ f → i + 2 * k < 1000 → X8_commonDivisor_l9 N σ f (lN a) (lN b) (nI i) = some (lN (Nat.gcd a b)) := by
  intro k
  induction k with
  | zero =>
    intro a b f i ha hb1 hbk hf hi
    have h0 : b = 0 := by omega
    subst h0
    obtain ⟨f, rfl⟩ : ∃ g, f = g + 1 := ⟨f - 1, by omega⟩
    rw [X8_commonDivisor_l9, if_neg (show ¬ (1000 : Int32) ≤ nI i from nI_ge (b := 1000) (by omega) (by decide)), if_pos ((lN_0 (by omega)).mpr rfl), Nat.gcd_zero_right]
  | succ k ih =>
    intro a b f i ha hb1 hbk hf hi
    obtain ⟨f, rfl⟩ : ∃ g, f = g + 1 := ⟨f - 1, by omega⟩
    rw [X8_commonDivisor_l9, if_neg (show ¬ (1000 : Int32) ≤ nI i from nI_ge (b := 1000) (by omega) (by decide))]
    by_cases h0 : b = 0
    · subst h0
      rw [if_pos ((lN_0 (by omega)).mpr rfl), Nat.gcd_zero_right]
    · have hmod := Nat.mod_lt a (show b > 0 by omega)
      rw [if_neg (fun u => h0 ((lN_0 (by omega)).mp u)), if_neg (lN_ne (by omega) h0), pk_lRem (by omega) (by omega) (by omega), nI1, gcd_step]
      obtain ⟨f, rfl⟩ : ∃ g, f = g + 1 := ⟨f - 1, by omega⟩
      rw [X8_commonDivisor_l9, if_neg (show ¬ (1000 : Int32) ≤ nI (i + 1) from nI_ge (b := 1000) (by omega) (by decide))]
      by_cases h1 : a % b = 0
      · rw [h1, if_pos ((lN_0 (by omega)).mpr rfl), Nat.gcd_zero_right]
      · have h2 := mod_half (show 0 < a % b by omega) hmod
        rw [if_neg (fun u => h1 ((lN_0 (by omega)).mp u)), if_neg (lN_ne (by omega) h1), pk_lRem (by omega) (by omega) (by omega), nI1, gcd_step]
        exact ih (a % b) (b % (a % b)) f (i + 1 + 1) (by omega) (by omega) (by rw [Nat.pow_succ] at hbk; omega) (by omega) (by omega)
theorem gcd_r {N : Nat} (σ : Sg) : ∀ (k a b f : Nat), a < 2 ^ 62 → b < 2 ^ 62 → b < 2 ^ k → 2 * k + 1 ≤ f → X9_commonF N f (lN a) (lN b) σ = some (lN (Nat.gcd a b)) := by
  intro k
  induction k with
  | zero =>
    intro a b f ha hb1 hbk hf
    have h0 : b = 0 := by omega
    subst h0
    obtain ⟨f, rfl⟩ : ∃ g, f = g + 1 := ⟨f - 1, by omega⟩
    rw [X9_commonF, X9_common_b, if_pos ((lN_0 (by omega)).mpr rfl), Nat.gcd_zero_right]
  | succ k ih =>
    intro a b f ha hb1 hbk hf
    obtain ⟨f, rfl⟩ : ∃ g, f = g + 1 := ⟨f - 1, by omega⟩
    rw [X9_commonF, X9_common_b]
    by_cases h0 : b = 0
    · subst h0
      rw [if_pos ((lN_0 (by omega)).mpr rfl), Nat.gcd_zero_right]
    · have hmod := Nat.mod_lt a (show b > 0 by omega)
      rw [if_neg (fun u => h0 ((lN_0 (by omega)).mp u)), if_neg (lN_ne (by omega) h0), pk_lRem (by omega) (by omega) (by omega), gcd_step]
      obtain ⟨f, rfl⟩ : ∃ g, f = g + 1 := ⟨f - 1, by omega⟩
      have inner : X9_commonF N (f + 1) (lN b) (lN (a % b)) σ = some (lN (Nat.gcd b (a % b))) := by
        rw [X9_commonF, X9_common_b]
        by_cases h1 : a % b = 0
        · rw [h1, if_pos ((lN_0 (by omega)).mpr rfl), Nat.gcd_zero_right]
        · have h2 := mod_half (show 0 < a % b by omega) hmod
          rw [if_neg (fun u => h1 ((lN_0 (by omega)).mp u)), if_neg (lN_ne (by omega) h1), pk_lRem (by omega) (by omega) (by omega), gcd_step b, ih (a % b) (b % (a % b)) f (by omega) (by omega) (by rw [Nat.pow_succ] at hbk; omega) (by omega)]
          rfl
      rw [inner]
      rfl
