/-! ===== the rule: what the class does at a sign ===== -/
def stg (s : Nat) : Nat := if s = 42 then 3 else if s = 43 then 2 else if s = 45 then 2 else if s = 47 then 3 else if s = 60 then 1 else if s = 61 then 1 else if s = 62 then 1 else if s = 126 then 4 else 0
def opT (s : Nat) : Nat := if s = 60 then 2000 else if s = 62 then 2001 else if s = 61 then 2002 else if s = 43 then 2003 else if s = 45 then 2004 else if s = 42 then 2005 else if s = 47 then 2006 else 3000
theorem stg_256 : ∀ s, s < 256 → (if nI s = 42 then some (3 : Int32) else if nI s = 43 then (some 2) else if nI s = 45 then (some 2) else if nI s = 47 then (some 3) else if nI s = 60 then (some 1) else if nI s = 61 then (some 1) else if nI s = 62 then (some 1) else if nI s = 126 then (some 4) else (some 0)) = some (nI (stg s)) := by decide +kernel
theorem strength_c (N : Nat) {s : Nat} (hs : s < 256) (σ : Sg) : X3_strengthOf N (nI s) σ = some (nI (stg s)) := stg_256 s hs
theorem stg_le (s : Nat) : stg s ≤ 4 := by unfold stg; repeat' split
                                           all_goals omega
theorem opT_tok : ∀ s, s < 256 → stg s ≠ 0 → 1008 + nI s = tokC (opT s) := by decide +kernel
theorem nar_256 : ∀ s, s < 256 → vp_nar .char (nI s) = nI s := by decide +kernel
def CR (k2 : Nat) (σ : Sg) (o w : List Nat) (d : Nat) (c : Nat → Bool) (g : Nat) (b : Bool) : Prop :=
  gi σ k2 3 = nI o.length ∧ (∀ i, i < o.length → gi σ (k2 + 1) i = tokC (o.getD i 0)) ∧ gi σ k2 4 = nI w.length ∧ (∀ i, i < w.length → gi σ (k2 + 3) i = nI (w.getD i 0)) ∧ gi σ k2 5 = nI d ∧ (∀ j, j ≤ 4 → hb (gi σ k2 6) j = c j) ∧ gi σ k2 7 = nI g ∧ gi σ k2 8 = (if b = true then 1 else 0)
def frK (k2 : Nat) : List Nat := [k2, k2 + 1, k2 + 3]
theorem getD_last {α : Type} (l : List α) (x d : α) (i : Nat) : (l ++ [x]).getD i d = if i < l.length then l.getD i d else if i = l.length then x else d := by
  by_cases z : i < l.length
  · rw [if_pos z, List.getD_eq_getElem?_getD, List.getElem?_append_left z, ← List.getD_eq_getElem?_getD]
  · rw [if_neg z]
    by_cases y : i = l.length
    · rw [if_pos y, y, List.getD_eq_getElem?_getD, List.getElem?_append_right (Nat.le_refl _), Nat.sub_self]; rfl
    · rw [if_neg y, List.getD_eq_getElem?_getD, List.getElem?_eq_none (by simp; omega)]; rfl
section CL
variable {N k2 : Nat} {o w : List Nat} {d g : Nat} {c : Nat → Bool} {b : Bool}
theorem plK (hk : k2 = 7 ∨ k2 = 11) : (∀ j, pl k2 j ∈ frK k2) ∧ (∀ j, pl (k2 + 1) j ∈ frK k2) ∧ (∀ j, pl (k2 + 3) j ∈ frK k2) := by
  rcases hk with rfl | rfl <;> refine ⟨fun j => ?_, fun j => ?_, fun j => ?_⟩ <;> simp [pl, frK]
theorem emit_c (hk : k2 = 7 ∨ k2 = 11) {σ : Sg} (h : CR k2 σ o w d c g b) (ho : o.length < 40) (t : Nat) : ∃ σ', X3_emit N k2 (tokC t) σ = some σ' ∧ CR k2 σ' (o ++ [t]) w d c g b ∧ Fr (frK k2) σ σ' := by
  obtain ⟨h1, h2, h3, h4, h5, h6, h7, h8⟩ := h
  obtain ⟨p1, p2, p3⟩ := plK hk
  refine ⟨wi (wi σ (k2 + 1) o.length (tokC t)) k2 3 (gi (wi σ (k2 + 1) o.length (tokC t)) k2 3 + 1), ?_, ⟨?_, ?_, ?_, ?_, ?_, ?_, ?_, ?_⟩, ((Fr.refl _ _).wi (p2 _)).wi (p1 _)⟩
  · unfold X3_emit
    rw [h1, if_neg (show ¬ (40 : Int32) ≤ nI o.length from nI_ge (b := 40) ho (by decide)), inbI (show o.length < 40 by omega) (by omega), if_pos rfl, clI (by omega)]
    rfl
  · rw [giw_s, gi_wi_ne (by omega), h1, nI1, List.length_append]; rfl
  · intro i hi
    rw [List.length_append] at hi
    simp only [List.length_cons, List.length_nil] at hi
    rw [gi_wi_ne (by omega), giw, getD_last]
    by_cases z : i = o.length
    · rw [if_pos ⟨rfl, z⟩, if_neg (by omega), if_pos z]
    · rw [if_neg (fun u => z u.2), if_pos (by omega)]; exact h2 i (by omega)
  · rw [giw, if_neg (by omega), gi_wi_ne (by omega)]; exact h3
  · intro i hi
    rw [gi_wi_ne (by omega), gi_wi_ne (by omega)]; exact h4 i hi
  · rw [giw, if_neg (by omega), gi_wi_ne (by omega)]; exact h5
  · intro j hj
    rw [giw, if_neg (by omega), gi_wi_ne (by omega)]; exact h6 j hj
  · rw [giw, if_neg (by omega), gi_wi_ne (by omega)]; exact h7
  · rw [giw, if_neg (by omega), gi_wi_ne (by omega)]; exact h8
theorem hold_c (hk : k2 = 7 ∨ k2 = 11) {σ : Sg} (h : CR k2 σ o w d c g b) (hw : w.length < 40) {s : Nat} (hs : s < 256) : ∃ σ', X3_hold N k2 (nI s) σ = some σ' ∧ CR k2 σ' o (w ++ [s]) d c g b ∧ Fr (frK k2) σ σ' := by
  obtain ⟨h1, h2, h3, h4, h5, h6, h7, h8⟩ := h
  obtain ⟨p1, p2, p3⟩ := plK hk
  refine ⟨wi (wi σ (k2 + 3) w.length (nI s)) k2 4 (gi (wi σ (k2 + 3) w.length (nI s)) k2 4 + 1), ?_, ⟨?_, ?_, ?_, ?_, ?_, ?_, ?_, ?_⟩, ((Fr.refl _ _).wi (p3 _)).wi (p1 _)⟩
  · unfold X3_hold
    rw [h3, if_neg (show ¬ (40 : Int32) ≤ nI w.length from nI_ge (b := 40) hw (by decide)), inbI (show w.length < 40 by omega) (by omega), if_pos rfl, clI (by omega), nar_256 s hs]
    rfl
  · rw [giw, if_neg (by omega), gi_wi_ne (by omega)]; exact h1
  · intro i hi
    rw [gi_wi_ne (by omega), gi_wi_ne (by omega)]; exact h2 i hi
  · rw [giw_s, gi_wi_ne (by omega), h3, nI1, List.length_append]; rfl
  · intro i hi
    rw [List.length_append] at hi
    simp only [List.length_cons, List.length_nil] at hi
    rw [gi_wi_ne (by omega), giw, getD_last]
    by_cases z : i = w.length
    · rw [if_pos ⟨rfl, z⟩, if_neg (by omega), if_pos z]
    · rw [if_neg (fun u => z u.2), if_pos (by omega)]; exact h4 i (by omega)
  · rw [giw, if_neg (by omega), gi_wi_ne (by omega)]; exact h5
  · intro j hj
    rw [giw, if_neg (by omega), gi_wi_ne (by omega)]; exact h6 j hj
  · rw [giw, if_neg (by omega), gi_wi_ne (by omega)]; exact h7
  · rw [giw, if_neg (by omega), gi_wi_ne (by omega)]; exact h8
/-- a number of the rule's own set: digits, wants a thing -/
theorem CR.set7 {σ : Sg} (h : CR k2 σ o w d c g b) (x : Nat) : CR k2 (wi σ k2 7 (nI x)) o w d c x b := by
  obtain ⟨h1, h2, h3, h4, h5, h6, h7, h8⟩ := h
  refine ⟨?_, fun i hi => ?_, ?_, fun i hi => ?_, ?_, fun j hj => ?_, ?_, ?_⟩
  · rw [giw, if_neg (by omega)]; exact h1
  · rw [gi_wi_ne (by omega)]; exact h2 i hi
  · rw [giw, if_neg (by omega)]; exact h3
  · rw [gi_wi_ne (by omega)]; exact h4 i hi
  · rw [giw, if_neg (by omega)]; exact h5
  · rw [giw, if_neg (by omega)]; exact h6 j hj
  · rw [giw_s]
  · rw [giw, if_neg (by omega)]; exact h8
theorem CR.set8 {σ : Sg} (h : CR k2 σ o w d c g b) (x : Bool) : CR k2 (wi σ k2 8 (if x = true then 1 else 0)) o w d c g x := by
  obtain ⟨h1, h2, h3, h4, h5, h6, h7, h8⟩ := h
  refine ⟨?_, fun i hi => ?_, ?_, fun i hi => ?_, ?_, fun j hj => ?_, ?_, ?_⟩
  · rw [giw, if_neg (by omega)]; exact h1
  · rw [gi_wi_ne (by omega)]; exact h2 i hi
  · rw [giw, if_neg (by omega)]; exact h3
  · rw [gi_wi_ne (by omega)]; exact h4 i hi
  · rw [giw, if_neg (by omega)]; exact h5
  · rw [giw, if_neg (by omega)]; exact h6 j hj
  · rw [giw, if_neg (by omega)]; exact h7
  · rw [giw_s]
theorem CR.set5 {σ : Sg} (h : CR k2 σ o w d c g b) (x : Nat) : CR k2 (wi σ k2 5 (nI x)) o w x c g b := by
  obtain ⟨h1, h2, h3, h4, h5, h6, h7, h8⟩ := h
  refine ⟨?_, fun i hi => ?_, ?_, fun i hi => ?_, ?_, fun j hj => ?_, ?_, ?_⟩
  · rw [giw, if_neg (by omega)]; exact h1
  · rw [gi_wi_ne (by omega)]; exact h2 i hi
  · rw [giw, if_neg (by omega)]; exact h3
  · rw [gi_wi_ne (by omega)]; exact h4 i hi
  · rw [giw_s]
  · rw [giw, if_neg (by omega)]; exact h6 j hj
  · rw [giw, if_neg (by omega)]; exact h7
  · rw [giw, if_neg (by omega)]; exact h8
theorem CR.set6 {σ : Sg} (h : CR k2 σ o w d c g b) (x : Int32) {c' : Nat → Bool} (hx : ∀ j, j ≤ 4 → hb x j = c' j) : CR k2 (wi σ k2 6 x) o w d c' g b := by
  obtain ⟨h1, h2, h3, h4, h5, h6, h7, h8⟩ := h
  refine ⟨?_, fun i hi => ?_, ?_, fun i hi => ?_, ?_, fun j hj => ?_, ?_, ?_⟩
  · rw [giw, if_neg (by omega)]; exact h1
  · rw [gi_wi_ne (by omega)]; exact h2 i hi
  · rw [giw, if_neg (by omega)]; exact h3
  · rw [gi_wi_ne (by omega)]; exact h4 i hi
  · rw [giw, if_neg (by omega)]; exact h5
  · rw [giw_s]; exact hx j hj
  · rw [giw, if_neg (by omega)]; exact h7
  · rw [giw, if_neg (by omega)]; exact h8
theorem CR.pop {σ : Sg} {s : Nat} (h : CR k2 σ o (w ++ [s]) d c g b) : CR k2 (wi σ k2 4 (nI w.length)) o w d c g b := by
  obtain ⟨h1, h2, h3, h4, h5, h6, h7, h8⟩ := h
  refine ⟨?_, fun i hi => ?_, ?_, fun i hi => ?_, ?_, fun j hj => ?_, ?_, ?_⟩
  · rw [giw, if_neg (by omega)]; exact h1
  · rw [gi_wi_ne (by omega)]; exact h2 i hi
  · rw [giw_s]
  · rw [gi_wi_ne (by omega), h4 i (by rw [List.length_append]; omega), getD_last, if_pos hi]
  · rw [giw, if_neg (by omega)]; exact h5
  · rw [giw, if_neg (by omega)]; exact h6 j hj
  · rw [giw, if_neg (by omega)]; exact h7
  · rw [giw, if_neg (by omega)]; exact h8
/-- the top of the waiting binds weaker -/
def Wt (q : Nat) (w : List Nat) : Prop := ∀ u a, w = u ++ [a] → stg a < q ∧ a < 256
theorem rel_l7 (hk : k2 = 7 ∨ k2 = 11) {q : Nat} (hq1 : 1 ≤ q) (hq : q ≤ 4) (hw : Wt q w) : ∀ (u : List Nat) (σ : Sg) (o : List Nat) (f : Nat), CR k2 σ o (w ++ u.reverse) d c g b → (∀ s ∈ u, q ≤ stg s ∧ s < 256) → o.length + w.length + u.length ≤ 40 → u.length < f → ∃ σ', X3_release_l7 N k2 f (nI q) (nI (w ++ u.reverse).length - 1) σ = some σ' ∧ CR k2 σ' (o ++ u.map opT) w d c g b ∧ Fr (frK k2) σ σ' := by
  intro u
  induction u with
  | nil =>
    intro σ o f h _ hlen hf
    obtain ⟨f, rfl⟩ : ∃ z, f = z + 1 := ⟨f - 1, by omega⟩
    rw [List.reverse_nil, List.append_nil] at h ⊢
    refine ⟨σ, ?_, by rw [List.map_nil, List.append_nil]; exact h, Fr.refl _ _⟩
    rcases List.eq_nil_or_concat w with z | ⟨v, a, z⟩
    · rw [z, X3_release_l7, if_pos (by decide)]
    · rw [List.concat_eq_append] at z
      have ha := hw v a z
      have hl : w.length = v.length + 1 := by rw [z, List.length_append]; rfl
      simp only [List.length_nil, Nat.add_zero] at hlen
      rw [hl, nI_pred, X3_release_l7, if_neg (nI_pos (by omega)), inbI (show v.length < 40 by omega) (by omega), if_pos rfl, clI (by omega), h.2.2.2.1 v.length (by omega), z, getD_last, if_neg (by omega), if_pos rfl, strength_c N ha.2, Option.bind_some, if_pos (nI_lt ha.1 (by omega))]
  | cons s u ih =>
    intro σ o f h hu hlen hf
    obtain ⟨f, rfl⟩ : ∃ z, f = z + 1 := ⟨f - 1, by omega⟩
    have hs := hu s (by simp)
    rw [List.reverse_cons, ← List.append_assoc] at h ⊢
    simp only [List.length_cons] at hlen hf
    have hl : (w ++ u.reverse ++ [s]).length = (w ++ u.reverse).length + 1 := by rw [List.length_append]; rfl
    have hl2 : (w ++ u.reverse).length = w.length + u.length := by rw [List.length_append, List.length_reverse]
    obtain ⟨σ1, e1, e2, e3⟩ := emit_c (N := N) hk h (by omega) (opT s)
    obtain ⟨σ2, g1, g2, g3⟩ := ih (wi σ1 k2 4 (nI (w ++ u.reverse).length)) (o ++ [opT s]) f (CR.pop e2) (fun x hx => hu x (by simp [hx])) (by rw [List.length_append]; simp only [List.length_cons, List.length_nil]; omega) (by omega)
    refine ⟨σ2, ?_, by rw [List.map_cons, List.append_cons]; exact g2, e3.trans (((Fr.refl _ _).wi ((plK hk).1 _)).trans g3)⟩
    have hwa : gi σ (k2 + 3) (w ++ u.reverse).length = nI s := by rw [h.2.2.2.1 _ (by omega), getD_last, if_neg (by omega), if_pos rfl]
    rw [hl, nI_pred, X3_release_l7, if_neg (nI_pos (by omega)), inbI (show (w ++ u.reverse).length < 40 by omega) (by omega), if_pos rfl, clI (by omega), hwa, strength_c N hs.2, Option.bind_some, if_neg (nI_nlt hs.1 (by have := stg_le s; omega)), if_pos rfl, opT_tok s hs.2 (by omega), e1, Option.bind_some]
    simp only [bnS]
    rw [show nI (w ++ u.reverse).length + (-1) = nI (w ++ u.reverse).length - 1 from (Int32.sub_eq_add_neg _ _).symm]
    exact g1
theorem release_c (hN : 50 < N) (hk : k2 = 7 ∨ k2 = 11) {q : Nat} (hq1 : 1 ≤ q) (hq : q ≤ 4) (hw : Wt q w) {p : List Nat} {σ : Sg} (h : CR k2 σ o (w ++ p) d c g b) (hp : ∀ s ∈ p, q ≤ stg s ∧ s < 256) (hlen : o.length + w.length + p.length ≤ 40) : ∃ σ', X3_release N k2 (nI q) σ = some σ' ∧ CR k2 σ' (o ++ p.reverse.map opT) w d c g b ∧ Fr (frK k2) σ σ' := by
  have h3 := h.2.2.1
  have hl := List.length_reverse (as := p)
  have := rel_l7 (N := N) hk hq1 hq hw p.reverse σ o N (by rw [List.reverse_reverse]; exact h) (fun s hs => hp s (List.mem_reverse.mp hs)) (by omega) (by omega)
  rw [List.reverse_reverse] at this
  obtain ⟨σ', a1, a2, a3⟩ := this
  refine ⟨σ', ?_, a2, a3⟩
  unfold X3_release
  rw [h3]
  exact a1
/-! a thing is wanted -/
theorem want_neg (hk : k2 = 7 ∨ k2 = 11) {σ : Sg} (h : CR k2 σ o w d c g b) (hw : w.length < 40) : ∃ σ', X3_takeThing N k2 (nI 45) σ = some (1, σ') ∧ CR k2 σ' o (w ++ [126]) d c g b ∧ Fr (frK k2) σ σ' := by
  obtain ⟨σ', a1, a2, a3⟩ := hold_c (N := N) hk h hw (s := 126) (by omega)
  refine ⟨σ', ?_, a2, a3⟩
  unfold X3_takeThing
  rw [if_pos (show nI 45 = 45 from rfl), show (126 : Int32) = nI 126 from rfl, a1]
  rfl
theorem want_open (hk : k2 = 7 ∨ k2 = 11) {σ : Sg} (h : CR k2 σ o w d c g b) (hw : w.length < 40) (hd : d < 4) : ∃ σ', X3_takeThing N k2 (nI 40) σ = some (1, σ') ∧ CR k2 σ' o (w ++ [40]) (d + 1) (fun j => if j = d + 1 then false else c j) g b ∧ Fr (frK k2) σ σ' := by
  have h5 := h.2.2.2.2.1
  have s5 := h.set5 (d + 1)
  have s6 := s5.set6 (gi (wi σ k2 5 (nI (d + 1))) k2 6 &&& ((1 <<< (nI (d + 1) &&& 31)) ^^^ (-1))) (c' := fun j => if j = d + 1 then false else c j) (fun j hj => by
    rw [hb_and, hb_not _ (by omega), hb_one (d + 1) (by omega) j (by omega), s5.2.2.2.2.2.1 j hj]
    by_cases z : j = d + 1
    · rw [if_pos z, decide_eq_true z]; simp
    · rw [if_neg z, decide_eq_false z]; simp)
  obtain ⟨σ', a1, a2, a3⟩ := hold_c (N := N) hk s6 hw (s := 40) (by omega)
  refine ⟨σ', ?_, a2, (((Fr.refl _ _).wi ((plK hk).1 _)).wi ((plK hk).1 _)).trans a3⟩
  unfold X3_takeThing
  rw [if_neg (show ¬ nI 40 = 45 by decide), if_pos (show nI 40 = 40 from rfl)]
  unfold X3_open
  rw [h5, if_neg (fun u => by have := (nI_eq (b := 4) (by omega) (by decide)).mp u; omega), nI1]
  simp only [bnS]
  rw [giw_s, show (40 : Int32) = nI 40 from rfl, a1]
  rfl
theorem want_open4 {σ : Sg} (h : CR k2 σ o w 4 c g b) : X3_takeThing N k2 (nI 40) σ = some (0, σ) := by
  unfold X3_takeThing
  rw [if_neg (show ¬ nI 40 = 45 by decide), if_pos (show nI 40 = 40 from rfl)]
  unfold X3_open
  rw [h.2.2.2.2.1, if_pos (show nI 4 = 4 from rfl)]
  rfl
theorem dig45 : ∀ s, s < 256 → isD s = true → ¬ nI s = 45 ∧ ¬ nI s = 40 ∧ ¬ nI s < 48 ∧ ¬ 57 < nI s ∧ nI s - 48 = nI (s - 48) ∧ s - 48 ≤ 9 := by decide +kernel
theorem ndig45 : ∀ s, s < 256 → isD s = false → nI s < 48 ∨ 57 < nI s := by decide +kernel
theorem want_digit (hk : k2 = 7 ∨ k2 = 11) {σ : Sg} (h : CR k2 σ o w d c g b) (ho : o.length < 40) {s : Nat} (hs : s < 256) (hd : isD s = true) : ∃ σ', X3_takeThing N k2 (nI s) σ = some (1, σ') ∧ CR k2 σ' (o ++ [s - 48]) w d c 1 false ∧ Fr (frK k2) σ σ' := by
  obtain ⟨z1, z2, z3, z4, z5, z6⟩ := dig45 s hs hd
  obtain ⟨σ1, a1, a2, a3⟩ := emit_c (N := N) hk h ho (s - 48)
  have et : tokC (s - 48) = nI (s - 48) := if_pos (by omega)
  rw [et] at a1
  refine ⟨wi (wi σ1 k2 7 1) k2 8 0, ?_, (a2.set7 1).set8 false, (a3.wi ((plK hk).1 _)).wi ((plK hk).1 _)⟩
  unfold X3_takeThing
  rw [if_neg z1, if_neg z2, if_neg z3, if_neg z4, z5, a1]
  rfl
theorem name_l59 (hN : 20 < N) {σ : Sg} (s : Int32) {k : Nat} (hk : k ≤ 8) (h1 : ∀ j, j < k → ¬ oC1.getD j 0 = s) (h2 : k < 8 → oC1.getD k 0 = s) (K : Int32 → Sg → Option (Int32 × Sg)) : X3_takeThing_l59 N k2 K N s 0 σ = if k < 8 then K (nI k) σ else some (0, σ) := by
  refine forL0 (L := fun f i (_ : Unit) => X3_takeThing_l59 N k2 K f s (nI i) σ) (m := k) (a := ()) (fun i _ => i ≤ k) (o := fun x => x = if k < 8 then K (nI k) σ else some (0, σ)) (by omega) (by omega) ?_ ?_
  · intro f i _ hi _
    left
    refine ⟨(), by omega, ?_⟩
    rw [X3_takeThing_l59, if_neg (c8 (by omega)), inbI (show i < 8 by omega) (by omega), if_pos rfl, clI (by omega), if_neg (h1 i hi), nI1]
  · intro f _ _
    by_cases z : k < 8
    · rw [X3_takeThing_l59, if_neg (c8 z), inbI z (by omega), if_pos rfl, clI (by omega), if_pos (h2 z), if_pos z]
    · have : k = 8 := by omega
      subst this
      rw [X3_takeThing_l59, if_pos c8', if_neg (by omega)]
def nmK (s : Nat) : Nat := if s = 122 then 0 else if s = 119 then 1 else if s = 107 then 2 else if s = 103 then 3 else if s = 104 then 4 else if s = 100 then 5 else if s = 105 then 6 else if s = 110 then 7 else 8
theorem nm_256 : ∀ s, s < 256 → nmK s ≤ 8 ∧ (∀ j, j < nmK s → ¬ oC1.getD j 0 = nI s) ∧ (nmK s < 8 → oC1.getD (nmK s) 0 = nI s) ∧ (nmK s < 8 → isD s = false ∧ ¬ nI s = 45 ∧ ¬ nI s = 40) := by decide +kernel
theorem want_rest (hN : 20 < N) {σ : Sg} {s : Nat} (hs : s < 256) (h1 : isD s = false) (h2 : s ≠ 45) (h3 : s ≠ 40) : X3_takeThing N k2 (nI s) σ = if nmK s < 8 then X3_takeThing_j76 N k2 (nI (nmK s)) σ else some (0, σ) := by
  obtain ⟨q1, q2, q3, q4⟩ := nm_256 s hs
  have l := name_l59 (N := N) (k2 := k2) hN (σ := σ) (nI s) q1 q2 q3 (fun v2 σ => X3_takeThing_j76 N k2 v2 σ)
  unfold X3_takeThing
  rw [if_neg (show ¬ nI s = 45 from fun u => h2 ((nI_eq (b := 45) (by omega) (by decide)).mp u)), if_neg (show ¬ nI s = 40 from fun u => h3 ((nI_eq (b := 40) (by omega) (by decide)).mp u)), l]
  by_cases z : nI s < 48
  · rw [if_pos z]
  · rw [if_neg z]
    rcases ndig45 s hs h1 with y | y
    · exact absurd y z
    · rw [if_pos y]
theorem want_name (hN : 20 < N) (hk : k2 = 7 ∨ k2 = 11) {σ : Sg} (h : CR k2 σ o w d c g b) (ho : o.length < 40) {s : Nat} (hs : s < 256) (hn : nmK s < 8) : ∃ σ', X3_takeThing N k2 (nI s) σ = some (1, σ') ∧ CR k2 σ' (o ++ [1000 + nmK s]) w d c g false ∧ Fr (frK k2) σ σ' := by
  obtain ⟨q1, q2, q3, q4⟩ := nm_256 s hs
  obtain ⟨y1, y2, y3⟩ := q4 hn
  obtain ⟨σ1, a1, a2, a3⟩ := emit_c (N := N) hk h ho (1000 + nmK s)
  have et : tokC (1000 + nmK s) = 1000 + nI (nmK s) := (if_pos (show 1000 + nmK s < 2000 by omega)).trans (nI_add 1000 (nmK s)).symm
  rw [et] at a1
  refine ⟨wi σ1 k2 8 0, ?_, a2.set8 false, a3.wi ((plK hk).1 _)⟩
  rw [want_rest hN hs y1 (fun u => y2 (by rw [u]; rfl)) (fun u => y3 (by rw [u]; rfl)), if_pos hn, X3_takeThing_j76, a1]
  rfl
theorem want_no (hN : 20 < N) {σ : Sg} {s : Nat} (hs : s < 256) (h1 : isD s = false) (h2 : s ≠ 45) (h3 : s ≠ 40) (hn : ¬ nmK s < 8) : X3_takeThing N k2 (nI s) σ = some (0, σ) := by
  rw [want_rest hN hs h1 h2 h3, if_neg hn]
/-! what may stand behind a thing -/
theorem beh_digit (hk : k2 = 7 ∨ k2 = 11) {x : Nat} {σ : Sg} (h : CR k2 σ (o ++ [x]) w d c g b) (ho : o.length < 40) (hg : 1 ≤ g) (hg2 : g < 3) (hx : x < 200) {s : Nat} (hs : s < 256) (hd : isD s = true) : ∃ σ', X3_takeBehind N k2 (nI s) σ = some (1, σ') ∧ CR k2 σ' (o ++ [10 * x + (s - 48)]) w d c (g + 1) b ∧ Fr (frK k2) σ σ' := by
  obtain ⟨z1, z2, z3, z4, z5, z6⟩ := dig45 s hs hd
  obtain ⟨h1, h2, h3, h4, h5, h6, h7, h8⟩ := h
  have hl : (o ++ [x]).length = o.length + 1 := by rw [List.length_append]; rfl
  have e1 : nI (o ++ [x]).length - 1 = nI o.length := by rw [hl, nI_pred]
  have ex : gi σ (k2 + 1) o.length = nI x := by rw [h2 o.length (by omega), getD_last, if_neg (by omega), if_pos rfl]; exact if_pos (by omega)
  have ev : nI x * 10 + nI (s - 48) = nI (10 * x + (s - 48)) := by rw [show nI x * 10 = nI (x * 10) from pk_mul x 10, nI_add, Nat.mul_comm]
  refine ⟨wi (wi σ (k2 + 1) o.length (nI (10 * x + (s - 48)))) k2 7 (nI (g + 1)), ?_, ⟨?_, ?_, ?_, ?_, ?_, ?_, ?_, ?_⟩, ((Fr.refl _ _).wi ((plK hk).2.1 _)).wi ((plK hk).1 _)⟩
  · unfold X3_takeBehind
    rw [if_neg z3, if_neg z4, z5]
    unfold X3_lengthen
    rw [h7, if_neg (nI_ne0 (by omega) (by omega)), if_neg (fun u => by have := (nI_eq (b := 3) (by omega) (by decide)).mp u; omega), h1, if_pos (show (1 : Int32) ≤ nI (o ++ [x]).length from nI_le (a := 1) (by omega) (by omega)), e1, inbI (show o.length < 40 by omega) (by omega), if_pos rfl, if_pos rfl, clI (by omega), ex, ev]
    simp only [bnS]
    rw [gi_wi_ne (by omega), h7, nI1]
    rfl
  · rw [giw, if_neg (by omega), gi_wi_ne (by omega), h1, hl, List.length_append]; rfl
  · intro i hi
    have hl' : (o ++ [10 * x + (s - 48)]).length = o.length + 1 := by rw [List.length_append]; rfl
    rw [gi_wi_ne (by omega), giw, getD_last]
    by_cases z : i = o.length
    · rw [if_pos ⟨rfl, z⟩, if_neg (by omega), if_pos z]; exact (if_pos (by omega)).symm
    · rw [if_neg (fun u => z u.2), if_pos (by omega), h2 i (by omega), getD_last, if_pos (by omega)]
  · rw [giw, if_neg (by omega), gi_wi_ne (by omega)]; exact h3
  · intro i hi
    rw [gi_wi_ne (by omega), gi_wi_ne (by omega)]; exact h4 i hi
  · rw [giw, if_neg (by omega), gi_wi_ne (by omega)]; exact h5
  · intro j hj
    rw [giw, if_neg (by omega), gi_wi_ne (by omega)]; exact h6 j hj
  · rw [giw_s]
  · rw [giw, if_neg (by omega), gi_wi_ne (by omega)]; exact h8
theorem beh_digit_no {σ : Sg} (h : CR k2 σ o w d c g b) (hg : g = 0 ∨ g = 3) {s : Nat} (hs : s < 256) (hd : isD s = true) : X3_takeBehind N k2 (nI s) σ = some (0, σ) := by
  obtain ⟨z1, z2, z3, z4, z5, z6⟩ := dig45 s hs hd
  unfold X3_takeBehind
  rw [if_neg z3, if_neg z4, z5]
  unfold X3_lengthen
  rw [h.2.2.2.2.2.2.1]
  rcases hg with rfl | rfl
  · rw [if_pos (show nI 0 = 0 from rfl)]; rfl
  · rw [if_neg (show ¬ nI 3 = 0 by decide), if_pos (show nI 3 = 3 from rfl)]; rfl
theorem beh_j21 {σ : Sg} {s : Nat} (hs : s < 256) (h1 : isD s = false) : X3_takeBehind N k2 (nI s) σ = X3_takeBehind_j21 N k2 (nI s) σ := by
  unfold X3_takeBehind
  by_cases z : nI s < 48
  · rw [if_pos z]
  · rw [if_neg z]
    rcases ndig45 s hs h1 with y | y
    · exact absurd y z
    · rw [if_pos y]
theorem beh_close (hN : 50 < N) (hk : k2 = 7 ∨ k2 = 11) (hd : d < 4) {p : List Nat} {σ : Sg} (h : CR k2 σ o (w ++ [40] ++ p) (d + 1) c g b) (hp : ∀ s ∈ p, 1 ≤ stg s ∧ s < 256) (hlen : o.length + w.length + p.length ≤ 39) : ∃ σ', X3_takeBehind N k2 (nI 41) σ = some (1, σ') ∧ CR k2 σ' (o ++ p.reverse.map opT) w d c 0 b ∧ Fr (frK k2) σ σ' := by
  have s7 := (h.set7 0).set5 d
  have hl : (w ++ [40]).length = w.length + 1 := by rw [List.length_append]; rfl
  obtain ⟨σ1, a1, a2, a3⟩ := release_c (N := N) hN hk (q := 1) (by omega) (by omega) (w := w ++ [40]) (fun u a hu => by
    have := (List.append_inj' hu rfl).2
    rw [List.cons.injEq] at this
    rw [← this.1]; exact ⟨by decide, by omega⟩) s7 hp (by omega)
  have p4 := a2.pop
  refine ⟨wi σ1 k2 4 (nI w.length), ?_, p4, (((Fr.refl _ _).wi ((plK hk).1 _)).wi ((plK hk).1 _)).trans (a3.wi ((plK hk).1 _))⟩
  rw [beh_j21 (by omega) (by decide), X3_takeBehind_j21]
  simp only [bnS]
  rw [if_pos (show nI 41 = 41 from rfl)]
  unfold X3_close
  have h5 : gi (wi σ k2 7 0) k2 5 = nI (d + 1) := (h.set7 0).2.2.2.2.1
  rw [h5, if_neg (nI_ne0 (by omega) (by omega)), nI_pred]
  simp only [bnS]
  have a1' : X3_release N k2 1 (wi (wi σ k2 7 0) k2 5 (nI d)) = some σ1 := a1
  rw [a1', Option.bind_some, a2.2.2.1, hl, nI_pred, max_b, Option.bind_some, if_neg (nI_pos (by omega))]
  rfl
theorem stg_op : ∀ s, s < 256 → stg s ≠ 0 → isD s = false ∧ ¬ nI s = 41 := by decide +kernel
theorem beh_op (hN : 50 < N) (hk : k2 = 7 ∨ k2 = 11) (hd : d ≤ 4) {p : List Nat} {σ : Sg} (h : CR k2 σ o (w ++ p) d c g b) {s : Nat} (hs : s < 256) (h1 : 1 ≤ stg s) (h3 : stg s ≤ 3) (hw : Wt (stg s) w) (hp : ∀ x ∈ p, stg s ≤ stg x ∧ x < 256) (hc : stg s = 1 → c d = false) (hlen : o.length + w.length + p.length ≤ 39) : ∃ σ', X3_takeBehind N k2 (nI s) σ = some (1, σ') ∧ CR k2 σ' (o ++ p.reverse.map opT) (w ++ [s]) d (fun j => if stg s = 1 ∧ j = d then true else c j) 0 true ∧ Fr (frK k2) σ σ' := by
  obtain ⟨n1, n2⟩ := stg_op s hs (by omega)
  have s7 : CR k2 (wi σ k2 7 0) o (w ++ p) d c 0 b := h.set7 0
  have key : ∀ (τ : Sg) (c' : Nat → Bool), CR k2 τ o (w ++ p) d c' 0 b → ∃ σ', X3_takeBehind_j91 N k2 (nI s) (nI (stg s)) τ = some (1, σ') ∧ CR k2 σ' (o ++ p.reverse.map opT) (w ++ [s]) d c' 0 true ∧ Fr (frK k2) τ σ' := by
    intro τ c' hτ
    obtain ⟨σ1, a1, a2, a3⟩ := release_c (N := N) hN hk h1 (by omega) hw hτ hp (by omega)
    obtain ⟨σ2, e1, e2, e3⟩ := hold_c (N := N) hk a2 (by omega) hs
    refine ⟨wi σ2 k2 8 1, ?_, e2.set8 true, (a3.trans e3).wi ((plK hk).1 _)⟩
    rw [X3_takeBehind_j91, a1, Option.bind_some, e1]
    rfl
  rw [beh_j21 hs n1, X3_takeBehind_j21]
  simp only [bnS]
  rw [if_neg n2, strength_c N hs, Option.bind_some, if_neg (show ¬ nI (stg s) < 1 from nI_nlt (b := 1) h1 (by omega)), if_pos (show nI (stg s) ≤ 3 from nI_le (b := 3) h3 (by decide))]
  by_cases z : stg s = 1
  · have hcd : hb (gi (wi σ k2 7 0) k2 6) d = false := by rw [s7.2.2.2.2.2.1 d hd]; exact hc z
    obtain ⟨σ', a1, a2, a3⟩ := key (wi (wi σ k2 7 0) k2 6 (gi (wi σ k2 7 0) k2 6 ||| (1 <<< (nI d &&& 31)))) (fun j => if stg s = 1 ∧ j = d then true else c j) (s7.set6 _ (fun j hj => by
      rw [hb_or, hb_one d (by omega) j (by omega), s7.2.2.2.2.2.1 j hj]
      by_cases y : j = d
      · rw [if_pos ⟨z, y⟩, decide_eq_true y]; simp
      · rw [if_neg (fun u => y u.2), decide_eq_false y]; simp))
    refine ⟨σ', ?_, a2, (((Fr.refl _ _).wi ((plK hk).1 _)).wi ((plK hk).1 _)).trans a3⟩
    rw [if_pos (show nI (stg s) = 1 by rw [z]; rfl), s7.2.2.2.2.1, if_neg (fun u => by have := (hasT _ (by omega)).mp u; rw [hcd] at this; exact Bool.noConfusion this)]
    exact a1
  · obtain ⟨σ', a1, a2, a3⟩ := key (wi σ k2 7 0) (fun j => if stg s = 1 ∧ j = d then true else c j) (by
      have e : (fun j => if stg s = 1 ∧ j = d then true else c j) = c := funext fun j => if_neg (fun u => z u.1)
      rw [e]; exact s7)
    refine ⟨σ', ?_, a2, ((Fr.refl _ _).wi ((plK hk).1 _)).trans a3⟩
    rw [if_neg (show ¬ nI (stg s) = 1 from fun u => z ((nI_eq (b := 1) (by omega) (by decide)).mp u))]
    exact a1
theorem beh_no (hk : k2 = 7 ∨ k2 = 11) (hd : d ≤ 4) {σ : Sg} (h : CR k2 σ o w d c g b) {s : Nat} (hs : s < 256) (h1 : isD s = true → g = 0 ∨ g = 3) (h2 : s = 41 → d = 0) (h3 : stg s = 0 ∨ stg s = 4 ∨ (stg s = 1 ∧ c d = true)) : ∃ σ', X3_takeBehind N k2 (nI s) σ = some (0, σ') ∧ Fr (frK k2) σ σ' := by
  cases hx : isD s
  · have s7 : CR k2 (wi σ k2 7 0) o w d c 0 b := h.set7 0
    refine ⟨wi σ k2 7 0, ?_, (Fr.refl _ _).wi ((plK hk).1 _)⟩
    rw [beh_j21 hs hx, X3_takeBehind_j21]
    simp only [bnS]
    by_cases y : s = 41
    · rw [if_pos (show nI s = 41 by rw [y]; rfl)]
      unfold X3_close
      rw [s7.2.2.2.2.1, h2 y, if_pos (show nI 0 = 0 from rfl)]
      rfl
    · rw [if_neg (show ¬ nI s = 41 from fun u => y ((nI_eq (b := 41) (by omega) (by decide)).mp u)), strength_c N hs, Option.bind_some]
      rcases h3 with z | z | ⟨z, z2⟩
      · rw [z, if_pos (show nI 0 < 1 by decide)]
      · rw [z, if_neg (show ¬ nI 4 < 1 by decide), if_neg (show ¬ nI 4 ≤ 3 by decide)]
      · rw [z, if_neg (show ¬ nI 1 < 1 by decide), if_pos (show nI 1 ≤ 3 by decide), if_pos (show nI 1 = 1 from rfl), s7.2.2.2.2.1, if_pos ((hasT _ (by omega)).mpr (by rw [s7.2.2.2.2.2.1 d hd]; exact z2))]
  · exact ⟨σ, beh_digit_no h (h1 hx) hs hx, Fr.refl _ _⟩
end CL
