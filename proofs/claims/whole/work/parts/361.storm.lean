/-! ===== storms: sums over the ways in which strings break ===== -/
def smN (F : Nat → Nat) : Nat → Nat
  | 0 => 0
  | n + 1 => smN F n + F n
theorem smN_congr {F G : Nat → Nat} (n : Nat) (h : ∀ i, i < n → F i = G i) : smN F n = smN G n := by
  induction n with
  | zero => rfl
  | succ n ih => unfold smN; rw [ih (fun i hi => h i (by omega)), h n (by omega)]
theorem smN_split (F : Nat → Nat) (a b : Nat) : smN F (a + b) = smN F a + smN (fun i => F (a + i)) b := by
  induction b with
  | zero => rfl
  | succ b ih =>
    show smN F (a + b) + F (a + b) = smN F a + (smN (fun i => F (a + i)) b + F (a + b))
    rw [ih, Nat.add_assoc]
theorem smN_mul (F : Nat → Nat) (c n : Nat) : smN (fun i => F i * c) n = smN F n * c := by
  induction n with
  | zero => simp [smN]
  | succ n ih => unfold smN; rw [ih, Nat.add_mul]
/-- the strings whose bit is set, of the first m -/
def selI (v : Nat → Nat × Nat) (s : Nat) : Nat → List (Nat × Nat)
  | 0 => []
  | i + 1 => selI v s i ++ (if s.testBit i = true then [v i] else [])
def wtI (x y : Nat) (s : Nat) : Nat → Nat
  | 0 => 1
  | i + 1 => wtI x y s i * (if s.testBit i = true then x else y)
def rvL (v : Nat → Nat × Nat) : Nat → List (Nat × Nat)
  | 0 => []
  | m + 1 => v m :: rvL v m
def RLg (x y : Nat) (ok : List (Nat × Nat) → Nat) : List (Nat × Nat) → List (Nat × Nat) → Nat
  | [], T => ok T
  | e :: E, T => x * RLg x y ok E (e :: T) + y * RLg x y ok E T
theorem selI_congr {v : Nat → Nat × Nat} {s s' : Nat} (m : Nat) (h : ∀ i, i < m → s.testBit i = s'.testBit i) : selI v s m = selI v s' m := by
  induction m with
  | zero => rfl
  | succ m ih => unfold selI; rw [ih (fun i hi => h i (by omega)), h m (by omega)]
theorem wtI_congr {x y s s' : Nat} (m : Nat) (h : ∀ i, i < m → s.testBit i = s'.testBit i) : wtI x y s m = wtI x y s' m := by
  induction m with
  | zero => rfl
  | succ m ih => unfold wtI; rw [ih (fun i hi => h i (by omega)), h m (by omega)]
theorem mask_sum (x y : Nat) (ok : List (Nat × Nat) → Nat) (v : Nat → Nat × Nat) : ∀ m T, smN (fun s => wtI x y s m * ok (selI v s m ++ T)) (2 ^ m) = RLg x y ok (rvL v m) T := by
  intro m
  induction m with
  | zero =>
    intro T
    show 0 + 1 * ok ([] ++ T) = ok T
    simp
  | succ m ih =>
    intro T
    rw [show 2 ^ (m + 1) = 2 ^ m + 2 ^ m by rw [Nat.pow_succ]; omega, smN_split]
    show _ = x * RLg x y ok (rvL v m) (v m :: T) + y * RLg x y ok (rvL v m) T
    rw [← ih (v m :: T), ← ih T, Nat.add_comm, Nat.mul_comm x, Nat.mul_comm y, ← smN_mul, ← smN_mul]
    congr 1
    · apply smN_congr
      intro s hs
      have hlow : ∀ i, i < m → (2 ^ m + s).testBit i = s.testBit i := fun i hi => Nat.testBit_two_pow_add_gt hi s
      have htop : (2 ^ m + s).testBit m = true := by rw [Nat.testBit_two_pow_add_eq, Nat.testBit_lt_two_pow hs]; rfl
      show wtI x y (2 ^ m + s) m * (if (2 ^ m + s).testBit m = true then x else y) * ok (selI v (2 ^ m + s) m ++ (if (2 ^ m + s).testBit m = true then [v m] else []) ++ T) = _
      rw [if_pos htop, if_pos htop, wtI_congr m hlow, selI_congr m hlow, List.append_assoc]
      show _ * _ * ok (selI v s m ++ (v m :: T)) = _
      rw [Nat.mul_assoc, Nat.mul_comm x, ← Nat.mul_assoc]
    · apply smN_congr
      intro s hs
      have htop : s.testBit m = false := Nat.testBit_lt_two_pow hs
      show wtI x y s m * (if s.testBit m = true then x else y) * ok (selI v s m ++ (if s.testBit m = true then [v m] else []) ++ T) = _
      rw [htop, if_neg (by decide), if_neg (by decide), List.append_nil, Nat.mul_assoc, Nat.mul_comm y, ← Nat.mul_assoc]
theorem wtI_pow (x y s : Nat) : ∀ m, wtI x y s m = x ^ cntB s.testBit m * y ^ (m - cntB s.testBit m) := by
  intro m
  induction m with
  | zero => rfl
  | succ m ih =>
    have hc := cntB_le s.testBit m
    unfold wtI cntB
    rw [ih]
    by_cases z : s.testBit m = true
    · rw [if_pos z, if_pos z, Nat.pow_succ, show m + 1 - (cntB s.testBit m + 1) = m - cntB s.testBit m by omega, Nat.mul_assoc, Nat.mul_comm (y ^ _), ← Nat.mul_assoc]
    · rw [if_neg z, if_neg z, Nat.add_zero, show m + 1 - cntB s.testBit m = m - cntB s.testBit m + 1 by omega, Nat.pow_succ, Nat.mul_assoc]
/-- i and j are tied by a string of the list -/
def mE (D : List (Nat × Nat)) (i j : Nat) : Bool := decide ((i, j) ∈ D ∨ (j, i) ∈ D)
theorem mE_iff {D : List (Nat × Nat)} {i j : Nat} : mE D i j = true ↔ (i, j) ∈ D ∨ (j, i) ∈ D := by unfold mE; simp
def tgL (r : Nat → Int32) (D : List (Nat × Nat)) : Nat → Int32 := D.foldl (fun r e => togS r e.1 e.2) r
theorem tgL_app (r : Nat → Int32) (D : List (Nat × Nat)) (e : Nat × Nat) : tgL r (D ++ [e]) = togS (tgL r D) e.1 e.2 := by unfold tgL; rw [List.foldl_append]; rfl
def eOk (m : Nat) (D : List (Nat × Nat)) : Prop := ∀ e ∈ D, e.1 < e.2 ∧ e.2 < m
theorem hb_tgL {D : List (Nat × Nat)} : ∀ (r : Nat → Int32), D.Nodup → eOk 8 D → ∀ i j, i < 8 → hb (tgL r D (24 + i)) j = (hb (r (24 + i)) j ^^ mE D i j) := by
  induction D with
  | nil => intro r _ _ i j _; show hb (r (24 + i)) j = (hb (r (24 + i)) j ^^ decide _); simp
  | cons e D ih =>
    intro r hn ho i j hi
    have he := ho e (by simp)
    rw [List.nodup_cons] at hn
    show hb (tgL (togS r e.1 e.2) D (24 + i)) j = _
    rw [ih (togS r e.1 e.2) hn.2 (fun x hx => ho x (by simp [hx])) i j hi, hb_togS r (show e.1 < 8 by omega) he.2 (by omega) hi]
    have key : mE (e :: D) i j = (((decide (i = e.1) && decide (j = e.2)) || (decide (i = e.2) && decide (j = e.1))) ^^ mE D i j) := by
      by_cases q : (i = e.1 ∧ j = e.2) ∨ (i = e.2 ∧ j = e.1)
      · have h1 : mE (e :: D) i j = true := by
          rw [mE_iff]
          rcases q with ⟨rfl, rfl⟩ | ⟨rfl, rfl⟩
          · left; simp
          · right; simp
        have h2 : mE D i j = false := by
          cases hx : mE D i j
          · rfl
          · exfalso
            rcases q with ⟨rfl, rfl⟩ | ⟨rfl, rfl⟩
            · rcases mE_iff.mp hx with y | y
              · exact hn.1 y
              · have := ho _ (List.mem_cons_of_mem e y)
                dsimp only at this; omega
            · rcases mE_iff.mp hx with y | y
              · have := ho _ (List.mem_cons_of_mem e y)
                dsimp only at this; omega
              · exact hn.1 y
        have h3 : ((decide (i = e.1) && decide (j = e.2)) || (decide (i = e.2) && decide (j = e.1))) = true := by
          rcases q with ⟨rfl, rfl⟩ | ⟨rfl, rfl⟩ <;> simp
        rw [h1, h2, h3]; rfl
      · have h3 : ((decide (i = e.1) && decide (j = e.2)) || (decide (i = e.2) && decide (j = e.1))) = false := by
          cases hx : ((decide (i = e.1) && decide (j = e.2)) || (decide (i = e.2) && decide (j = e.1)))
          · rfl
          · exfalso; apply q; simpa using hx
        have h1 : mE (e :: D) i j = mE D i j := by
          apply Bool.eq_iff_iff.mpr
          rw [mE_iff, mE_iff, List.mem_cons, List.mem_cons]
          constructor
          · rintro ((y | y) | (y | y))
            · exact absurd (Or.inl ⟨congrArg Prod.fst y, congrArg Prod.snd y⟩) q
            · exact Or.inl y
            · exact absurd (Or.inr ⟨congrArg Prod.snd y, congrArg Prod.fst y⟩) q
            · exact Or.inr y
          · rintro (y | y)
            · exact Or.inl (Or.inr y)
            · exact Or.inr (Or.inr y)
        rw [h1, h3]; simp
    rw [key]
    cases hb (r (24 + i)) j <;> cases ((decide (i = e.1) && decide (j = e.2)) || (decide (i = e.2) && decide (j = e.1))) <;> cases mE D i j <;> rfl
/-- the strings of a list, as links -/
def gM (T : List (Nat × Nat)) : Nat → Int32 := fun i => mkB (fun j => mE T i j) 8
theorem hb_gM {T : List (Nat × Nat)} (h : eOk 8 T) (i j : Nat) : hb (gM T i) j = mE T i j := by
  unfold gM
  rw [hb_8]
  cases hx : mE T i j
  · simp
  · have : j < 8 := by
      rcases mE_iff.mp hx with y | y
      · exact (h _ y).2
      · have := h _ y; dsimp only at this; omega
    rw [decide_eq_true this]; rfl
def okG (L : Ld) (r : Nat → Int32) (k : Nat) (T : List (Nat × Nat)) : Nat := if exS L r (bunS (gM T) k) < 0 then 0 else 1
def okR (L : Ld) (r : Nat → Int32) (k : Nat) (D : List (Nat × Nat)) : Nat := if exS L r (bunS (lnk (tgL r D)) k) < 0 then 0 else 1
theorem bunS_congr {f g : Nat → Int32} {k : Nat} (hk : k < 8) (hf : ∀ i, i < 8 → ∀ j, 8 ≤ j → hb (f i) j = false) (h : ∀ i, i < 8 → f i = g i) : bunS f k = bunS g k := by
  refine IsBu.uniq (IsBu.congr h (bunS_is hk hf)) (bunS_is hk (fun i hi j hj => by rw [← h i hi]; exact hf i hi j hj))
theorem gM_8 (T : List (Nat × Nat)) : ∀ i, i < 8 → ∀ j, 8 ≤ j → hb (gM T i) j = false := fun i _ j hj => by unfold gM; rw [hb_8, decide_eq_false (by omega)]; rfl
/-- broken ones toggled off, or kept ones told: the same sum -/
theorem conv {L : Ld} {r : Nat → Int32} {k : Nat} (hk : k < 8) (x y : Nat) : ∀ (E D T : List (Nat × Nat)), (E ++ D ++ T).Nodup → eOk 8 (E ++ D ++ T) → (∀ i j, i < 8 → hb (lnk r i) j = mE (E ++ D ++ T) i j) → RLg x y (okR L r k) E D = RLg y x (okG L r k) E T := by
  intro E
  induction E with
  | nil =>
    intro D T hn ho hl
    rw [List.nil_append] at hn ho hl
    show okR L r k D = okG L r k T
    unfold okR okG
    have oD : eOk 8 D := fun e he => ho e (by simp [he])
    have oT : eOk 8 T := fun e he => ho e (by simp [he])
    have hdis : ∀ e, e ∈ D → e ∉ T := fun e h1 h2 => (List.nodup_append.mp hn).2.2 e h1 e h2 rfl
    have e1 : ∀ i, i < 8 → lnk (tgL r D) i = gM T i := by
      intro i hi
      apply hb_ext
      intro j _
      show hb (tgL r D (24 + i)) j = _
      rw [hb_tgL r (List.nodup_append.mp hn).1 oD i j hi, hb_gM oT, show hb (r (24 + i)) j = mE (D ++ T) i j from hl i j hi]
      have nb : ¬ (mE D i j = true ∧ mE T i j = true) := by
        rintro ⟨h1, h2⟩
        rcases mE_iff.mp h1 with y1 | y1 <;> rcases mE_iff.mp h2 with y2 | y2
        · exact hdis _ y1 y2
        · have := oD _ y1; have := oT _ y2; dsimp only at *; omega
        · have := oD _ y1; have := oT _ y2; dsimp only at *; omega
        · exact hdis _ y1 y2
      have ap : mE (D ++ T) i j = (mE D i j || mE T i j) := by
        apply Bool.eq_iff_iff.mpr
        rw [Bool.or_eq_true, mE_iff, mE_iff, mE_iff, List.mem_append, List.mem_append]
        constructor
        · rintro ((y | y) | (y | y))
          · exact Or.inl (Or.inl y)
          · exact Or.inr (Or.inl y)
          · exact Or.inl (Or.inr y)
          · exact Or.inr (Or.inr y)
        · rintro ((y | y) | (y | y))
          · exact Or.inl (Or.inl y)
          · exact Or.inr (Or.inl y)
          · exact Or.inl (Or.inr y)
          · exact Or.inr (Or.inr y)
      rw [ap]
      cases h1 : mE D i j <;> cases h2 : mE T i j <;> first | rfl | exact absurd ⟨h1, h2⟩ nb
    rw [bunS_congr hk (fun i hi j hj => by rw [e1 i hi]; exact gM_8 T i hi j hj) e1]
  | cons e E ih =>
    intro D T hn ho hl
    show x * RLg x y (okR L r k) E (e :: D) + y * RLg x y (okR L r k) E D = y * RLg y x (okG L r k) E (e :: T) + x * RLg y x (okG L r k) E T
    have p1 : (e :: E ++ D ++ T).Perm (E ++ (e :: D) ++ T) := by
      show (e :: (E ++ D) ++ T).Perm _
      exact List.Perm.append_right T List.perm_middle.symm
    have p2 : (e :: E ++ D ++ T).Perm (E ++ D ++ (e :: T)) := by
      show (e :: (E ++ D ++ T)).Perm _
      exact List.perm_middle.symm
    have mp : ∀ {A B : List (Nat × Nat)}, A.Perm B → ∀ i j, mE A i j = mE B i j := by
      intro A B h i j
      apply Bool.eq_iff_iff.mpr
      rw [mE_iff, mE_iff, h.mem_iff, h.mem_iff]
    rw [ih (e :: D) T (p1.nodup_iff.mp hn) (fun z hz => ho z (p1.mem_iff.mpr hz)) (fun i j hi => by rw [hl i j hi, mp p1]), ih D (e :: T) (p2.nodup_iff.mp hn) (fun z hz => ho z (p2.mem_iff.mpr hz)) (fun i j hi => by rw [hl i j hi, mp p2]), Nat.add_comm]
theorem RLg_le {x y : Nat} {ok : List (Nat × Nat) → Nat} (h : ∀ T, ok T ≤ 1) : ∀ E T, RLg x y ok E T ≤ (x + y) ^ E.length := by
  intro E
  induction E with
  | nil => intro T; exact h T
  | cons e E ih =>
    intro T
    show x * RLg x y ok E (e :: T) + y * RLg x y ok E T ≤ (x + y) ^ (E.length + 1)
    rw [Nat.pow_succ, Nat.mul_comm, Nat.mul_comm y, Nat.mul_add]
    exact Nat.add_le_add (Nat.mul_le_mul_right x (ih _)) (Nat.mul_le_mul_right y (ih _))
/-- strings outside count for nothing -/
theorem RLg_filter {x y : Nat} {ok : List (Nat × Nat) → Nat} (p : Nat × Nat → Bool) (Ok : List (Nat × Nat) → Prop) (hok : ∀ T, Ok T → ok T = ok (T.filter p)) : ∀ E T T', T.filter p = T'.filter p → (∀ S : List (Nat × Nat), (∀ e ∈ S, e ∈ E) → Ok (S ++ T) ∧ Ok (S ++ T')) → RLg x y ok E T = (x + y) ^ (E.length - (E.filter p).length) * RLg x y ok (E.filter p) T' := by
  intro E
  induction E with
  | nil =>
    intro T T' h hS
    obtain ⟨h1, h2⟩ := hS [] (fun e he => he)
    show ok T = (x + y) ^ 0 * ok T'
    rw [hok T h1, hok T' h2, h, Nat.pow_zero, Nat.one_mul]
  | cons e E ih =>
    intro T T' h hS
    have hlen := List.length_filter_le p E
    have hc : ∀ S : List (Nat × Nat), (∀ z ∈ S, z ∈ E) → Ok (S ++ (e :: T)) ∧ Ok (S ++ (e :: T')) := fun S hz => by
      have := hS (S ++ [e]) (fun z hz2 => by
        rcases List.mem_append.mp hz2 with y1 | y1
        · exact List.mem_cons_of_mem e (hz z y1)
        · rw [List.mem_singleton.mp y1]; simp)
      rw [List.append_assoc, List.append_assoc] at this
      exact this
    have hd : ∀ S : List (Nat × Nat), (∀ z ∈ S, z ∈ E) → Ok (S ++ T) ∧ Ok (S ++ T') := fun S hz => hS S (fun z h => List.mem_cons_of_mem e (hz z h))
    show x * RLg x y ok E (e :: T) + y * RLg x y ok E T = _
    cases hp : p e
    · rw [List.filter_cons_of_neg (by rw [hp]; decide), ih (e :: T) T' (by rw [List.filter_cons_of_neg (by rw [hp]; decide)]; exact h) (fun S hz => ⟨(hc S hz).1, (hd S hz).2⟩), ih T T' h hd, ← Nat.add_mul, List.length_cons, show E.length + 1 - (E.filter p).length = E.length - (E.filter p).length + 1 by omega, Nat.pow_succ, Nat.mul_comm _ (x + y), Nat.mul_assoc]
    · rw [List.filter_cons_of_pos hp, List.length_cons, List.length_cons, show E.length + 1 - ((E.filter p).length + 1) = E.length - (E.filter p).length by omega]
      show _ = _ * (x * RLg x y ok (E.filter p) (e :: T') + y * RLg x y ok (E.filter p) T')
      rw [ih (e :: T) (e :: T') (by rw [List.filter_cons_of_pos hp, List.filter_cons_of_pos hp, h]) hc, ih T T' h hd, Nat.mul_add, ← Nat.mul_assoc, ← Nat.mul_assoc, ← Nat.mul_assoc, ← Nat.mul_assoc, Nat.mul_comm x, Nat.mul_comm y]
theorem okG_in {L : Ld} {r : Nat → Int32} {n k : Nat} (hW : WL n r) (hk : k < n) {T : List (Nat × Nat)} (hT : ∀ e ∈ T, e.1 < e.2 ∧ e.2 < 8 ∧ hb (lnk r e.1) e.2 = true) : okG L r k T = okG L r k (T.filter (fun e => hb (bun r k) e.1)) := by
  have h8 := hW.2.2.2.2
  have oT : eOk 8 T := fun e he => ⟨(hT e he).1, (hT e he).2.1⟩
  have oT' : eOk 8 (T.filter (fun e => hb (bun r k) e.1)) := fun e he => oT e (List.mem_filter.mp he).1
  have hB := bun_is hW (show k < 8 by omega)
  have hb1 := bunS_is (f := gM (T.filter (fun e => hb (bun r k) e.1))) (show k < 8 by omega) (gM_8 _)
  have sub : ∀ i j, hb (gM (T.filter (fun e => hb (bun r k) e.1)) i) j = true → hb (gM T i) j = true := by
    intro i j h
    rw [hb_gM oT', mE_iff] at h
    rw [hb_gM oT, mE_iff]
    rcases h with y | y
    · exact Or.inl (List.mem_filter.mp y).1
    · exact Or.inr (List.mem_filter.mp y).1
  have real : ∀ i j, i < 8 → hb (gM T i) j = true → hb (lnk r i) j = true := by
    intro i j hi h
    rw [hb_gM oT, mE_iff] at h
    rcases h with y | y
    · exact (hT _ y).2.2
    · have := hT _ y
      dsimp only at this
      have hs := hW.2.1 i j hi (by omega)
      show hb (r (24 + i)) j = true
      rw [hs]; exact this.2.2
  have inB : subI (bunS (gM (T.filter (fun e => hb (bun r k) e.1))) k) (bun r k) := hb1.2.2 _ hB.1 (fun i hi hiB j hj => hB.2.1 i hi hiB j (real i j hi (sub i j hj)))
  have fin : IsBu (gM T) k (bunS (gM (T.filter (fun e => hb (bun r k) e.1))) k) := by
    refine ⟨hb1.1, fun i hi hib j hj => ?_, fun c hc hcl => hb1.2.2 c hc (fun i hi hic j hj => hcl i hi hic j (sub i j hj))⟩
    apply hb1.2.1 i hi hib j
    have hjB := hB.2.1 i hi (inB i hib) j (real i j hi hj)
    rw [hb_gM oT, mE_iff] at hj
    rw [hb_gM oT', mE_iff]
    rcases hj with y | y
    · exact Or.inl (List.mem_filter.mpr ⟨y, inB i hib⟩)
    · exact Or.inr (List.mem_filter.mpr ⟨y, hjB⟩)
  unfold okG
  rw [IsBu.uniq (bunS_is (show k < 8 by omega) (gM_8 T)) fin]
/-! ===== the list of strings ===== -/
def lsF (p : Nat → Nat → Bool) (a b : Nat) (s : List (Nat × Nat)) : List (Nat × Nat) := if p a b = true then s ++ [(a, b)] else s
theorem mem_row {p : Nat → Nat → Bool} {a : Nat} {e : Nat × Nat} : ∀ d s, e ∈ rowS (lsF p) a d s ↔ e ∈ s ∨ (e.1 = a ∧ a < e.2 ∧ e.2 < a + 1 + d ∧ p a e.2 = true) := by
  intro d
  induction d with
  | zero =>
    intro s
    show e ∈ s ↔ _
    constructor
    · exact Or.inl
    · rintro (h | h)
      · exact h
      · omega
  | succ d ih =>
    intro s
    show e ∈ lsF p a (a + 1 + d) (rowS (lsF p) a d s) ↔ _
    unfold lsF
    by_cases z : p a (a + 1 + d) = true
    · rw [if_pos z, List.mem_append, List.mem_singleton]
      have := ih s
      unfold lsF at this
      rw [this]
      constructor
      · rintro ((h | h) | h)
        · exact Or.inl h
        · exact Or.inr ⟨h.1, h.2.1, by omega, h.2.2.2⟩
        · subst h; exact Or.inr ⟨rfl, by dsimp only; omega, by dsimp only; omega, z⟩
      · rintro (h | h)
        · exact Or.inl (Or.inl h)
        · by_cases y : e.2 = a + 1 + d
          · right; exact Prod.ext h.1 y
          · exact Or.inl (Or.inr ⟨h.1, h.2.1, by omega, h.2.2.2⟩)
    · rw [if_neg z]
      have := ih s
      unfold lsF at this
      rw [this]
      constructor
      · rintro (h | h)
        · exact Or.inl h
        · exact Or.inr ⟨h.1, h.2.1, by omega, h.2.2.2⟩
      · rintro (h | h)
        · exact Or.inl h
        · by_cases y : e.2 = a + 1 + d
          · rw [y] at h; exact absurd h.2.2.2 z
          · exact Or.inr ⟨h.1, h.2.1, by omega, h.2.2.2⟩
theorem mem_prA {p : Nat → Nat → Bool} {n : Nat} {e : Nat × Nat} : ∀ a, e ∈ prA (lsF p) n [] a ↔ e.1 < a ∧ e.1 < e.2 ∧ e.2 < n ∧ p e.1 e.2 = true := by
  intro a
  induction a with
  | zero => show e ∈ [] ↔ _; simp
  | succ a ih =>
    show e ∈ rowS (lsF p) a (n - (a + 1)) (prA (lsF p) n [] a) ↔ _
    rw [mem_row, ih]
    constructor
    · rintro (h | h)
      · exact ⟨by omega, h.2⟩
      · rw [h.1]; exact ⟨by omega, h.2.1, by omega, h.2.2.2⟩
    · rintro ⟨h1, h2, h3, h4⟩
      by_cases y : e.1 = a
      · rw [y] at h2 h4; exact Or.inr ⟨y, h2, by omega, h4⟩
      · exact Or.inl ⟨by omega, h2, h3, h4⟩
theorem nodup_row {p : Nat → Nat → Bool} {a : Nat} : ∀ d s, s.Nodup → (∀ e ∈ s, e.1 < a) → (rowS (lsF p) a d s).Nodup := by
  intro d
  induction d with
  | zero => intro s h _; exact h
  | succ d ih =>
    intro s h hs
    show (lsF p a (a + 1 + d) (rowS (lsF p) a d s)).Nodup
    have h1 := ih s h hs
    by_cases z : p a (a + 1 + d) = true
    · have e : lsF p a (a + 1 + d) (rowS (lsF p) a d s) = rowS (lsF p) a d s ++ [(a, a + 1 + d)] := if_pos z
      rw [e, List.nodup_append]
      refine ⟨h1, by simp, fun x hx y hy => ?_⟩
      rw [List.mem_singleton.mp hy]
      intro q
      rw [q] at hx
      rcases (mem_row d s).mp hx with w | w
      · have := hs _ w; dsimp only at this; omega
      · dsimp only at w; omega
    · have e : lsF p a (a + 1 + d) (rowS (lsF p) a d s) = rowS (lsF p) a d s := if_neg z
      rw [e]; exact h1
theorem nodup_prA {p : Nat → Nat → Bool} {n : Nat} : ∀ a, (prA (lsF p) n [] a).Nodup := by
  intro a
  induction a with
  | zero => exact List.nodup_nil
  | succ a ih => exact nodup_row _ _ ih (fun e he => ((mem_prA a).mp he).1)
theorem row_cut {p : Nat → Nat → Bool} {a n : Nat} (h : ∀ b, n ≤ b → p a b = false) {d : Nat} (hd : n ≤ a + 1 + d) (s : List (Nat × Nat)) : ∀ x, rowS (lsF p) a (d + x) s = rowS (lsF p) a d s := by
  intro x
  induction x with
  | zero => rfl
  | succ x ih =>
    show lsF p a (a + 1 + (d + x)) (rowS (lsF p) a (d + x) s) = _
    rw [ih]
    exact if_neg (by rw [h _ (by omega)]; decide)
theorem prA_cut {p : Nat → Nat → Bool} {n : Nat} (hn : n ≤ 8) (h : ∀ a, a < 8 → ∀ b, n ≤ b → p a b = false) : prA (lsF p) 8 [] 8 = prA (lsF p) n [] n := by
  have h1 : ∀ a, a ≤ n → prA (lsF p) 8 [] a = prA (lsF p) n [] a := by
    intro a
    induction a with
    | zero => intro _; rfl
    | succ a ih =>
      intro ha
      show rowS (lsF p) a (8 - (a + 1)) _ = rowS (lsF p) a (n - (a + 1)) _
      rw [ih (by omega), show 8 - (a + 1) = (n - (a + 1)) + (8 - n) by omega, row_cut (h a (by omega)) (by omega)]
  have h2 : ∀ x, n + x ≤ 8 → prA (lsF p) 8 [] (n + x) = prA (lsF p) 8 [] n := by
    intro x
    induction x with
    | zero => intro _; rfl
    | succ x ih =>
      intro hx
      show rowS (lsF p) (n + x) (8 - (n + x + 1)) (prA (lsF p) 8 [] (n + x)) = _
      rw [ih (by omega)]
      have := row_cut (p := p) (a := n + x) (n := n) (h _ (by omega)) (d := 0) (by omega) (prA (lsF p) 8 [] n) (8 - (n + x + 1))
      rw [Nat.zero_add] at this
      exact this
  have := h2 (8 - n) (by omega)
  rw [show n + (8 - n) = 8 by omega] at this
  rw [this, h1 n (Nat.le_refl _)]
theorem filter_row {p : Nat → Nat → Bool} {f : Nat → Bool} {a : Nat} : ∀ d s, (rowS (lsF p) a d s).filter (fun e => f e.1) = rowS (lsF (fun a b => f a && p a b)) a d (s.filter (fun e => f e.1)) := by
  intro d
  induction d with
  | zero => intro s; rfl
  | succ d ih =>
    intro s
    show (lsF p a (a + 1 + d) (rowS (lsF p) a d s)).filter _ = lsF (fun a b => f a && p a b) a (a + 1 + d) (rowS (lsF (fun a b => f a && p a b)) a d (s.filter _))
    rw [← ih s]
    unfold lsF
    cases hp : p a (a + 1 + d) <;> cases hf : f a <;> simp [hf, hp]
theorem filter_prA {p : Nat → Nat → Bool} {f : Nat → Bool} {n : Nat} : ∀ a, (prA (lsF p) n [] a).filter (fun e => f e.1) = prA (lsF (fun a b => f a && p a b)) n [] a := by
  intro a
  induction a with
  | zero => rfl
  | succ a ih =>
    show (rowS (lsF p) a (n - (a + 1)) (prA (lsF p) n [] a)).filter _ = rowS (lsF (fun a b => f a && p a b)) a (n - (a + 1)) (prA (lsF (fun a b => f a && p a b)) n [] a)
    rw [filter_row, ih]
theorem len_row {p : Nat → Nat → Bool} {a : Nat} : ∀ d s, (rowS (lsF p) a d s).length = s.length + cntB (fun t => p a (a + 1 + t)) d := by
  intro d
  induction d with
  | zero => intro s; rfl
  | succ d ih =>
    intro s
    show (lsF p a (a + 1 + d) (rowS (lsF p) a d s)).length = s.length + (cntB _ d + (if p a (a + 1 + d) = true then 1 else 0))
    have := ih s
    by_cases z : p a (a + 1 + d) = true
    · rw [show lsF p a (a + 1 + d) (rowS (lsF p) a d s) = rowS (lsF p) a d s ++ [(a, a + 1 + d)] from if_pos z, List.length_append, this, if_pos z]
      simp; omega
    · rw [show lsF p a (a + 1 + d) (rowS (lsF p) a d s) = rowS (lsF p) a d s from if_neg z, this, if_neg z]; omega
theorem len_prA {p : Nat → Nat → Bool} (a : Nat) : (prA (lsF p) 8 [] (a + 1)).length = (prA (lsF p) 8 [] a).length + cntB (fun t => p a (a + 1 + t)) (8 - (a + 1)) := len_row _ _
theorem two_len {p : Nat → Nat → Bool} (hs : ∀ i j, i < 8 → j < 8 → p i j = p j i) (hi : ∀ i, i < 8 → p i i = false) : cntB (p 0) 8 + cntB (p 1) 8 + cntB (p 2) 8 + cntB (p 3) 8 + cntB (p 4) 8 + cntB (p 5) 8 + cntB (p 6) 8 + cntB (p 7) 8 = 2 * (prA (lsF p) 8 [] 8).length := by
  rw [len_prA 7, len_prA 6, len_prA 5, len_prA 4, len_prA 3, len_prA 2, len_prA 1, len_prA 0, show (prA (lsF p) 8 [] 0).length = 0 from rfl]
  simp only [cntB, Nat.reduceAdd, Nat.reduceSub, Nat.add_zero, Nat.zero_add]
  rw [hi 0 (by omega), hi 1 (by omega), hi 2 (by omega), hi 3 (by omega), hi 4 (by omega), hi 5 (by omega), hi 6 (by omega), hi 7 (by omega)]
  rw [hs 1 0 (by omega) (by omega), hs 2 0 (by omega) (by omega), hs 2 1 (by omega) (by omega), hs 3 0 (by omega) (by omega), hs 3 1 (by omega) (by omega), hs 3 2 (by omega) (by omega), hs 4 0 (by omega) (by omega), hs 4 1 (by omega) (by omega), hs 4 2 (by omega) (by omega), hs 4 3 (by omega) (by omega), hs 5 0 (by omega) (by omega), hs 5 1 (by omega) (by omega), hs 5 2 (by omega) (by omega), hs 5 3 (by omega) (by omega), hs 5 4 (by omega) (by omega), hs 6 0 (by omega) (by omega), hs 6 1 (by omega) (by omega), hs 6 2 (by omega) (by omega), hs 6 3 (by omega) (by omega), hs 6 4 (by omega) (by omega), hs 6 5 (by omega) (by omega), hs 7 0 (by omega) (by omega), hs 7 1 (by omega) (by omega), hs 7 2 (by omega) (by omega), hs 7 3 (by omega) (by omega), hs 7 4 (by omega) (by omega), hs 7 5 (by omega) (by omega), hs 7 6 (by omega) (by omega)]
  simp only [Bool.false_eq_true, if_false]
  generalize (if p 0 1 = true then 1 else 0) = x01
  generalize (if p 0 2 = true then 1 else 0) = x02
  generalize (if p 0 3 = true then 1 else 0) = x03
  generalize (if p 0 4 = true then 1 else 0) = x04
  generalize (if p 0 5 = true then 1 else 0) = x05
  generalize (if p 0 6 = true then 1 else 0) = x06
  generalize (if p 0 7 = true then 1 else 0) = x07
  generalize (if p 1 2 = true then 1 else 0) = x12
  generalize (if p 1 3 = true then 1 else 0) = x13
  generalize (if p 1 4 = true then 1 else 0) = x14
  generalize (if p 1 5 = true then 1 else 0) = x15
  generalize (if p 1 6 = true then 1 else 0) = x16
  generalize (if p 1 7 = true then 1 else 0) = x17
  generalize (if p 2 3 = true then 1 else 0) = x23
  generalize (if p 2 4 = true then 1 else 0) = x24
  generalize (if p 2 5 = true then 1 else 0) = x25
  generalize (if p 2 6 = true then 1 else 0) = x26
  generalize (if p 2 7 = true then 1 else 0) = x27
  generalize (if p 3 4 = true then 1 else 0) = x34
  generalize (if p 3 5 = true then 1 else 0) = x35
  generalize (if p 3 6 = true then 1 else 0) = x36
  generalize (if p 3 7 = true then 1 else 0) = x37
  generalize (if p 4 5 = true then 1 else 0) = x45
  generalize (if p 4 6 = true then 1 else 0) = x46
  generalize (if p 4 7 = true then 1 else 0) = x47
  generalize (if p 5 6 = true then 1 else 0) = x56
  generalize (if p 5 7 = true then 1 else 0) = x57
  generalize (if p 6 7 = true then 1 else 0) = x67
  omega
