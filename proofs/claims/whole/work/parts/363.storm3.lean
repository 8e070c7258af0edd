/-! ===== storms: the reference; both sides ===== -/
section SR
variable {N : Nat} {L : Ld} {r : Nat → Int32} {k : Nat} {V : List (Nat × Nat)}
theorem storm_l63 (hN : 20 < N) {σ : Sg} {n : Nat} (hn : gi σ 149 3 = nI n) (h8 : n ≤ 8) (hr : rR σ 153 = r) (h12 : (prA (lsF (tyP r)) n [] n).length ≤ 12) (K : Int32 → Int32 → Int32 → Sg → Option (Int32 × Sg)) (v1 v2 v3 : Int32) : ∃ σ', X9_storm_l63 N K N v1 v2 v3 0 0 σ = K v1 v2 v3 σ' ∧ stI σ' 173 174 (prA (lsF (tyP r)) n [] n) ∧ Fr [173, 174] σ σ' := by
  refine pairL (n := n) (N := N) (Lo := fun m a (s : List (Nat × Nat) × Sg) => X9_storm_l63 N K m v1 v2 v3 (nI s.1.length) (nI a) s.2) (Li := fun m a f b (s : List (Nat × Nat) × Sg) => X9_storm_l78 N (fun v1 v2 v3 v4 v5 σ => X9_storm_j132 N (fun v1 v2 v3 v4 v5 σ => X9_storm_l63 N K m v1 v2 v3 v4 v5 σ) v1 v2 v3 v4 v5 σ) f v1 v2 v3 (nI s.1.length) (nI a) (nI b) s.2) (fun a b s => s.1 = prS (lsF (tyP r)) n [] a b ∧ stI s.2 173 174 s.1 ∧ Fr [173, 174] σ s.2) (o := fun x => ∃ σ', x = K v1 v2 v3 σ' ∧ stI σ' 173 174 (prA (lsF (tyP r)) n [] n) ∧ Fr [173, 174] σ σ') (by omega) ?_ ?_ ?_ ?_ ?_ (s0 := ([], σ)) ⟨rfl, fun i hi => absurd hi (Nat.not_lt_zero _), Fr.refl _ _⟩
  · intro m a s ha hI
    rw [X9_storm_l63, (hI.2.2.g (k := 149) (j := 3) (by decide)).trans hn, if_neg (nI_ge ha (by omega)), nI1]
  · intro m a f b s ha hb1 hab hI
    obtain ⟨V, τ⟩ := s
    obtain ⟨i1, i2, i3⟩ := hI
    dsimp only at i1 i2 i3
    have et : gi τ 153 (24 + a) = lnk r a := by rw [i3.g (k := 153) (by simp [pl]), ← rR_j (by omega), hr]; rfl
    have hstep : prS (lsF (tyP r)) n [] a (b + 1) = lsF (tyP r) a b V := by rw [prS_s _ _ _ hab, ← i1]
    have e24 : (24 : Int32) + nI a = nI (24 + a) := nI_add 24 a
    by_cases z : tyP r a b = true
    · have hl : lsF (tyP r) a b V = V ++ [(a, b)] := if_pos z
      rw [hl] at hstep
      have hlen := len_prS (p := tyP r) (n := n) (a := a) (b := b + 1) ha (by omega)
      rw [hstep, List.length_append] at hlen
      simp only [List.length_cons, List.length_nil] at hlen
      refine ⟨(V ++ [(a, b)], wi (wi τ 173 V.length (nI a)) 174 V.length (nI b)), ⟨hstep.symm, i2.add (by decide) a b, (i3.wi (by simp [pl])).wi (by simp [pl])⟩, ?_⟩
      dsimp only
      rw [X9_storm_l78, (i3.g (k := 149) (j := 3) (by decide)).trans hn, if_neg (nI_ge hb1 (by omega)), e24, inbI (show 24 + a < 37 by omega) (by omega), if_pos rfl, clI (by omega), et, has_t N (by omega) z, Option.bind_some, if_neg oneF, inbI (show V.length < 12 by omega) (by omega), if_pos rfl, clI (by omega), nI1, nI1, List.length_append]
      rfl
    · have hl : lsF (tyP r) a b V = V := if_neg z
      rw [hl] at hstep
      refine ⟨(V, τ), ⟨hstep.symm, i2, i3⟩, ?_⟩
      dsimp only
      rw [X9_storm_l78, (i3.g (k := 149) (j := 3) (by decide)).trans hn, if_neg (nI_ge hb1 (by omega)), e24, inbI (show 24 + a < 37 by omega) (by omega), if_pos rfl, clI (by omega), et, has_f N (by omega) (show hb (lnk r a) b = false by simpa [tyP] using z), Option.bind_some, if_pos rfl, nI1]
  · intro m a f s ha hI
    rw [X9_storm_l78, (hI.2.2.g (k := 149) (j := 3) (by decide)).trans hn, if_pos (nI_le (Nat.le_refl _) (by omega)), X9_storm_j132, nI1]
  · intro a s ha hI
    exact ⟨by rw [prS_n]; exact hI.1, hI.2⟩
  · intro m s hI
    obtain ⟨V, τ⟩ := s
    obtain ⟨i1, i2, i3⟩ := hI
    dsimp only at i1 i2 i3 ⊢
    have e : V = prA (lsF (tyP r)) n [] n := by
      rw [i1]
      unfold prS
      rw [Nat.sub_self]
      rfl
    refine ⟨τ, ?_, ?_, i3⟩
    · rw [X9_storm_l63, (i3.g (k := 149) (j := 3) (by decide)).trans hn, if_pos (nI_le (Nat.le_refl _) (by omega))]
    · rw [← e]; exact i2
theorem storm_l147 (hN : 20 < N) (σ : Sg) {m : Nat} (hm : m ≤ 12) (K : Int32 → Int32 → Int32 → Int64 → Int64 → Sg → Option (Int32 × Sg)) (v1 v2 : Int32) (v5 : Int64) : X9_storm_l147 N K N v1 v2 (nI m) v5 1 0 σ = K v1 v2 (nI m) v5 (lN (10 ^ m)) σ := by
  refine forL0 (L := fun f i a => X9_storm_l147 N K f v1 v2 (nI m) v5 a (nI i) σ) (m := m) (a := (1 : Int64)) (fun i a => a = lN (10 ^ i)) (o := fun x => x = K v1 v2 (nI m) v5 (lN (10 ^ m)) σ) (by omega) rfl ?_ ?_
  · intro f i a hi ha
    left
    refine ⟨_, rfl, ?_⟩
    rw [X9_storm_l147, if_neg (nI_ge hi (by omega)), ha, show (10 : Int64) = lN 10 from rfl, lN_mul, nI1, Nat.pow_succ]
  · intro f a ha
    rw [X9_storm_l147, if_pos (nI_le (Nat.le_refl _) (by omega)), ha]
theorem tgL_32 {D : List (Nat × Nat)} : ∀ (r : Nat → Int32), eOk 8 D → tgL r D 32 = r 32 := by
  induction D with
  | nil => intro r _; rfl
  | cons e D ih =>
    intro r ho
    have he := ho e (by simp)
    show tgL (togS r e.1 e.2) D 32 = r 32
    rw [ih _ (fun x hx => ho x (by simp [hx])), togS_o r (show e.1 < 8 by omega) he.2 (by omega)]
theorem tgL_wf {n S H : Nat} {D : List (Nat × Nat)} : ∀ (r : Nat → Int32), WF n S H r → eOk n D → (∀ e ∈ D, hb (r 32) e.1 = false ∧ hb (r 32) e.2 = false) → WF n S H (tgL r D) := by
  induction D with
  | nil => intro r h _ _; exact h
  | cons e D ih =>
    intro r h ho hg
    have h8 := h.1.2.2.2.2
    have he := ho e (by simp)
    have ge := hg e (by simp)
    refine ih (togS r e.1 e.2) (tog_wf h (show e.1 < n by omega) he.2 (by omega) ge.1 ge.2) (fun x hx => ho x (by simp [hx])) (fun x hx => ?_)
    rw [togS_o r (show e.1 < 8 by omega) (show e.2 < 8 by omega) (by omega)]
    exact hg x (by simp [hx])
theorem storm_l188 (hN : 20 < N) (ho : eOk 8 V) (h12 : V.length ≤ 12) {a : Sg} (hV : stI a 173 174 V) {p : Nat} (hp : p ≤ 10) {s : Nat} (hs : s < 2 ^ V.length) (K : Int32 → Int32 → Int32 → Int64 → Int64 → Int32 → Int64 → Sg → Option (Int32 × Sg)) (v1 : Int32) (v5 v7 : Int64) : ∃ a', X9_storm_l188 N K N v1 (nI p) (nI V.length) v5 v7 (nI s) 1 0 a = K v1 (nI p) (nI V.length) v5 v7 (nI s) (lN (wtI p (10 - p) s V.length)) a' ∧ rR a' 154 = tgL (rR a 154) (selI (fun i => V.getD i (0, 0)) s V.length) ∧ Fr [154] a a' := by
  have e10 : (10 : Int32) - nI p = nI (10 - p) := pk_sub (a := 10) hp
  refine forL0 (L := fun m i (x : Int64 × Sg) => X9_storm_l188 N K m v1 (nI p) (nI V.length) v5 v7 (nI s) x.1 (nI i) x.2) (m := V.length) (a := ((1 : Int64), a)) (fun i x => x.1 = lN (wtI p (10 - p) s i) ∧ rR x.2 154 = tgL (rR a 154) (selI (fun i => V.getD i (0, 0)) s i) ∧ Fr [154] a x.2) (o := fun x => ∃ a', x = K v1 (nI p) (nI V.length) v5 v7 (nI s) (lN (wtI p (10 - p) s V.length)) a' ∧ rR a' 154 = tgL (rR a 154) (selI (fun i => V.getD i (0, 0)) s V.length) ∧ Fr [154] a a') (by omega) ⟨rfl, rfl, Fr.refl _ _⟩ ?_ ?_
  · intro m i x hi hI
    obtain ⟨v, b⟩ := x
    obtain ⟨i0, i1, i2⟩ := hI
    dsimp only at i0 i1 i2
    left
    have ew : wtI p (10 - p) s (i + 1) = wtI p (10 - p) s i * (if s.testBit i = true then p else 10 - p) := rfl
    have es : selI (fun i => V.getD i (0, 0)) s (i + 1) = selI (fun i => V.getD i (0, 0)) s i ++ (if s.testBit i = true then [V.getD i (0, 0)] else []) := rfl
    by_cases z : s.testBit i = true
    · have he := ho _ (getV_mem hi)
      have hVi := (hV.fr i2 (by simp [pl]) (by simp [pl])) i hi
      obtain ⟨b', t1, t2, t3⟩ := toggles_b N (Or.inr rfl : (154 : Nat) = 153 ∨ (154 : Nat) = 154) (show (V.getD i (0, 0)).1 < 8 by omega) he.2 b
      have hz : hb (nI s) i = true := by rw [hb_nI (by omega)]; exact z
      refine ⟨(lN (wtI p (10 - p) s (i + 1)), b'), ⟨rfl, ?_, i2.trans t3⟩, ?_⟩
      · dsimp only
        rw [t2, i1, es, if_pos z, tgL_app]
      · dsimp only
        rw [X9_storm_l188, if_neg (nI_ge hi (by omega)), has_t N (by omega) hz, Option.bind_some, if_neg oneF, X9_storm_j216, has_t N (by omega) hz, Option.bind_some, if_neg oneF, inbI (show i < 12 by omega) (by omega), if_pos rfl, if_pos rfl, clI (by omega), hVi.1, hVi.2, t1, Option.bind_some, nI1, i0, nI_l (by omega), lN_mul, ew, if_pos z]
    · have hz : hb (nI s) i = false := by rw [hb_nI (by omega)]; simpa using z
      refine ⟨(lN (wtI p (10 - p) s (i + 1)), b), ⟨rfl, ?_, i2⟩, ?_⟩
      · dsimp only
        rw [i1, es, if_neg z, List.append_nil]
      · dsimp only
        rw [X9_storm_l188, if_neg (nI_ge hi (by omega)), has_f N (by omega) hz, Option.bind_some, if_pos rfl, X9_storm_j216, has_f N (by omega) hz, Option.bind_some, if_pos rfl, nI1, i0, e10, nI_l (by omega), lN_mul, ew, if_neg z]
  · intro m x hI
    obtain ⟨v, b⟩ := x
    obtain ⟨i0, i1, i2⟩ := hI
    dsimp only at i0 i1 i2
    exact ⟨b, by dsimp only; rw [X9_storm_l188, if_pos (nI_le (Nat.le_refl _) (by omega)), i0], i1, i2⟩
theorem storm_l170 (hN : 5000 < N) {σ : Sg} (hL : LR σ L) (hr : rR σ 153 = r) {H : Nat} (hW : WF L.1 9 H r) (hH : H < 1000000) (hk : k < L.1) (hg : hb (r 32) k = false) (ho : eOk L.1 V) (hge : ∀ e ∈ V, hb (r 32) e.1 = false ∧ hb (r 32) e.2 = false) (h12 : V.length ≤ 12) (hV : stI σ 173 174 V) {p : Nat} (hp : p ≤ 10) (K : Int64 → Int64 → Sg → Option (Int32 × Sg)) (v7 : Int64) : ∃ σ', X9_storm_l170 N K N (nI k) (nI p) (nI V.length) 0 v7 0 σ = K (lN (smN (fun s => wtI p (10 - p) s V.length * okR L r k (selI (fun i => V.getD i (0, 0)) s V.length)) (2 ^ V.length))) v7 σ' ∧ Fr [154, 159, 160] σ σ' := by
  have h8 := hW.1.2.2.2.2
  have h2 : 2 ^ V.length ≤ 2 ^ 12 := Nat.pow_le_pow_right (by omega) h12
  have o8 : eOk 8 V := fun e he => ⟨(ho e he).1, by have := (ho e he).2; omega⟩
  have hsh : (1 : Int32) <<< (nI V.length &&& 31) = nI (2 ^ V.length) := (by decide +kernel : ∀ m, m < 13 → (1 : Int32) <<< (nI m &&& 31) = nI (2 ^ m)) V.length (by omega)
  obtain ⟨h36, hh, e36⟩ := hW.h36
  refine forL0 (L := fun m s (x : Int64 × Sg) => X9_storm_l170 N K m (nI k) (nI p) (nI V.length) x.1 v7 (nI s) x.2) (m := 2 ^ V.length) (a := ((0 : Int64), σ)) (fun s x => x.1 = lN (smN (fun s => wtI p (10 - p) s V.length * okR L r k (selI (fun i => V.getD i (0, 0)) s V.length)) s) ∧ Fr [154, 159, 160] σ x.2) (o := fun x => ∃ σ', x = K (lN (smN (fun s => wtI p (10 - p) s V.length * okR L r k (selI (fun i => V.getD i (0, 0)) s V.length)) (2 ^ V.length))) v7 σ' ∧ Fr [154, 159, 160] σ σ') (by omega) ⟨rfl, Fr.refl _ _⟩ ?_ ?_
  · intro m s x hs hI
    obtain ⟨v, a⟩ := x
    obtain ⟨i1, i2⟩ := hI
    dsimp only at i1 i2
    left
    obtain ⟨a1, c1, c2, c3⟩ := copies_r (N := N) (by omega) a
    have f1 : Fr [154, 159, 160] σ a1 := i2.trans (c3.mono (by decide))
    have ra : rR a 153 = r := (rR_congr (i2.r (by simp [pl]))).trans hr
    rw [ra] at c2
    obtain ⟨a2, d1, d2, d3⟩ := storm_l188 (N := N) (by omega) o8 h12 (hV.fr f1 (by simp [pl]) (by simp [pl])) hp hs (fun v1 v2 v3 v5 v7 v9 v10 σ => X9_storm_j256 N (fun v1 v2 v3 v5 v7 v9 σ => X9_storm_l170 N K m v1 v2 v3 v5 v7 v9 σ) v1 v2 v3 v5 v7 v9 v10 σ) (nI k) v v7
    rw [c2] at d2
    have f2 : Fr [154, 159, 160] σ a2 := f1.trans (d3.mono (by decide))
    have oD : eOk L.1 (selI (fun i => V.getD i (0, 0)) s V.length) := selV_ok ho (Nat.le_refl _)
    have oD8 : eOk 8 (selI (fun i => V.getD i (0, 0)) s V.length) := selV_ok o8 (Nat.le_refl _)
    have gD : ∀ e ∈ selI (fun i => V.getD i (0, 0)) s V.length, hb (r 32) e.1 = false ∧ hb (r 32) e.2 = false := fun e he => by
      obtain ⟨i, j1, _, j3⟩ := (selI_mem _).mp he
      rw [← j3]
      exact hge _ (getV_mem j1)
    have L2 := hL.fr f2 (by decide)
    have r2 : rR a2 153 = r := (rR_congr (f2.r (by simp [pl]))).trans hr
    have bu := bundle_r (N := N) (by omega) (k1 := 154) L2.1 (by rw [d2]; exact (tgL_wf r hW oD gD).1) hk
    rw [d2, tgL_32 r oD8, hg, if_neg (show ¬ false = true by decide)] at bu
    obtain ⟨a3, u1, u2⟩ := above_r (N := N) (by omega) (Or.inl rfl : (153 : Nat) = 153 ∨ (153 : Nat) = 154) L2 (show h36 < 2147483648 by omega) (by rw [r2]; exact e36) (bun (tgL r (selI (fun i => V.getD i (0, 0)) s V.length)) k)
    rw [r2] at u1
    have esm : smN (fun s => wtI p (10 - p) s V.length * okR L r k (selI (fun i => V.getD i (0, 0)) s V.length)) (s + 1) = smN (fun s => wtI p (10 - p) s V.length * okR L r k (selI (fun i => V.getD i (0, 0)) s V.length)) s + wtI p (10 - p) s V.length * okR L r k (selI (fun i => V.getD i (0, 0)) s V.length) := rfl
    refine ⟨(lN (smN (fun s => wtI p (10 - p) s V.length * okR L r k (selI (fun i => V.getD i (0, 0)) s V.length)) (s + 1)), a3), ⟨rfl, f2.trans (u2.mono (by decide))⟩, ?_⟩
    dsimp only
    rw [X9_storm_l170, hsh, if_neg (nI_ge hs (by omega)), c1, Option.bind_some, d1, X9_storm_j256, bu, Option.bind_some, u1, Option.bind_some, esm, nI1, i1]
    by_cases z : exS L r (bun (tgL r (selI (fun i => V.getD i (0, 0)) s V.length)) k) < 0
    · have eok : okR L r k (selI (fun i => V.getD i (0, 0)) s V.length) = 0 := if_pos z
      rw [if_pos z, eok, Nat.mul_zero, Nat.add_zero, show (0 : Int64) = lN 0 from rfl, lN_add]
    · have eok : okR L r k (selI (fun i => V.getD i (0, 0)) s V.length) = 1 := if_neg z
      rw [if_neg z, eok, Nat.mul_one, lN_add]
  · intro m x hI
    obtain ⟨v, a⟩ := x
    obtain ⟨i1, i2⟩ := hI
    dsimp only at i1 i2
    exact ⟨a, by dsimp only; rw [X9_storm_l170, hsh, if_pos (nI_le (Nat.le_refl _) (by omega)), i1], i2⟩
theorem rvL_rev (V : List (Nat × Nat)) : rvL (fun i => V.getD i (0, 0)) V.length = V.reverse := by
  have key : ∀ (U W : List (Nat × Nat)), rvL (fun i => (U.reverse ++ W).getD i (0, 0)) U.length = U := by
    intro U
    induction U with
    | nil => intro W; rfl
    | cons e U ih =>
      intro W
      rw [List.reverse_cons, List.length_cons]
      show (U.reverse ++ [e] ++ W).getD U.length (0, 0) :: rvL (fun i => (U.reverse ++ [e] ++ W).getD i (0, 0)) U.length = _
      rw [List.append_assoc, ih ([e] ++ W)]
      congr 1
      rw [List.getD_eq_getElem?_getD, List.getElem?_append_right (by rw [List.length_reverse]; exact Nat.le_refl _), List.length_reverse, Nat.sub_self]
      rfl
  have := key V.reverse []
  rwa [List.reverse_reverse, List.append_nil, List.length_reverse] at this
theorem cntL_len {n S H : Nat} (hW : WF n S H r) : cntL r = nI (prA (lsF (tyP r)) n [] n).length ∧ (prA (lsF (tyP r)) n [] n).length < 100 := by
  have h8 := hW.1.2.2.2.2
  have h1 := two_len (p := tyP r) (fun i j hi hj => hW.1.2.1 i j hi hj) (fun i hi => hW.2.2.2.2.2.1 i hi)
  have h2 := prA_cut (p := tyP r) h8 (fun a ha b hb1 => hW.1.1 a ha b hb1)
  rw [h2] at h1
  have pe : ∀ i, i < 8 → popI (r (24 + i)) = nI (cntB (tyP r i) 8) := fun i hi => popI_eq (fun j hj => hW.1.1 i hi j (by omega))
  have c0 := cntB_le (tyP r 0) 8
  have c1 := cntB_le (tyP r 1) 8
  have c2 := cntB_le (tyP r 2) 8
  have c3 := cntB_le (tyP r 3) 8
  have c4 := cntB_le (tyP r 4) 8
  have c5 := cntB_le (tyP r 5) 8
  have c6 := cntB_le (tyP r 6) 8
  have c7 := cntB_le (tyP r 7) 8
  refine ⟨?_, by omega⟩
  have es : sumB (fun _ => true) (fun i => popI (r (24 + i))) 8 = nI (2 * (prA (lsF (tyP r)) n [] n).length) := by
    simp only [sumB, if_true]
    rw [pe 0 (by omega), pe 1 (by omega), pe 2 (by omega), pe 3 (by omega), pe 4 (by omega), pe 5 (by omega), pe 6 (by omega), pe 7 (by omega), show (0 : Int32) = nI 0 from rfl, nI_add, nI_add, nI_add, nI_add, nI_add, nI_add, nI_add, nI_add, ← h1, Nat.zero_add]
  unfold cntL
  rw [es, show (2 : Int32) = nI 2 from rfl, pk_div (by omega) (by omega) (by omega), Nat.mul_div_cancel_left _ (by omega)]
end SR
