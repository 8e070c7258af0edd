/-! ===== things told: both sides ===== -/
theorem rR_same {σ : Sg} {k j : Nat} (h : rR σ k j = 0) (hj : j < 37) : rR (wi σ k j 0) k = rR σ k := by
  rw [rR_w hj]
  funext i
  unfold upd
  split
  · next e => rw [e]; exact h.symm
  · rfl
theorem things_l141 {N : Nat} (hN : 20 < N) {σ : Sg} {n c : Nat} (hn : gi σ 149 3 = nI n) (hc : gi σ 149 16 = nI c) (hn8 : n + c ≤ 8) (hz : ∀ i, n ≤ i → i < 8 → rR σ 153 i = 0 ∧ rR σ 153 (8 + i) = 0 ∧ rR σ 153 (16 + i) = 0 ∧ rR σ 153 (24 + i) = 0) (K : Sg → Option (Int32 × Sg)) : ∃ σ', X9_things_l141 N K N 0 σ = K σ' ∧ gi σ' 149 3 = nI (n + c) ∧ (∀ i, i < n → gi σ' 151 i = gi σ 151 i) ∧ (∀ i, i < c → gi σ' 151 (n + i) = gi σ 156 i) ∧ rR σ' 153 = rR σ 153 ∧ Fr [3003, 151, 153] σ σ' := by
  refine forL0 (L := fun m i a => X9_things_l141 N K m (nI i) a) (m := c) (a := σ) (fun i a => gi a 149 3 = nI (n + i) ∧ (∀ j, j < n → gi a 151 j = gi σ 151 j) ∧ (∀ j, j < i → gi a 151 (n + j) = gi σ 156 j) ∧ rR a 153 = rR σ 153 ∧ Fr [3003, 151, 153] σ a) (o := fun x => ∃ σ', x = K σ' ∧ gi σ' 149 3 = nI (n + c) ∧ (∀ i, i < n → gi σ' 151 i = gi σ 151 i) ∧ (∀ i, i < c → gi σ' 151 (n + i) = gi σ 156 i) ∧ rR σ' 153 = rR σ 153 ∧ Fr [3003, 151, 153] σ σ') (by omega) ⟨hn, fun j _ => rfl, fun j hj => absurd hj (Nat.not_lt_zero _), rfl, Fr.refl _ _⟩ ?_ ?_
  · intro m i a hi hI
    obtain ⟨g1, g2, g3, g4, g5⟩ := hI
    left
    have hz1 := hz (n + i) (by omega) (by omega)
    rw [← g4] at hz1
    refine ⟨wi (wi (wi (wi (wi (wi a 151 (n + i) (gi σ 156 i)) 153 (n + i) 0) 153 (8 + (n + i)) 0) 153 (16 + (n + i)) 0) 153 (24 + (n + i)) 0) 149 3 (nI (n + i) + 1), ⟨by rw [giw, if_pos ⟨rfl, rfl⟩, nI1]; rfl, fun j hj => ?_, fun j hj => ?_, ?_, (((((g5.wi (by simp [pl])).wi (by simp [pl])).wi (by simp [pl])).wi (by simp [pl])).wi (by simp [pl])).wi (by simp [pl])⟩, ?_⟩
    · rw [gi_wi_ne (by omega), gi_wi_ne (by omega), gi_wi_ne (by omega), gi_wi_ne (by omega), gi_wi_ne (by omega), giw, if_neg (by omega)]; exact g2 j hj
    · rw [gi_wi_ne (by omega), gi_wi_ne (by omega), gi_wi_ne (by omega), gi_wi_ne (by omega), gi_wi_ne (by omega), giw]
      by_cases z : j = i
      · rw [if_pos ⟨rfl, by omega⟩, z]
      · rw [if_neg (by omega)]; exact g3 j (by omega)
    · rw [← g4]
      have e0 : rR (wi a 151 (n + i) (gi σ 156 i)) 153 = rR a 153 := rR_congr (gi_wi_ne (by omega))
      have e1 := rR_same (σ := wi a 151 (n + i) (gi σ 156 i)) (k := 153) (j := n + i) (by rw [e0]; exact hz1.1) (by omega)
      have e2 := rR_same (σ := wi (wi a 151 (n + i) (gi σ 156 i)) 153 (n + i) 0) (k := 153) (j := 8 + (n + i)) (by rw [e1, e0]; exact hz1.2.1) (by omega)
      have e3 := rR_same (σ := wi (wi (wi a 151 (n + i) (gi σ 156 i)) 153 (n + i) 0) 153 (8 + (n + i)) 0) (k := 153) (j := 16 + (n + i)) (by rw [e2, e1, e0]; exact hz1.2.2.1) (by omega)
      have e4 := rR_same (σ := wi (wi (wi (wi a 151 (n + i) (gi σ 156 i)) 153 (n + i) 0) 153 (8 + (n + i)) 0) 153 (16 + (n + i)) 0) (k := 153) (j := 24 + (n + i)) (by rw [e3, e2, e1, e0]; exact hz1.2.2.2) (by omega)
      rw [show rR (wi (wi (wi (wi (wi (wi a 151 (n + i) (gi σ 156 i)) 153 (n + i) 0) 153 (8 + (n + i)) 0) 153 (16 + (n + i)) 0) 153 (24 + (n + i)) 0) 149 3 (nI (n + i) + 1)) 153 = _ from rR_congr (gi_wi_ne (by omega)), e4, e3, e2, e1, e0]
    · have w1 : ∀ x y z, gi (wi a 151 x y) 149 z = gi a 149 z := fun x y z => by rw [gi_wi_ne (by omega)]
      have w2 : ∀ b x y z, gi (wi b 153 x y) 149 z = gi b 149 z := fun b x y z => by rw [gi_wi_ne (by omega)]
      rw [X9_things_l141, (g5.g (k := 149) (j := 16) (by decide)).trans hc, if_neg (nI_ge hi (by omega)), inbI (show i < 48 by omega) (by omega), if_pos rfl, g1, inbI (show n + i < 8 by omega) (by omega), if_pos rfl, clI (by omega), clI (by omega), g5.g (k := 156) (by simp [pl]), nI1]
      simp only [bnS, w1, w2, g1]
      rw [inbI (show n + i < 37 by omega) (by omega), if_pos rfl, clI (by omega), show (8 : Int32) = nI 8 from rfl, show (16 : Int32) = nI 16 from rfl, show (24 : Int32) = nI 24 from rfl, nI_add, nI_add, nI_add, inbI (show 8 + (n + i) < 37 by omega) (by omega), if_pos rfl, clI (by omega), inbI (show 16 + (n + i) < 37 by omega) (by omega), if_pos rfl, clI (by omega), inbI (show 24 + (n + i) < 37 by omega) (by omega), if_pos rfl, clI (by omega)]
  · intro m a hI
    obtain ⟨g1, g2, g3, g4, g5⟩ := hI
    exact ⟨a, by rw [X9_things_l141, (g5.g (k := 149) (j := 16) (by decide)).trans hc, if_pos (nI_le (Nat.le_refl _) (by omega))], g1, g2, g3, g4, g5⟩
theorem WF.more {n n' S H : Nat} {r : Nat → Int32} (h : WF n S H r) (hn : n ≤ n') (h8 : n' ≤ 8) : WF n' S H r := by
  obtain ⟨⟨a1, a2, a3, a4, a5⟩, b, c, d, e, f, g⟩ := h
  exact ⟨⟨fun i hi j hj => a1 i hi j (by omega), a2, a3, fun i hi => a4 i (by omega), h8⟩, b, c, d, fun i hi hi8 => e i (by omega) hi8, f, g⟩
def thL (L : Ld) (t : List Nat) (c : Nat) : Ld := (L.1 + c, (fun i => if i < L.1 then L.2.1 i else nI (t.getD (2 * (i - L.1)) 0 - 48)), L.2.2)
theorem nIm1 {q : Nat} (h : q < 2147483648) : ¬ nI q = (-1) := fun z => by have := nI_pos (n := q) (by omega); rw [z] at this; exact this (by decide)
theorem things_bad {N : Nat} (hN : 555 < N) {H : Nat} {L : Ld} {now : Nat → Int32} {t : List Nat} {to : List Int64} {p : List (Nat → Int32)} {s : Nat → Option (Nat → Int32)} {w : List (Nat × Nat × Nat)} (hA : OkA H (L, now, t, to, p, s, w)) {q : Nat} (q1 : q ≤ min t.length 15) (q2 : ∀ i, i < q → thP t L.1 i = true) (q3 : q < min t.length 15 → thP t L.1 q = false) (hbad : q < t.length ∨ (0 < q ∧ q % 2 = 0)) : OpB (X8_things N) (X9_things N) H (L, now, t, to, p, s, w) := by
  obtain ⟨k1, ⟨k2, k2'⟩, k3, ⟨k4, k4'⟩, k5, k6⟩ := hA
  dsimp only at k1 k2 k2' k3 k4 k4' k5 k6
  have h8 : L.1 ≤ 8 := k1.1.2.2.2.2
  refine ⟨-1 - nI q, (L, now, [], to, p, s, w), ?_, ?_, k1.mono (by omega), ⟨by simp, by simp⟩, k3, ⟨k4, fun q hq => (k4' q hq).mono (by omega)⟩, fun i r hi hr => (k5 i r hi hr).mono (by omega), k6⟩
  · rintro σ ⟨c1, c2, c3, c4, c5, c6, c7⟩
    dsimp only at c1 c2 c3 c4 c5 c6 c7
    obtain ⟨σ1, a1, a2, a3⟩ := txClear_c N σ
    refine ⟨σ1, ?_, ⟨c1.fr a3 (by decide), (a3.row19 (by decide)).trans c2, a2, c4.fr a3 (by decide), c5.fr a3 (by decide +kernel), c6.fr a3 (by decide +kernel), c7.fr a3 (by decide)⟩, fun B hB => hB.fr a3 (by decide)⟩
    unfold X8_things
    rw [faultT (by omega) c3 k2 k2' c1.n.1 h8 q1 q2 q3, if_pos hbad, Option.bind_some, if_neg (nIm1 (by omega)), X8_things_j70, a1, Option.bind_some, if_neg (nIm1 (by omega))]
  · rintro σ ⟨c1, c2, c3, c4, c5, c6, c7⟩
    dsimp only at c1 c2 c3 c4 c5 c6 c7
    obtain ⟨σ1, a1, a2, a3, a4, a5⟩ := begins_r N c3 k2 (b := 15) (by omega)
    have hR : thR t (wi σ1 149 16 0) (min t.length 15) 0 0 := ⟨a2.fr (l := [3016]) ((Fr.refl _ _).wi (by simp [pl])) (by decide), by rw [giw, if_pos ⟨rfl, rfl⟩]; rfl, fun j hj => absurd hj (Nat.not_lt_zero _)⟩
    have f1 : Fr (rdL ++ [3016]) σ (wi σ1 149 16 0) := (a5.mono (by decide)).wi (by decide)
    obtain ⟨σ2, b1, b2, b3⟩ := things_l29 (N := N) (by omega) k2 k2' ((f1.g (k := 149) (j := 3) (by decide)).trans c1.1) h8 q1 q2 q3 hR (fun v1 v2 σ => X9_things_j120 N v1 v2 σ) (nI t.length)
    have f : Fr (rdL ++ [3016, 156]) σ σ2 := (f1.mono (by decide)).trans (b3.mono (by decide))
    refine ⟨σ2, ?_, ⟨c1.fr f (by decide), (rR_congr (f.r (by simp [pl, rdL]))).trans c2, ⟨?_, fun i hi => absurd hi (Nat.not_lt_zero _)⟩, c4.fr f (by decide), c5.fr f (by decide), c6.fr f (by decide), c7.fr f (by decide)⟩, fun B hB => hB.fr f (by decide +kernel)⟩
    · unfold X9_things
      simp only [bnS]
      have hfo := faultOf_r N b2.1 (b := 15) (by omega) rfl k2 q1 (v := nI (q % 2)) (ok := false) (by rcases (show q % 2 = 1 ∨ q % 2 = 0 by omega) with z | z <;> rw [z]; exact Or.inl rfl; exact Or.inr rfl) ⟨fun z => absurd z (by decide), fun z => by
        exfalso
        rcases hbad with y | y
        · omega
        · have := z.1
          rw [y.2] at this; exact absurd this (by decide)⟩ (fun z1 z2 => by
        exfalso
        subst z2; exact absurd z1 (by decide))
      rw [show (15 : Int32) = nI 15 from rfl, a1, Option.bind_some, if_neg (nI_nle (by omega) (by omega)), b1, X9_things_j120, show (15 : Int32) = nI 15 from rfl, hfo, Option.bind_some, if_neg (show ¬ false = true by decide), if_neg (show ¬ (0 : Int32) ≤ -1 - nI q from (by decide : ∀ q, q < 16 → ¬ (0 : Int32) ≤ -1 - nI q) q (by omega))]
    · exact (b3.g (k := 149) (j := 11) (by decide)).trans (by rw [giw, if_neg (by omega)]; exact a3)
theorem add0 (x : Int32) : x + 0 = x := by
  rw [Int32.add_zero]
theorem rR_z {n S H : Nat} {r : Nat → Int32} (h : WF n S H r) : ∀ i, n ≤ i → i < 8 → r i = 0 ∧ r (8 + i) = 0 ∧ r (16 + i) = 0 ∧ r (24 + i) = 0 := fun i hi h8 => ⟨(h.2.2.2.2.1 i hi h8).1, (h.2.2.2.2.1 i hi h8).2.1, (h.2.2.2.2.1 i hi h8).2.2, h.1.l0 hi h8⟩
theorem things_none {N : Nat} (hN : 555 < N) {H : Nat} {L : Ld} {now : Nat → Int32} {to : List Int64} {p : List (Nat → Int32)} {s : Nat → Option (Nat → Int32)} {w : List (Nat × Nat × Nat)} (hA : OkA H (L, now, [], to, p, s, w)) : OpB (X8_things N) (X9_things N) H (L, now, [], to, p, s, w) := by
  have hA0 := hA
  obtain ⟨k1, ⟨k2, k2'⟩, k3, ⟨k4, k4'⟩, k5, k6⟩ := hA
  dsimp only at k1 k2 k2' k3 k4 k4' k5 k6
  have h8 : L.1 ≤ 8 := k1.1.2.2.2.2
  refine ⟨0, (L, now, [], to, p, s, w), ?_, ?_, hA0.mono (by omega)⟩
  · rintro σ ⟨c1, c2, c3, c4, c5, c6, c7⟩
    dsimp only at c1 c2 c3 c4 c5 c6 c7
    obtain ⟨σ1, a1, a2, a3⟩ := txClear_c N σ
    refine ⟨σ1, ?_, ⟨c1.fr a3 (by decide), (a3.row19 (by decide)).trans c2, a2, c4.fr a3 (by decide), c5.fr a3 (by decide +kernel), c6.fr a3 (by decide +kernel), c7.fr a3 (by decide)⟩, fun B hB => hB.fr a3 (by decide)⟩
    unfold X8_things
    rw [faultT (by omega) c3 k2 k2' c1.n.1 h8 (q := 0) (by omega) (fun i hi => absurd hi (Nat.not_lt_zero _)) (fun z => absurd z (by simp)), if_neg (by simp), Option.bind_some, if_pos rfl, c3.1, if_pos (by decide), X8_things_j70, a1, Option.bind_some, if_pos rfl]
    rfl
  · rintro σ ⟨c1, c2, c3, c4, c5, c6, c7⟩
    dsimp only at c1 c2 c3 c4 c5 c6 c7
    obtain ⟨σ1, a1, a2, a3, a4, a5⟩ := begins_r N c3 k2 (b := 15) (by omega)
    have f1 : Fr (rdL ++ [3016]) σ (wi σ1 149 16 0) := (a5.mono (by decide)).wi (by decide)
    have hR : RdR (wi σ1 149 16 0) [] 0 0 := a2.fr (l := [3016]) ((Fr.refl _ _).wi (by simp [pl])) (by decide)
    have e16 : gi (wi σ1 149 16 0) 149 16 = nI 0 := by rw [giw, if_pos ⟨rfl, rfl⟩]; rfl
    have r1 : rR (wi σ1 149 16 0) 153 = now := (rR_congr (f1.r (by simp [pl, rdL]))).trans c2
    obtain ⟨σ2, b1, b2, b3, b4, b5, b6⟩ := things_l141 (N := N) (by omega) (n := L.1) (c := 0) ((f1.g (k := 149) (j := 3) (by decide)).trans c1.1) e16 (by omega) (by rw [r1]; exact rR_z k1) (fun σ => X9_things_j231 N σ)
    have f2 : Fr (rdL ++ [3016]) σ1 (wi σ1 149 16 0) := (Fr.refl _ _).wi (by decide)
    have g16 : gi σ2 149 16 = 0 := (b6.g (k := 149) (j := 16) (by decide)).trans e16
    refine ⟨wi (wi σ2 149 23 (gi σ2 149 23)) 149 4 (gi (wi σ2 149 23 (gi σ2 149 23)) 149 4 + 0), ?_, ?_, fun B hB => hB.fr (l := rdL ++ [3016, 3003, 151, 153, 3023, 3004]) ((((f1.mono (by decide)).trans (b6.mono (by decide))).wi (by decide)).wi (by decide)) (by decide +kernel)⟩
    · unfold X9_things
      simp only [bnS]
      rw [show (15 : Int32) = nI 15 from rfl, a1, Option.bind_some, if_pos (show nI ([] : List Nat).length ≤ 0 by decide)]
      obtain ⟨M, rfl⟩ : ∃ k, N = k + 1 := ⟨N - 1, by omega⟩
      rw [X9_things_l29, if_pos rfl, X9_things_j120, show (15 : Int32) = nI 15 from rfl, faultOf_r _ hR (b := 15) (by omega) rfl (by simp) (by omega) (ok := true) (Or.inl rfl) ⟨fun _ => ⟨rfl, rfl, by simp⟩, fun _ => rfl⟩ (fun z => absurd z (by decide)), Option.bind_some, if_pos (show (0 : Int32) ≤ if true = true then 0 else -1 - nI 0 by decide), b1, X9_things_j231, g16, if_pos (by decide), X9_things_j247]
      simp only [bnS]
      have e1 : gi (wi σ2 149 23 (gi σ2 149 23)) 149 16 = 0 := by rw [giw, if_neg (by omega)]; exact g16
      rw [e1, if_pos (by decide), X9_things_j267, show X9_flag (M + 1) 0 _ = some 0 from rfl, Option.bind_some]
      simp only [bnS]
      rw [giw, if_neg (by omega), e1]
    · have q : ∀ k j, gi (wi (wi σ2 149 23 (gi σ2 149 23)) 149 4 (gi (wi σ2 149 23 (gi σ2 149 23)) 149 4 + 0)) k j = gi σ2 k j := by
        intro k j
        rw [giw]
        split
        · next h => rw [h.1, h.2, add0, giw, if_neg (by omega)]
        · rw [giw]
          split
          · next h => rw [h.1, h.2]
          · rfl
      have ql : ∀ k j, gl (wi (wi σ2 149 23 (gi σ2 149 23)) 149 4 (gi (wi σ2 149 23 (gi σ2 149 23)) 149 4 + 0)) k j = gl σ2 k j := by
        intro k j
        rw [glwi, glwi]
      have f3 : Fr [] σ2 (wi (wi σ2 149 23 (gi σ2 149 23)) 149 4 (gi (wi σ2 149 23 (gi σ2 149 23)) 149 4 + 0)) := fun k j _ => ⟨q k j, ql k j⟩
      have f : Fr (rdL ++ [3016, 3003, 151, 153]) σ _ := ((f1.mono (by decide)).trans (b6.mono (by decide))).trans (f3.mono (l' := rdL ++ [3016, 3003, 151, 153]) (by decide))
      have f4 : Fr (rdL ++ [3016]) σ (wi σ1 149 16 0) := f1
      refine ⟨?_, (rR_congr (f3.r (by simp))).trans (b5.trans r1), ⟨?_, fun i hi => absurd hi (Nat.not_lt_zero _)⟩, c4.fr f (by decide), c5.fr f (by decide), c6.fr f (by decide), c7.fr f (by decide)⟩
      · obtain ⟨l1, l2, l3, l4, l5, l6, l7, l8, l9⟩ := c1
        refine ⟨(q 149 3).trans b2, l2, fun i hi => (q 151 i).trans ((b3 i hi).trans ((f1.g (k := 151) (by simp [pl, rdL])).trans (l3 i hi))), (f.g (k := 149) (j := 5) (by decide)).trans l4, l5, l6, fun i hi => (f.g (k := 152) (by simp [pl, rdL])).trans (l7 i hi), ?_, l9⟩
        rcases l8 with ⟨z1, z2, z3⟩ | ⟨z1, z2, z3⟩
        · exact Or.inl ⟨(f.g (k := 149) (j := 19) (by decide)).trans z1, z2, fun i hi => (f.g (k := 157) (by simp [pl, rdL])).trans (z3 i hi)⟩
        · exact Or.inr ⟨(f.g (k := 149) (j := 19) (by decide)).trans z1, z2, z3⟩
      · rw [q]; exact (b6.g (k := 149) (j := 11) (by decide)).trans (by rw [giw, if_neg (by omega)]; exact a3)
theorem things_good {N : Nat} (hN : 555 < N) {H : Nat} {L : Ld} {now : Nat → Int32} {t : List Nat} {to : List Int64} {p : List (Nat → Int32)} {s : Nat → Option (Nat → Int32)} {w : List (Nat × Nat × Nat)} (hA : OkA H (L, now, t, to, p, s, w)) (q1 : t.length ≤ 15) (q2 : ∀ i, i < t.length → thP t L.1 i = true) {c : Nat} (hc : t.length = 2 * c + 1) : OpB (X8_things N) (X9_things N) H (L, now, t, to, p, s, w) := by
  obtain ⟨k1, ⟨k2, k2'⟩, k3, ⟨k4, k4'⟩, k5, k6⟩ := hA
  dsimp only at k1 k2 k2' k3 k4 k4' k5 k6
  have h8 : L.1 ≤ 8 := k1.1.2.2.2.2
  have hd : ∀ i, i < c + 1 → (49 ≤ t.getD (2 * i) 0 ∧ t.getD (2 * i) 0 ≤ 57) ∧ L.1 + i < 8 := fun i hi => thP_0 (q2 (2 * i) (by omega))
  have h8' : L.1 + (c + 1) ≤ 8 := by have := (hd c (by omega)).2; omega
  have hmin : min t.length 15 = t.length := Nat.min_eq_left q1
  refine ⟨nI (c + 1), (thL L t (c + 1), now, [], to, [], fun _ => none, w), ?_, ?_, (k1.more (by show L.1 ≤ L.1 + (c + 1); omega) h8').mono (by omega), ⟨by simp, by simp⟩, k3, ⟨by simp, by simp⟩, fun i r hi hr => by simp at hr, k6.1, fun x hx => ⟨by show x.1 < L.1 + (c + 1); have := (k6.2 x hx).1; omega, (k6.2 x hx).2⟩⟩
  · rintro σ ⟨c1, c2, c3, c4, c5, c6, c7⟩
    dsimp only at c1 c2 c3 c4 c5 c6 c7
    obtain ⟨σ1, a1, a2, a3, a4, a5⟩ := addThings_c (N := N) (by omega) c3 k2 k2' c1.n.1 (c := c + 1) (by omega) h8' (fun i hi => (hd i hi).1) (-1) (fun v1 v2 σ => X8_things_j56 N v1 v2 σ)
    have f : Fr [2001, 6, 29, 111, 1] σ (wi (wi (wi σ1 29 2 0) 111 1 0) 1 1 0) := (((a5.mono (by decide)).wi (by simp [pl])).wi (by simp [pl])).wi (by simp [pl])
    have f2 : Fr [29, 111, 1] σ1 (wi (wi (wi σ1 29 2 0) 111 1 0) 1 1 0) := (((Fr.refl _ _).wi (by simp [pl])).wi (by simp [pl])).wi (by simp [pl])
    refine ⟨wi (wi (wi σ1 29 2 0) 111 1 0) 1 1 0, ?_, ⟨?_, (f.row19 (by decide)).trans c2, ⟨?_, fun i hi => absurd hi (Nat.not_lt_zero _)⟩, c4.fr f (by decide), ?_, ?_, c7.fr f (by decide)⟩, fun B hB => hB.fr f (by decide)⟩
    · unfold X8_things
      rw [faultT (by omega) c3 k2 k2' c1.n.1 h8 (q := t.length) (by omega) q2 (fun z => by omega), if_neg (by omega), Option.bind_some, if_pos rfl, c3.1, hc, show (nI (2 * c + 1) + 1) / 2 = nI (c + 1) by rw [nI1, show (2 : Int32) = nI 2 from rfl, pk_div (by omega) (by omega) (by omega)]; congr 1; omega, if_neg (nI_nle (by omega) (by omega)), a1]
      rfl
    · obtain ⟨kk, e2, e3, l1, l2, l3, l4, l5, l6, l7, l8, l9, l10⟩ := c1
      refine ⟨kk, (f.g (k := 5) (j := 2) (by decide)).trans e2, (f.g (k := 5) (j := 3) (by decide)).trans e3, (f2.g (k := 5) (j := 1) (by decide)).trans a2, h8', fun i hi => ?_, (f.g (k := 5) (j := 8) (by decide)).trans l4, l5, l6, fun i hi => (f.g (k := 17) (by simp [pl])).trans (l7 i hi), ⟨?_, fun i hi => ?_⟩, l9, l10⟩
      · rw [f2.g (k := 6) (by simp [pl])]
        show gi σ1 6 i = if i < L.1 then L.2.1 i else nI (t.getD (2 * (i - L.1)) 0 - 48)
        by_cases z : i < L.1
        · rw [if_pos z, a3 i z]; exact l3 i z
        · have hi' : i < L.1 + (c + 1) := hi
          rw [if_neg z, ← a4 (i - L.1) (by omega), show L.1 + (i - L.1) = i by omega]
      · rcases l10 with z | z <;> subst z
        · exact (f.g (k := 7) (j := 3) (by decide)).trans l8.1
        · exact (f.g (k := 11) (j := 3) (by decide)).trans l8.1
      · rcases l10 with z | z <;> subst z
        · exact (f.g (k := 7 + 1) (by simp [pl])).trans (l8.2 i hi)
        · exact (f.g (k := 11 + 1) (by simp [pl])).trans (l8.2 i hi)
    · rw [giw, if_pos ⟨rfl, rfl⟩]; rfl
    · obtain ⟨x, x1, x2, x3, x4⟩ := c5
      refine ⟨x, x1, ?_, ?_, fun i hi => absurd hi (Nat.not_lt_zero _)⟩
      · rw [gi_wi_ne (by omega), gi_wi_ne (by omega), giw, if_neg (by omega)]; exact (a5.g (k := 29) (by simp [pl])).trans x2
      · rw [gi_wi_ne (by omega), gi_wi_ne (by omega), giw, if_pos ⟨rfl, rfl⟩]; rfl
    · intro i hi
      refine ⟨?_, fun r hr => by simp at hr⟩
      rw [gi_wi_ne (by omega), giw, if_pos ⟨rfl, rfl⟩, hb_0]; rfl
  · rintro σ ⟨c1, c2, c3, c4, c5, c6, c7⟩
    dsimp only at c1 c2 c3 c4 c5 c6 c7
    obtain ⟨σ1, a1, a2, a3, a4, a5⟩ := begins_r N c3 k2 (b := 15) (by omega)
    have hR : thR t (wi σ1 149 16 0) (min t.length 15) 0 0 := ⟨a2.fr (l := [3016]) ((Fr.refl _ _).wi (by simp [pl])) (by decide), by rw [giw, if_pos ⟨rfl, rfl⟩]; rfl, fun j hj => absurd hj (Nat.not_lt_zero _)⟩
    have f1 : Fr (rdL ++ [3016]) σ (wi σ1 149 16 0) := (a5.mono (by decide)).wi (by decide)
    obtain ⟨σ2, b1, b2, b3⟩ := things_l29 (N := N) (by omega) k2 k2' ((f1.g (k := 149) (j := 3) (by decide)).trans c1.1) h8 (q := t.length) (by omega) q2 (fun z => by omega) hR (fun v1 v2 σ => X9_things_j120 N v1 v2 σ) (nI t.length)
    have hcc : (t.length + 1) / 2 = c + 1 := by omega
    rw [hcc] at b2
    have f2 : Fr (rdL ++ [3016, 156]) σ σ2 := (f1.mono (by decide)).trans (b3.mono (by decide))
    have r2 : rR σ2 153 = now := (rR_congr (f2.r (by simp [pl, rdL]))).trans c2
    obtain ⟨σ3, d1, d2, d3, d4, d5, d6⟩ := things_l141 (N := N) (by omega) (n := L.1) (c := c + 1) ((f2.g (k := 149) (j := 3) (by decide)).trans c1.1) b2.2.1 h8' (by rw [r2]; exact rR_z k1) (fun σ => X9_things_j231 N σ)
    have g16 : gi σ3 149 16 = nI (c + 1) := (d6.g (k := 149) (j := 16) (by decide)).trans b2.2.1
    have f3 : Fr (rdL ++ [3016, 156, 3003, 151, 153]) σ σ3 := (f2.mono (by decide)).trans (d6.mono (by decide))
    obtain ⟨ch, s1, s2, s3⟩ := c6
    have e4 : gi σ3 149 4 = nI ch := (f3.g (k := 149) (j := 4) (by decide)).trans s2
    have f : Fr (rdL ++ [3016, 156, 3003, 151, 153, 3023, 3004]) σ (wi (wi σ3 149 23 0) 149 4 (nI ch + 1)) := ((f3.mono (by decide)).wi (by decide)).wi (by decide)
    have f4 : Fr [3023, 3004] σ3 (wi (wi σ3 149 23 0) 149 4 (nI ch + 1)) := ((Fr.refl _ _).wi (by decide)).wi (by decide)
    refine ⟨wi (wi σ3 149 23 0) 149 4 (nI ch + 1), ?_, ⟨?_, (rR_congr (f4.r (by simp [pl]))).trans (d5.trans r2), ⟨?_, fun i hi => absurd hi (Nat.not_lt_zero _)⟩, c4.fr f (by decide), ⟨?_, fun i hi => absurd hi (Nat.not_lt_zero _)⟩, ?_, c7.fr f (by decide)⟩, fun B hB => hB.fr f (by decide +kernel)⟩
    · unfold X9_things
      simp only [bnS]
      rw [show (15 : Int32) = nI 15 from rfl, a1, Option.bind_some, if_neg (nI_nle (by omega) (by omega)), b1, X9_things_j120, show (15 : Int32) = nI 15 from rfl, faultOf_r N b2.1 (b := 15) (by omega) rfl k2 (by omega) (ok := true) (Or.inl (by rw [show t.length % 2 = 1 by omega]; rfl)) ⟨fun _ => ⟨by rw [show t.length % 2 = 1 by omega]; rfl, rfl, q1⟩, fun _ => rfl⟩ (fun _ _ => q1), Option.bind_some, if_pos (show (0 : Int32) ≤ if true = true then 0 else -1 - nI t.length from by rw [if_pos rfl]; decide), d1, X9_things_j231, g16, if_neg (nI_nle (by omega) (by omega)), X9_things_j247]
      simp only [bnS]
      have e1 : gi (wi σ3 149 23 0) 149 16 = nI (c + 1) := by rw [giw, if_neg (by omega)]; exact g16
      rw [e1, if_neg (nI_nle (by omega) (by omega)), X9_things_j267, show X9_flag N 1 _ = some 1 from rfl, Option.bind_some]
      simp only [bnS]
      have e5 : gi (wi σ3 149 23 0) 149 4 = nI ch := by rw [giw, if_neg (by omega)]; exact e4
      rw [e5, giw, if_neg (by omega), e1]
    · obtain ⟨l1, l2, l3, l4, l5, l6, l7, l8, l9⟩ := c1
      refine ⟨(f4.g (k := 149) (j := 3) (by decide)).trans d2, h8', fun i hi => ?_, (f.g (k := 149) (j := 5) (by decide)).trans l4, l5, l6, fun i hi => (f.g (k := 152) (by simp [pl, rdL])).trans (l7 i hi), ?_, l9⟩
      · rw [f4.g (k := 151) (by simp [pl])]
        show gi σ3 151 i = if i < L.1 then L.2.1 i else nI (t.getD (2 * (i - L.1)) 0 - 48)
        by_cases z : i < L.1
        · rw [if_pos z, d3 i z, f2.g (k := 151) (by simp [pl, rdL])]; exact l3 i z
        · have hi' : i < L.1 + (c + 1) := hi
          have := d4 (i - L.1) (by omega)
          rw [show L.1 + (i - L.1) = i by omega] at this
          rw [if_neg z, this]; exact b2.2.2 _ (by omega)
      · rcases l8 with ⟨z1, z2, z3⟩ | ⟨z1, z2, z3⟩
        · exact Or.inl ⟨(f.g (k := 149) (j := 19) (by decide)).trans z1, z2, fun i hi => (f.g (k := 157) (by simp [pl, rdL])).trans (z3 i hi)⟩
        · exact Or.inr ⟨(f.g (k := 149) (j := 19) (by decide)).trans z1, z2, z3⟩
    · exact (f4.g (k := 149) (j := 11) (by decide)).trans ((d6.g (k := 149) (j := 11) (by decide)).trans ((b3.g (k := 149) (j := 11) (by decide)).trans (by rw [giw, if_neg (by omega)]; exact a3)))
    · rw [giw, if_neg (by omega), giw, if_pos ⟨rfl, rfl⟩]; rfl
    · refine ⟨ch + 1, by show ch + 1 ≤ L.1 + (c + 1); omega, by rw [giw, if_pos ⟨rfl, rfl⟩, nI1], fun i hi => ?_⟩
      obtain ⟨u1, u2, ⟨a, u3, u4⟩, u5⟩ := s3 i hi
      refine ⟨by rw [f.g (k := 177) (by simp [pl, rdL])]; exact u1, ⟨fun z => by simp at z, fun z => ?_⟩, ⟨a, by omega, (f.g (k := 178) (by simp [pl, rdL])).trans u4⟩, fun r hr => by simp at hr⟩
      have := z.2
      rw [f.g (k := 178) (by simp [pl, rdL]), u4, nI_eq (by omega) (by omega)] at this
      omega
theorem things_op {N : Nat} (hN : 555 < N) {H : Nat} {A : Ab} (hA : OkA H A) : OpB (X8_things N) (X9_things N) H A := by
  obtain ⟨L, now, t, to, p, s, w⟩ := A
  obtain ⟨q, q1, q2, q3⟩ := upto_p (thP t L.1) (min t.length 15)
  by_cases hbad : q < t.length ∨ (0 < q ∧ q % 2 = 0)
  · exact things_bad hN hA q1 q2 q3 hbad
  · have e1 : q = t.length := by omega
    subst e1
    by_cases z : t.length = 0
    · have : t = [] := List.length_eq_zero_iff.mp z
      subst this
      exact things_none hN hA
    · exact things_good hN hA (by omega) q2 (c := t.length / 2) (by omega)
