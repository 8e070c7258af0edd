/-! ===== strings told: both sides ===== -/
theorem strings_l159 {N : Nat} (hN : 40 < N) {σ : Sg} {t : List Nat} {n : Nat} (h8 : n ≤ 8) {r : Nat → Int32} (hr : rR σ 153 = r) {m c q : Nat} (h : sR t σ m c q) (hc : c ≤ 20) (hs : stOk t n r c) (K : Int32 → Sg → Option (Int32 × Sg)) : ∃ σ', X9_strings_l159 N K N 0 0 σ = K (nI (tyN t r c)) σ' ∧ rR σ' 153 = tyR t r c ∧ Fr [153] σ σ' := by
  refine forL0 (L := fun m i (x : Nat × Sg) => X9_strings_l159 N K m (nI x.1) (nI i) x.2) (m := c) (a := (0, σ)) (fun i x => x.1 = tyN t r i ∧ rR x.2 153 = tyR t r i ∧ Fr [153] σ x.2) (o := fun x => ∃ σ', x = K (nI (tyN t r c)) σ' ∧ rR σ' 153 = tyR t r c ∧ Fr [153] σ σ') (by omega) ⟨rfl, hr, Fr.refl _ _⟩ ?_ ?_
  · intro m i x hi hI
    obtain ⟨y, a⟩ := x
    obtain ⟨g1, g2, g3⟩ := hI
    dsimp only at g1 g2 g3
    left
    have h1 := hs i hi
    have e1 : gi a 156 (2 * i) = nI (stA t i) := (g3.g (k := 156) (by simp [pl])).trans (h.2.2 i hi).1
    have e2 : gi a 156 (2 * i + 1) = nI (stB t i) := (g3.g (k := 156) (by simp [pl])).trans (h.2.2 i hi).2
    have e3 : gi a 149 16 = nI c := (g3.g (k := 149) (j := 16) (by decide)).trans h.2.1
    have ebit : gi a 153 (24 + stA t i) = tyR t r i (24 + stA t i) := by rw [← g2, rR_j (by omega)]
    have base : X9_strings_l159 N K (m + 1) (nI y) (nI i) a = (if hb (tyR t r i (24 + stA t i)) (stB t i) = true then X9_strings_l159 N K m (nI y) (nI (i + 1)) a else ((X9_toggles N 153 (nI (stA t i)) (nI (stB t i)) a).bind fun r46 => X9_strings_l159 N K m (nI (y + 1)) (nI (i + 1)) r46)) := by
      rw [X9_strings_l159, e3, if_neg (nI_ge hi (by omega)), show (2 : Int32) = nI 2 from rfl, pk_mul, inbI (show 2 * i < 48 by omega) (by omega), if_pos rfl, clI (by omega), e1, show (24 : Int32) = nI 24 from rfl, nI_add, inbI (show 24 + stA t i < 37 by omega) (by omega), if_pos rfl, nI1, inbI (show 2 * i + 1 < 48 by omega) (by omega), if_pos rfl, clI (by omega), clI (by omega), e2, ebit, has_b N _ (by omega), Option.bind_some]
      by_cases z : hb (tyR t r i (24 + stA t i)) (stB t i) = true
      · rw [if_pos z, if_pos z, if_neg oneF, X9_strings_j207, if_pos rfl, X9_strings_j241, show X9_flag N 0 a = some 0 from rfl, Option.bind_some, nI1, show nI y + 0 = nI y from nI_add y 0]
      · rw [if_neg z, if_neg z, if_pos rfl, X9_strings_j207, if_neg oneF, show (2 : Int32) = nI 2 from rfl, pk_mul, inbI (show 2 * i < 48 by omega) (by omega), if_pos rfl, clI (by omega), e1, nI1, inbI (show 2 * i + 1 < 48 by omega) (by omega), if_pos rfl, clI (by omega), e2]
        congr 1
        funext b
        rw [X9_strings_j241, show X9_flag N 1 b = some 1 from rfl, Option.bind_some, nI1, nI1]
    by_cases z : hb (tyR t r i (24 + stA t i)) (stB t i) = true
    · refine ⟨(y, a), ⟨?_, ?_, g3⟩, ?_⟩
      · rw [tyN, if_pos z]; exact g1
      · rw [tyR, if_pos z]; exact g2
      · dsimp only
        rw [base, if_pos z]
    · obtain ⟨a', t1, t2, t3⟩ := toggles_b N (k1 := 153) (Or.inl rfl) (show stA t i < 8 by omega) (show stB t i < 8 by omega) a
      refine ⟨(y + 1, a'), ⟨?_, ?_, g3.trans t3⟩, ?_⟩
      · rw [tyN, if_neg z, ← g1]
      · rw [tyR, if_neg z, ← g2]; exact t2
      · dsimp only
        rw [base, if_neg z, t1, Option.bind_some]
  · intro m x hI
    obtain ⟨y, a⟩ := x
    obtain ⟨g1, g2, g3⟩ := hI
    dsimp only at g1 g2 g3
    refine ⟨a, ?_, g2, g3⟩
    dsimp only
    rw [X9_strings_l159, (g3.g (k := 149) (j := 16) (by decide)).trans h.2.1, if_pos (nI_le (Nat.le_refl _) (by omega)), g1]
def paS (k : Nat) (r : Nat → Int32) (p : List (Nat → Int32)) : List (Nat → Int32) := if k = 0 then p else (r :: p).take 15
theorem strings_op {N : Nat} (hN : 555 < N) {H : Nat} {A : Ab} (hA : OkA H A) : OpB (X8_strings N) (X9_strings N) H A := by
  obtain ⟨L, now, t, to, p, s, w⟩ := A
  obtain ⟨k1, ⟨k2, k2'⟩, k3, ⟨k4, k4'⟩, k5, k6⟩ := hA
  dsimp only at k1 k2 k2' k3 k4 k4' k5 k6
  have h8 : L.1 ≤ 8 := k1.1.2.2.2.2
  obtain ⟨q, q1, q2, q3⟩ := upto_p (srP t L.1 now) (min t.length 35)
  by_cases hbad : q < t.length ∨ (0 < q ∧ q % 3 ≠ 2)
  · refine ⟨-1 - nI q, (L, now, [], to, p, s, w), ?_, ?_, k1.mono (by omega), ⟨by simp, by simp⟩, k3, ⟨k4, fun q hq => (k4' q hq).mono (by omega)⟩, fun i r hi hr => (k5 i r hi hr).mono (by omega), k6⟩
    · rintro σ ⟨c1, c2, c3, c4, c5, c6, c7⟩
      dsimp only at c1 c2 c3 c4 c5 c6 c7
      obtain ⟨σ1, a1, a2, a3⟩ := txClear_c N σ
      refine ⟨σ1, ?_, ⟨c1.fr a3 (by decide), (a3.row19 (by decide)).trans c2, a2, c4.fr a3 (by decide), c5.fr a3 (by decide +kernel), c6.fr a3 (by decide +kernel), c7.fr a3 (by decide)⟩, fun B hB => hB.fr a3 (by decide)⟩
      unfold X8_strings
      rw [faultS (by omega) c3 k2 k2' c1.n.1 h8 c2 q1 q2 q3, if_pos hbad, Option.bind_some, if_neg (nIm1 (by omega)), X8_strings_j39, a1, Option.bind_some, if_neg (nIm1 (by omega))]
    · rintro σ ⟨c1, c2, c3, c4, c5, c6, c7⟩
      dsimp only at c1 c2 c3 c4 c5 c6 c7
      obtain ⟨σ1, a1, a2, a3, a4, a5⟩ := begins_r N c3 k2 (b := 35) (by omega)
      have hR : sR t (wi σ1 149 16 0) (min t.length 35) 0 0 := ⟨a2.fr (l := [3016]) ((Fr.refl _ _).wi (by simp [pl])) (by decide), by rw [giw, if_pos ⟨rfl, rfl⟩]; rfl, fun j hj => absurd hj (Nat.not_lt_zero _)⟩
      have f1 : Fr (rdL ++ [3016]) σ (wi σ1 149 16 0) := (a5.mono (by decide)).wi (by decide)
      obtain ⟨σ2, b1, b2, b3⟩ := strings_l29 (N := N) (by omega) k2 k2' ((f1.g (k := 149) (j := 3) (by decide)).trans c1.1) h8 ((rR_congr (f1.r (by simp [pl, rdL]))).trans c2) q1 q2 q3 hR (fun v1 v2 σ => X9_strings_j131 N v1 v2 σ) (nI t.length)
      have f : Fr (rdL ++ [3016, 156]) σ σ2 := (f1.mono (by decide)).trans (b3.mono (by decide))
      refine ⟨σ2, ?_, ⟨c1.fr f (by decide), (rR_congr (f.r (by simp [pl, rdL]))).trans c2, ⟨?_, fun i hi => absurd hi (Nat.not_lt_zero _)⟩, c4.fr f (by decide), c5.fr f (by decide), c6.fr f (by decide), c7.fr f (by decide)⟩, fun B hB => hB.fr f (by decide +kernel)⟩
      · unfold X9_strings
        simp only [bnS]
        have hfo := faultOf_r N b2.1 (b := 35) (by omega) rfl k2 q1 (v := if q % 3 = 2 then 1 else 0) (ok := false) (by by_cases z : q % 3 = 2; exact Or.inl (if_pos z); exact Or.inr (if_neg z)) ⟨fun z => absurd z (by decide), fun z => by
          exfalso
          rcases hbad with y | y
          · omega
          · have := z.1
            rw [if_neg y.2] at this; exact absurd this (by decide)⟩ (fun z1 z2 => by
          exfalso
          subst z2; exact absurd z1 (by decide))
        rw [show (35 : Int32) = nI 35 from rfl, a1, Option.bind_some, if_neg (nI_nle (by omega) (by omega)), b1, X9_strings_j131, show (35 : Int32) = nI 35 from rfl, hfo, Option.bind_some, if_neg (show ¬ false = true by decide), if_neg (show ¬ (0 : Int32) ≤ -1 - nI q from (by decide : ∀ q, q < 36 → ¬ (0 : Int32) ≤ -1 - nI q) q (by omega))]
      · exact (b3.g (k := 149) (j := 11) (by decide)).trans (by rw [giw, if_neg (by omega)]; exact a3)
  · have e1 : q = t.length := by omega
    subst e1
    obtain ⟨c, hc⟩ : ∃ c, (c = 0 ∧ t.length = 0) ∨ t.length + 1 = 3 * c := by
      by_cases z : t.length = 0
      · exact ⟨0, Or.inl ⟨rfl, z⟩⟩
      · exact ⟨(t.length + 1) / 3, Or.inr (by omega)⟩
    have hs : stOk t L.1 now c := stOk_of h8 q2 (by omega)
    have hle := tyN_le t now c
    have hW : WF L.1 9 (H + 300) (tyR t now c) := (tyR_wf k1 hs c (Nat.le_refl _)).mono (by omega)
    have hP : (paS (tyN t now c) now p).length ≤ 15 ∧ ∀ r ∈ paS (tyN t now c) now p, WF L.1 9 (H + 300) r := by
      unfold paS
      split
      · exact ⟨k4, fun q hq => (k4' q hq).mono (by omega)⟩
      · refine ⟨by rw [List.length_take]; omega, fun q hq => ?_⟩
        have := List.mem_of_mem_take hq
        rcases List.mem_cons.mp this with y | y
        · rw [y]; exact k1.mono (by omega)
        · exact (k4' q y).mono (by omega)
    refine ⟨nI (tyN t now c), (L, tyR t now c, [], to, paS (tyN t now c) now p, s, w), ?_, ?_, hW, ⟨by simp, by simp⟩, k3, hP, fun i r hi hr => (k5 i r hi hr).mono (by omega), k6⟩
    · rintro σ ⟨c1, c2, c3, c4, ⟨x, c5⟩, c6, c7⟩
      dsimp only at c1 c2 c3 c4 c5 c6 c7
      obtain ⟨σ1, a1, a2, a3, a4⟩ := draw_c (N := N) (by omega) c5 k4
      obtain ⟨σ2, b1, b2, b3⟩ := tieTold_c (N := N) (by omega) (c3.fr a4 (by decide +kernel)) (by omega) k2' ((a4.g (k := 5) (j := 1) (by decide +kernel)).trans c1.n.1) h8 ((a4.row19 (by decide +kernel)).trans c2) hc hs
      have a2' := a2.fr b3 (by decide +kernel)
      have a3' : rC σ2 (31 + 5 * x) = now := (b3.rowP (by decide +kernel) c5.1).trans (a3.trans c2)
      have f2 : Fr (stP ++ [23]) σ σ2 := (a4.mono (by decide +kernel)).trans (b3.mono (by decide +kernel))
      by_cases z : tyN t now c = 0
      · obtain ⟨σ3, d1, d2, d3⟩ := txClear_c N σ2
        have f : Fr (stP ++ [23, 1]) σ σ3 := (f2.mono (by decide +kernel)).trans (d3.mono (by decide +kernel))
        refine ⟨σ3, ?_, ⟨c1.fr f (by decide +kernel), (d3.row19 (by decide)).trans b2, d2, c4.fr f (by decide +kernel), ⟨x, ?_⟩, c6.fr f (by decide +kernel), c7.fr f (by decide +kernel)⟩, fun B hB => hB.fr f (by decide +kernel)⟩
        · unfold X8_strings
          rw [faultS (by omega) c3 k2 k2' c1.n.1 h8 c2 q1 q2 q3, if_neg hbad, Option.bind_some, if_pos rfl, a1, Option.bind_some, b1, Option.bind_some, z, if_pos (show nI 0 ≤ 0 by decide), X8_strings_j39, d1, Option.bind_some, if_pos rfl]
        · dsimp only
          unfold paS
          rw [if_pos z]; exact a2'.fr d3 (by decide +kernel)
      · obtain ⟨σ3, d1, d2, d3⟩ := commit_c N a2' k4 a3'
        obtain ⟨σ4, g1, g2, g3⟩ := txClear_c N σ3
        have f : Fr (stP ++ [23, 29, 1]) σ σ4 := ((f2.mono (by decide +kernel)).trans (d3.mono (by decide +kernel))).trans (g3.mono (by decide +kernel))
        refine ⟨σ4, ?_, ⟨c1.fr f (by decide +kernel), (g3.row19 (by decide)).trans ((d3.row19 (by decide)).trans b2), g2, c4.fr f (by decide +kernel), ⟨(x + 1) % 16, ?_⟩, c6.fr f (by decide +kernel), c7.fr f (by decide +kernel)⟩, fun B hB => hB.fr f (by decide +kernel)⟩
        · unfold X8_strings
          rw [faultS (by omega) c3 k2 k2' c1.n.1 h8 c2 q1 q2 q3, if_neg hbad, Option.bind_some, if_pos rfl, a1, Option.bind_some, b1, Option.bind_some, if_neg (nI_nle (by omega) (by omega)), d1, Option.bind_some, X8_strings_j39, g1, Option.bind_some, if_pos rfl]
        · dsimp only
          unfold paS
          rw [if_neg z]; exact d2.fr g3 (by decide +kernel)
    · rintro σ ⟨c1, c2, c3, c4, c5, c6, c7⟩
      dsimp only at c1 c2 c3 c4 c5 c6 c7
      obtain ⟨σ1, a1, a2, a3, a4, a5⟩ := begins_r N c3 k2 (b := 35) (by omega)
      have hR : sR t (wi σ1 149 16 0) (min t.length 35) 0 0 := ⟨a2.fr (l := [3016]) ((Fr.refl _ _).wi (by simp [pl])) (by decide), by rw [giw, if_pos ⟨rfl, rfl⟩]; rfl, fun j hj => absurd hj (Nat.not_lt_zero _)⟩
      have f1 : Fr (rdL ++ [3016]) σ (wi σ1 149 16 0) := (a5.mono (by decide)).wi (by decide)
      have hread : ∃ σ2, (if nI t.length ≤ 0 then (X9_strings_l29 N (fun v1 v2 σ => X9_strings_j131 N v1 v2 σ) N (nI t.length) 1 0 (wi σ1 149 16 0)) else (X9_strings_l29 N (fun v1 v2 σ => X9_strings_j131 N v1 v2 σ) N (nI t.length) 1 1 (wi σ1 149 16 0))) = X9_strings_j131 N (nI t.length) 1 σ2 ∧ sR t σ2 (min t.length 35) c t.length ∧ Fr [3012, 156, 3016] (wi σ1 149 16 0) σ2 := by
        rcases hc with ⟨z1, z2⟩ | z
        · refine ⟨wi σ1 149 16 0, ?_, by rw [z2] at hR ⊢; rw [z1]; exact hR, Fr.refl _ _⟩
          rw [if_pos (show nI t.length ≤ 0 by rw [z2]; decide)]
          obtain ⟨M, rfl⟩ : ∃ k, N = k + 1 := ⟨N - 1, by omega⟩
          rw [X9_strings_l29, if_pos rfl]
        · obtain ⟨σ2, b1, b2, b3⟩ := strings_l29 (N := N) (by omega) k2 k2' ((f1.g (k := 149) (j := 3) (by decide)).trans c1.1) h8 ((rR_congr (f1.r (by simp [pl, rdL]))).trans c2) q1 q2 q3 hR (fun v1 v2 σ => X9_strings_j131 N v1 v2 σ) (nI t.length)
          rw [show (t.length + 1) / 3 = c by omega] at b2
          rw [if_pos (by omega)] at b1
          exact ⟨σ2, by rw [if_neg (nI_nle (by omega) (by omega))]; exact b1, b2, b3⟩
      obtain ⟨σ2, b1, b2, b3⟩ := hread
      have f2 : Fr (rdL ++ [3016, 156]) σ σ2 := (f1.mono (by decide)).trans (b3.mono (by decide))
      obtain ⟨σ3, d1, d2, d3, d4⟩ := putsBy_r (N := N) (by omega) (c5.fr f2 (by decide)) k4
      have r2 : rR σ2 153 = now := (rR_congr (f2.r (by simp [pl, rdL]))).trans c2
      have b2' : sR t σ3 (min t.length 35) c t.length := ⟨b2.1.fr d4 (by decide), (d4.g (k := 149) (j := 16) (by decide)).trans b2.2.1, fun j hj => by rw [d4.g (k := 156) (by simp [pl]), d4.g (k := 156) (by simp [pl])]; exact b2.2.2 j hj⟩
      obtain ⟨σ4, g1, g2, g3⟩ := strings_l159 (N := N) (by omega) h8 ((rR_congr (d4.r (by simp [pl]))).trans r2) b2' (by omega) hs (fun v5 σ => X9_strings_j257 N v5 σ)
      have f4 : Fr (rdL ++ [3016, 156, 161, 153]) σ σ4 := ((f2.mono (by decide)).trans (d4.mono (by decide))).trans (g3.mono (by decide))
      have e11 : gi σ4 149 11 = nI 0 := (g3.g (k := 149) (j := 11) (by decide)).trans ((d4.g (k := 149) (j := 11) (by decide)).trans ((b3.g (k := 149) (j := 11) (by decide)).trans (by rw [giw, if_neg (by omega)]; exact a3)))
      have run : X9_strings N σ = X9_strings_j257 N (nI (tyN t now c)) σ4 := by
        unfold X9_strings
        simp only [bnS]
        have hfo := faultOf_r N b2.1 (b := 35) (by omega) rfl k2 (by omega) (v := 1) (ok := true) (Or.inl rfl) ⟨fun _ => ⟨rfl, rfl, by omega⟩, fun _ => rfl⟩ (fun z => absurd z (by decide))
        rw [show (35 : Int32) = nI 35 from rfl, a1, Option.bind_some, b1, X9_strings_j131, show (35 : Int32) = nI 35 from rfl, hfo, Option.bind_some, if_pos (show (0 : Int32) ≤ if true = true then 0 else -1 - nI t.length from by rw [if_pos rfl]; decide), d1, Option.bind_some, g1]
      have hd3 : rW σ4 161 p.length = now := (rW_congr (g3.r (by simp [pl]))).trans (d3.trans r2)
      by_cases z : tyN t now c = 0
      · refine ⟨σ4, ?_, ⟨c1.fr f4 (by decide), g2, ⟨e11, fun i hi => absurd hi (Nat.not_lt_zero _)⟩, c4.fr f4 (by decide), ?_, c6.fr f4 (by decide), c7.fr f4 (by decide)⟩, fun B hB => hB.fr f4 (by decide +kernel)⟩
        · rw [run, X9_strings_j257, z, if_pos (show nI 0 ≤ 0 by decide)]; rfl
        · dsimp only
          unfold paS
          rw [if_pos z]; exact d2.fr g3 (by decide)
      · obtain ⟨σ5, u1, u2, u3⟩ := adds_r (N := N) hN (d2.fr g3 (by decide)) k4 hd3 (nI (tyN t now c))
        have f5 : Fr (rdL ++ [3016, 156, 161, 153, 3023]) σ σ5 := (f4.mono (by decide)).trans (u3.mono (by decide))
        refine ⟨σ5, ?_, ⟨c1.fr f5 (by decide), (rR_congr (u3.r (by simp [pl]))).trans g2, ⟨(u3.g (k := 149) (j := 11) (by decide)).trans e11, fun i hi => absurd hi (Nat.not_lt_zero _)⟩, c4.fr f5 (by decide), ?_, c6.fr f5 (by decide), c7.fr f5 (by decide)⟩, fun B hB => hB.fr f5 (by decide +kernel)⟩
        · rw [run, X9_strings_j257, if_neg (nI_nle (by omega) (by omega)), u1]; rfl
        · dsimp only
          unfold paS
          rw [if_neg z]; exact u2
