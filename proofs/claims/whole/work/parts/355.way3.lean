/-! ===== way ===== -/
theorem PD.zero {n : Nat} {f : Nat → Int32} {to : Nat} {D : Nat → Nat} (h : PD n f to D) {c : Nat} (hc : c < n) (e : D c = 0) : c = to := by
  by_cases z : c = to
  · exact z
  · obtain ⟨j, _, _, j3⟩ := h.2.1 c hc (by rw [e]; decide) z
    omega
theorem way_l215 {N : Nat} (hN : 20 < N) {n : Nat} (h8 : n ≤ 8) {f : Nat → Int32} (hfn : ∀ i, i < 8 → ∀ j, n ≤ j → hb (f i) j = false) {to : Nat} {D : Nat → Nat} (hD : PD n f to D) {fr : Nat} (hfr : fr < n) (hto : to < n) : ∀ (l : List Nat) (c m : Nat) (a : Sg) (lt : List Int64), WP f D c l → D c = l.length → c < n → D c < INF → l.length < m → lt.length + l.length ≤ 10 → ToR a lt → (∀ i, i < n → gi a 153 (24 + i) = f i) → rd8 n a D → ∃ a', X9_way_l215 N m (nI fr) (nI to) (nI c) a = some (nI (D fr), a') ∧ ToR a' (lt ++ l.map t64) ∧ Fr [3001, 150] a a' := by
  intro l
  induction l with
  | nil =>
    intro c m a lt hW _ hc _ hm _ ht _ hr
    obtain ⟨m, rfl⟩ : ∃ k, m = k + 1 := ⟨m - 1, by omega⟩
    refine ⟨a, ?_, by simpa using ht, Fr.refl _ _⟩
    rw [X9_way_l215, hD.zero hc hW, if_pos rfl, inbI (show fr < 8 by omega) (by omega), if_pos rfl, clI (by omega), hr fr hfr]
  | cons j l ih =>
    intro c m a lt hW hDc hc hDf hm hlen ht h153 hr
    obtain ⟨m, rfl⟩ : ∃ k, m = k + 1 := ⟨m - 1, by omega⟩
    obtain ⟨w1, w2⟩ := hW
    rw [List.length_cons] at hDc hm hlen
    have hjn : j < n := by
      rcases Nat.lt_or_ge j n with u | u
      · exact u
      · have := w1.2.1
        rw [hfn c (by omega) j u] at this; exact Bool.noConfusion this
    have hne : ¬ nI c = nI to := fun u => by
      have := (nI_eq (by omega) (by omega)).mp u
      rw [this, hD.1] at hDc; omega
    obtain ⟨b, b1, b2, b3⟩ := enters_r N ht (by omega) (t64 j)
    obtain ⟨b', d1, d2, d3⟩ := ih j m b (lt ++ [t64 j]) w2 (by omega) hjn (by omega) (by omega) (by simp; omega) b2 (fun i hi => (b3.g (k := 153) (by simp [pl])).trans (h153 i hi)) (fun i hi => (b3.g (k := 168) (by simp [pl])).trans (hr i hi))
    refine ⟨b', ?_, by simpa using d2, b3.trans d3⟩
    rw [X9_way_l215, if_neg hne, next_r hN h8 hfn h153 hr hc hDf hD.2.2.2.1 w1, X9_way_j264, show (nI j).toInt64 = t64 j from rfl, b1, Option.bind_some]
    exact d1
theorem way_l25 {N : Nat} (hN : 20 < N) {a : Sg} {n : Nat} (hn : gi a 149 3 = nI n) (h8 : n ≤ 8) {to : Nat} (hto : to < n) (K : Int32 → Int32 → Sg → Option (Int32 × Sg)) (v1 : Int32) : ∃ a', X9_way_l25 N K N v1 (nI to) 0 a = K v1 (nI to) a' ∧ rd8 n a' (fun i => if i = to then 0 else INF) ∧ Fr [168] a a' := by
  refine forL0 (L := fun m j b => X9_way_l25 N K m v1 (nI to) (nI j) b) (m := n) (N := N) (a := a) (fun j b => (∀ i, i < j → gi b 168 i = nI (if i = to then 0 else INF)) ∧ Fr [168] a b) (o := fun x => ∃ a', x = K v1 (nI to) a' ∧ rd8 n a' (fun i => if i = to then 0 else INF) ∧ Fr [168] a a') (by omega) ⟨fun i hi => absurd hi (Nat.not_lt_zero _), Fr.refl _ _⟩ ?_ ?_
  · intro m j b hj hI
    obtain ⟨g1, g2⟩ := hI
    left
    refine ⟨wi b 168 j (nI (if j = to then 0 else INF)), ⟨fun i hi => ?_, g2.wi (by simp [pl])⟩, ?_⟩
    · rw [giw]
      by_cases z : i = j
      · rw [if_pos ⟨rfl, z⟩, z]
      · rw [if_neg (fun y => z y.2)]; exact g1 i (by omega)
    · rw [X9_way_l25, (g2.g (k := 149) (j := 3) (by decide)).trans hn, if_neg (nI_ge hj (by omega)), inbI (show j < 8 by omega) (by omega), clI (by omega), nI1]
      by_cases z : j = to
      · rw [if_pos (by rw [z]), if_pos z]; rfl
      · rw [if_neg (fun u => z ((nI_eq (by omega) (by omega)).mp u)), if_neg z]; rfl
  · intro m b hI
    obtain ⟨g1, g2⟩ := hI
    exact ⟨b, by rw [X9_way_l25, (g2.g (k := 149) (j := 3) (by decide)).trans hn, if_pos (nI_le (Nat.le_refl _) (by omega))], g1, g2⟩
theorem BF0 {n : Nat} {f : Nat → Int32} {to : Nat} {D : Nat → Nat} (hD : PD n f to D) : BF n D 0 0 (fun i => if i = to then 0 else INF) := by
  refine ⟨fun i hi => ⟨?_, ?_⟩, fun i hi z => ?_, fun i _ z => absurd z (Nat.not_lt_zero _)⟩
  · by_cases y : i = to
    · rw [y, hD.1]; omega
    · dsimp only; rw [if_neg y]; exact hD.2.2.2.1 i
  · dsimp only; split
    · exact Nat.zero_le _
    · exact Nat.le_refl _
  · have := hD.zero hi (by omega)
    dsimp only; rw [if_pos this]; omega
theorem way_op {N : Nat} (hN : 555 < N) {H : Nat} {A : Ab} (hA : OkA H A) (a b : Int32) : OpB (X8_way N a b) (X9_way N a b) H A := by
  obtain ⟨L, now, t, to, p, s, w⟩ := A
  have hW : WF L.1 9 H now := hA.1
  have hto : to.length ≤ 10 := hA.2.2.1
  have h8 : L.1 ≤ 8 := hW.1.2.2.2.2
  have hfn : ∀ i, i < 8 → ∀ j, L.1 ≤ j → hb (lnk now i) j = false := hW.1.1
  rcases thing_or h8 a with ⟨fr, hfr, rfl⟩ | ha
  · rcases thing_or h8 b with ⟨q, hq, rfl⟩ | hb1
    · obtain ⟨D, hD⟩ := PD_ex hW.1 hq
      -- the reference's steps
      have refr : ∀ σ, InvR σ (L, now, t, to, p, s, w) → ∃ a3, X9_way N (nI fr) (nI q) σ = X9_way_j163 N (nI fr) (nI q) a3 ∧ rd8 L.1 a3 D ∧ Fr [3000, 168] σ a3 := by
        rintro σ ⟨c1, c2, c3, c4, c5, c6, c7⟩
        dsimp only at c1 c2
        have f0 := thrown_f σ 0
        have hn0 : gi (wi σ 149 0 0) 149 3 = nI L.1 := (f0.g (k := 149) (j := 3) (by decide)).trans c1.1
        obtain ⟨a1, x1, x2, x3⟩ := way_l25 (N := N) (by omega) hn0 h8 hq (fun v1 v2 σ => X9_way_j57 N v1 v2 σ) (nI fr)
        have f1 : Fr [3000, 168] σ a1 := (f0.mono (by decide)).trans (x3.mono (by decide))
        obtain ⟨a2, y1, y2, y3⟩ := way_l59 (N := N) (by omega) ((f1.g (k := 149) (j := 3) (by decide)).trans c1.1) h8 (f := lnk now) (fun i hi => by rw [f1.g (k := 153) (by simp [pl]), ← rR_j (by omega), c2]; rfl) hD (BF0 hD) x2 (fun v1 v2 σ => X9_way_j163 N v1 v2 σ) (nI fr) (nI q)
        refine ⟨a2, ?_, y2, f1.trans (y3.mono (by decide))⟩
        unfold X9_way
        simp only [bnS]
        rw [isThingR_t N hn0 h8 hfr, Option.bind_some, if_neg oneF, isThingR_t N hn0 h8 hq, Option.bind_some, if_neg oneF, x1, X9_way_j57, y1]
      by_cases hno : hb (now 32) fr = true ∨ hb (now 32) q = true ∨ ¬ D fr < INF
      · refine OpB.told hA (-2) to hto (fun σ hσ => ?_) (fun σ hσ => ?_)
        · obtain ⟨c1, c2, c3, c4, c5, c6, c7⟩ := hσ
          dsimp only at c1 c2 c4
          have e32 : gi σ 19 4 = now 32 := by rw [← rC_32, c2]
          have hWc : WL L.1 (rC σ 19) := by rw [c2]; exact hW.1
          obtain ⟨σ1, D', m1, m2, m3, m4⟩ := markSteps_c (N := N) (by omega) hWc hq
          rw [c2] at m3
          unfold X8_way
          rw [isThing_t N c1.n.1 h8 hfr, Option.bind_some, if_neg oneF, isThing_t N c1.n.1 h8 hq, Option.bind_some, if_neg oneF, isGone_b N 19 (by omega), Option.bind_some, e32]
          by_cases z1 : hb (now 32) fr = true
          · rw [if_pos z1, if_neg oneF]
            exact ⟨σ, rfl, c4, Fr.refl _ _⟩
          · rw [if_neg z1, if_pos rfl, isGone_b N 19 (by omega), Option.bind_some, e32]
            by_cases z2 : hb (now 32) q = true
            · rw [if_pos z2, if_neg oneF]
              exact ⟨σ, rfl, c4, Fr.refl _ _⟩
            · have z3 : ¬ D fr < INF := by
                rcases hno with u | u | u
                · exact absurd u z1
                · exact absurd u z2
                · exact u
              rw [if_neg z2, if_pos rfl, m1, Option.bind_some, inbI (show fr < 8 by omega) (by omega), if_pos rfl, clI (by omega), m2 fr (by omega), m3.uniq hD hfr]
              unfold mkI
              rw [if_neg z3, if_neg (by decide)]
              exact ⟨σ1, rfl, c4.fr m4 (by decide), m4.mono (by decide)⟩
        · obtain ⟨a3, x1, x2, x3⟩ := refr σ hσ
          obtain ⟨c1, c2, c3, c4, c5, c6, c7⟩ := hσ
          dsimp only at c1 c2 c4
          have hn3 : gi a3 149 3 = nI L.1 := (x3.g (k := 149) (j := 3) (by decide)).trans c1.1
          have r3 : rR a3 153 = now := (rR_congr (x3.r (by simp [pl]))).trans c2
          refine ⟨a3, ?_, c4.fr x3 (by decide), x3.mono (by decide)⟩
          rw [x1, X9_way_j163, inbI (show fr < 8 by omega) (by omega), if_pos rfl, clI (by omega), x2 fr hfr, show (1000000 : Int32) = nI INF from rfl]
          by_cases z : D fr < INF
          · rw [if_neg (nI_ge z (by decide)), isHere_b N hn3 h8 hfr, Option.bind_some, r3]
            by_cases z1 : hb (now 32) fr = true
            · rw [if_pos z1, if_pos rfl]
            · have z2 : hb (now 32) q = true := by
                rcases hno with u | u | u
                · exact absurd u z1
                · exact u
                · exact absurd z u
              rw [if_neg z1, if_neg oneF, isHere_b N hn3 h8 hq, Option.bind_some, r3, if_pos z2, if_pos rfl]
          · have := hD.2.2.2.1 fr
            rw [if_pos (nI_le (by omega) (by unfold INF at *; omega))]
      · have hg1 : hb (now 32) fr = false := by
          cases u : hb (now 32) fr with
          | false => rfl
          | true => exact absurd (Or.inl u) hno
        have hg2 : hb (now 32) q = false := by
          cases u : hb (now 32) q with
          | false => rfl
          | true => exact absurd (Or.inr (Or.inl u)) hno
        have hfin : D fr < INF := Decidable.byContradiction (fun u => hno (Or.inr (Or.inr u)))
        have hDn := hD.2.2.2.2 fr hfr hfin
        obtain ⟨l, l1, l2, l3⟩ := WP_ex h8 hD hfn (D fr) fr hfr rfl hfin
        refine OpB.told hA (nI (D fr)) ([t64 fr] ++ l.map t64) (by simp; omega) (fun σ hσ => ?_) (fun σ hσ => ?_)
        · obtain ⟨c1, c2, c3, c4, c5, c6, c7⟩ := hσ
          dsimp only at c1 c2 c4
          have e32 : gi σ 19 4 = now 32 := by rw [← rC_32, c2]
          have hWc : WL L.1 (rC σ 19) := by rw [c2]; exact hW.1
          obtain ⟨σ1, D', m1, m2, m3, m4⟩ := markSteps_c (N := N) (by omega) hWc hq
          rw [c2] at m3
          obtain ⟨σ2, u1, u2, u3⟩ := tell1_c N (t64 fr) σ1
          have f2 : Fr [142, 3, 4] σ σ2 := (m4.mono (by decide)).trans (u3.mono (by decide))
          obtain ⟨σ3, v1, v2, v3⟩ := way_l85 (N := N) (by omega) h8 hfn (D := D) (nI (D fr)) l fr N σ2 [t64 fr] l1 l2.symm (by omega) hfin (by omega) (by simp; omega) u2 (fun i hi => by rw [f2.g (k := 23) (by simp [pl])]; show gi σ (19 + 4) i = lnk now i; rw [← rC_l hi, c2]; rfl) (fun i hi => by rw [u3.g (k := 142) (by simp [pl]), m2 i (by omega), m3.uniq hD hi])
          refine ⟨σ3, ?_, v2, (f2.mono (by decide)).trans (v3.mono (by decide))⟩
          unfold X8_way
          rw [isThing_t N c1.n.1 h8 hfr, Option.bind_some, if_neg oneF, isThing_t N c1.n.1 h8 hq, Option.bind_some, if_neg oneF, isGone_b N 19 (by omega), Option.bind_some, e32, hg1, if_neg (show ¬ false = true by decide), if_pos rfl, isGone_b N 19 (by omega), Option.bind_some, e32, hg2, if_neg (show ¬ false = true by decide), if_pos rfl, m1, Option.bind_some, inbI (show fr < 8 by omega) (by omega), if_pos rfl, clI (by omega), m2 fr (by omega), m3.uniq hD hfr]
          have em : mkI (D fr) = nI (D fr) := by unfold mkI; rw [if_pos hfin]
          rw [em, if_pos (nI_pos' (by omega)), show (nI fr).toInt64 = t64 fr from rfl, u1, Option.bind_some]
          rw [← l2] at v1 ⊢
          exact v1
        · obtain ⟨a3, x1, x2, x3⟩ := refr σ hσ
          obtain ⟨c1, c2, c3, c4, c5, c6, c7⟩ := hσ
          dsimp only at c1 c2 c4
          have hn3 : gi a3 149 3 = nI L.1 := (x3.g (k := 149) (j := 3) (by decide)).trans c1.1
          have r3 : rR a3 153 = now := (rR_congr (x3.r (by simp [pl]))).trans c2
          obtain ⟨a4, u1, u2, u3⟩ := enters_r N (told0_r a3) (by simp) (t64 fr)
          have f4 : Fr [3001, 150] a3 a4 := (told0_f a3).trans u3
          obtain ⟨a5, v1, v2, v3⟩ := way_l215 (N := N) (by omega) h8 hfn hD hfr hq l fr N a4 [t64 fr] l1 l2.symm hfr hfin (by omega) (by simp; omega) u2 (fun i hi => by rw [f4.g (k := 153) (by simp [pl]), ← rR_j (by omega), r3]; rfl) (fun i hi => by rw [f4.g (k := 168) (by simp [pl])]; exact x2 i hi)
          refine ⟨a5, ?_, v2, ((x3.mono (by decide)).trans (f4.mono (by decide))).trans (v3.mono (by decide))⟩
          rw [x1, X9_way_j163, inbI (show fr < 8 by omega) (by omega), if_pos rfl, clI (by omega), x2 fr hfr, show (1000000 : Int32) = nI INF from rfl, if_neg (nI_ge hfin (by decide)), isHere_b N hn3 h8 hfr, Option.bind_some, r3, hg1, if_neg (show ¬ false = true by decide), if_neg oneF, isHere_b N hn3 h8 hq, Option.bind_some, r3, hg2, if_neg (show ¬ false = true by decide), if_neg oneF]
          simp only [bnS]
          rw [show (nI fr).toInt64 = t64 fr from rfl, u1, Option.bind_some]
          exact v1
    · refine OpB.no hA (-1) (fun σ hσ => ?_) (fun σ hσ => ?_)
      · have hn : gi σ 5 1 = nI L.1 := hσ.1.n.1
        unfold X8_way
        rw [isThing_t N hn h8 hfr, Option.bind_some, if_neg oneF, isThing_f N hn hb1, Option.bind_some, if_pos rfl]
      · have hn : gi (wi σ 149 0 0) 149 3 = nI L.1 := ((thrown_f σ 0).g (k := 149) (j := 3) (by decide)).trans hσ.1.1
        unfold X9_way
        simp only [bnS]
        rw [isThingR_t N hn h8 hfr, Option.bind_some, if_neg oneF, isThingR_f N hn h8 hb1, Option.bind_some, if_pos rfl]
  · refine OpB.no hA (-1) (fun σ hσ => ?_) (fun σ hσ => ?_)
    · have hn : gi σ 5 1 = nI L.1 := hσ.1.n.1
      unfold X8_way
      rw [isThing_f N hn ha, Option.bind_some, if_pos rfl]
    · have hn : gi (wi σ 149 0 0) 149 3 = nI L.1 := ((thrown_f σ 0).g (k := 149) (j := 3) (by decide)).trans hσ.1.1
      unfold X9_way
      simp only [bnS]
      rw [isThingR_f N hn h8 ha, Option.bind_some, if_pos rfl]
