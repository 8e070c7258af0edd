/-! ===== years ===== -/
def nxS (l : Int32) : Int32 := l * 1103515245 + 12345
def drN (l : Int32) (n : Nat) : Nat := (ushr l 16).toNatClampNeg % n
theorem ush16 (l : Int32) : ∃ u, u < 65536 ∧ ushr l 16 = nI u := by
  obtain ⟨m, hm, e⟩ := mask_nI (x := ushr l 16) (n := 16) (fun i hi => by
    show hb (ushr l (nI 16)) i = false
    rw [hb_ush 16 (by omega)]
    exact hb_big (by omega))
  exact ⟨m, hm, e⟩
theorem dr_e (l : Int32) {n : Nat} (h0 : 0 < n) (hn : n < 1000) : ushr l 16 - ushr l 16 / nI n * nI n = nI (drN l n) ∧ drN l n < n := by
  obtain ⟨u, hu, e⟩ := ush16 l
  unfold drN
  rw [e, clI (by omega), pk_rem (by omega) h0 (by omega)]
  exact ⟨rfl, Nat.mod_lt _ h0⟩
abbrev Ys : Type := Int32 × (Nat → Int32) × Int32
def yrS (nx : Int32 → Int32) (dr : Int32 → Nat → Nat) (L : Ld) (s : Ys) : Ys :=
  if dr (nx s.1) 4 < 2 then (nx s.1, hourS L s.2.1, s.2.2 + sumB (diesS L s.2.1) s.2.1 L.1)
  else if L.1 = 0 then (nx s.1, s.2.1, s.2.2)
  else if dr (nx s.1) 4 = 2 then (nx (nx (nx s.1)), (lendS s.2.1 (dr (nx (nx s.1)) L.1) (nI (1 + dr (nx (nx (nx s.1))) 3))).2, s.2.2)
  else (nx (nx (nx s.1)), (if dr (nx (nx s.1)) L.1 = dr (nx (nx (nx s.1))) L.1 then s.2.1 else (tieS s.2.1 (dr (nx (nx s.1)) L.1) (dr (nx (nx (nx s.1))) L.1)).2), s.2.2)
def yrI (nx : Int32 → Int32) (dr : Int32 → Nat → Nat) (L : Ld) (s : Ys) : Nat → Ys
  | 0 => s
  | i + 1 => yrS nx dr L (yrI nx dr L s i)
theorem yr_wf {nx : Int32 → Int32} {dr : Int32 → Nat → Nat} (hlt : ∀ l n, 0 < n → n < 1000 → dr l n < n) {L : Ld} {s : Ys} {H : Nat} (hW : WF L.1 9 H s.2.1) : WF L.1 9 (H + 1) (yrS nx dr L s).2.1 := by
  unfold yrS
  by_cases q : dr (nx s.1) 4 < 2
  · rw [if_pos q]; exact hourS_wf (by omega) hW
  · rw [if_neg q]
    have h8 := hW.1.2.2.2.2
    by_cases q0 : L.1 = 0
    · rw [if_pos q0]; exact hW.mono (by omega)
    · rw [if_neg q0]
      have hk := (hlt (nx (nx s.1)) (L.1) (by omega) (by omega))
      have hb1 := (hlt (nx (nx (nx s.1))) (L.1) (by omega) (by omega))
      have h3 := (hlt (nx (nx (nx s.1))) (3) (by omega) (by omega))
      by_cases q2 : dr (nx s.1) 4 = 2
      · rw [if_pos q2]
        exact (lend_wf (by omega) (by omega) hW hk (show ¬ nI (1 + dr (nx (nx (nx s.1))) 3) < 1 from nI_nlt (b := 1) (by omega) (by omega)) (show nI (1 + dr (nx (nx (nx s.1))) 3) ≤ 9 from nI_le (b := 9) (by omega) (by decide))).mono (by omega)
      · rw [if_neg q2]
        dsimp only
        by_cases q3 : dr (nx (nx s.1)) L.1 = dr (nx (nx (nx s.1))) L.1
        · rw [if_pos q3]; exact hW.mono (by omega)
        · rw [if_neg q3]; exact (tie_wf hW hk hb1 q3).mono (by omega)
theorem yrI_wf {nx : Int32 → Int32} {dr : Int32 → Nat → Nat} (hlt : ∀ l n, 0 < n → n < 1000 → dr l n < n) {L : Ld} {s : Ys} {H : Nat} (hW : WF L.1 9 H s.2.1) (i : Nat) : WF L.1 9 (H + i) (yrI nx dr L s i).2.1 := by
  induction i with
  | zero => exact hW
  | succ i ih => exact yr_wf hlt ih
theorem drawn_c (N : Nat) (l : Int32) {n : Nat} (h0 : 0 < n) (hn : n < 1000) (σ : Sg) : X8_drawn N l (nI n) σ = some (nI (drN l n)) := by
  unfold X8_drawn
  rw [if_neg (nI_nle h0 (by omega)), if_neg (nI_ne0 h0 (by omega)), (dr_e l h0 hn).1]
theorem years_gen {N : Nat} (hN : 555 < N) {nx : Int32 → Int32} {dr : Int32 → Nat → Nat} (hlt : ∀ l n, 0 < n → n < 1000 → dr l n < n) (hnx : ∀ l σ, X8_nextLuck N l σ = some (nx l)) (hdc : ∀ l n σ, 0 < n → n < 1000 → X8_drawn N l (nI n) σ = some (nI (dr l n))) (hdr : ∀ (b : Sg) (lk : Int32) (n : Nat), gi b 149 44 = lk → 0 < n → n < 1000 → X9_draws N (nI n) b = some (nI (dr (nx lk) n), wi b 149 44 (nx lk))) {H : Nat} {A : Ab} (hA : OkA H A) (hH : H < 1000000) (seed v : Int32) : OpB (X8_years N seed v) (X9_years N seed v) H A := by
  have h8 := hA.1.1.2.2.2.2
  by_cases h : v < 1 ∨ 60 < v
  · refine OpB.no hA (-1) (fun σ _ => ?_) (fun σ _ => ?_)
    · unfold X8_years
      by_cases q : v < 1
      · rw [if_pos q]
      · rw [if_neg q, if_neg (fun z => h.elim q (fun y => absurd y (Int32.not_lt.mpr z)))]
    · unfold X9_years
      simp only [bnS]
      rw [show (1 : Int64) = (1 : Int32).toInt64 from rfl, show (60 : Int64) = (60 : Int32).toInt64 from rfl, in_f N h, Option.bind_some, if_pos rfl]
  · have h1 : ¬ v < 1 := fun q => h (Or.inl q)
    have h2 : v ≤ 60 := Int32.not_lt.mp (fun q => h (Or.inr q))
    obtain ⟨q, hq, rfl⟩ : ∃ q, q ≤ 60 ∧ v = nI q := by
      rcases upto 60 (by omega) v with z | z
      · exact z
      · exfalso
        rcases z with z | z
        · exact h1 (Int32.lt_trans z (by decide))
        · exact h (Or.inr z)
    have hWi := fun i => yrI_wf (nx := nx) hlt (L := A.1) (s := (seed, A.2.1, 0)) hA.1 i
    refine OpB.told hA (hereS A.1 (yrI nx dr A.1 (seed, A.2.1, 0) q).2.1) [((yrI nx dr A.1 (seed, A.2.1, 0) q).2.1 33).toInt64, (yrI nx dr A.1 (seed, A.2.1, 0) q).2.2.toInt64] (by simp) (fun σ hσ => ?_) (fun σ hσ => ?_)
    · obtain ⟨σ1, b1, b2, b3⟩ := become_c (N := N) (by omega) (k0 := 24) (k1 := 19) (by omega) (by omega) σ
      rw [hσ.2.1] at b2
      unfold X8_years
      rw [if_neg h1, if_pos h2, b1, Option.bind_some]
      refine forL0 (L := fun m i (a : (Int32 × Int32) × Sg) => X8_years_l32 N (fun v4 σ => X8_years_j170 N v4 σ) m (nI q) a.1.1 a.1.2 (nI i) a.2) (m := q) (a := ((seed, 0), σ1)) (fun i a => a.1.1 = (yrI nx dr A.1 (seed, A.2.1, 0) i).1 ∧ rC a.2 24 = (yrI nx dr A.1 (seed, A.2.1, 0) i).2.1 ∧ a.1.2 = (yrI nx dr A.1 (seed, A.2.1, 0) i).2.2 ∧ Fr (HK 24) σ a.2) (o := fun x => ∃ σ', x = some (hereS A.1 (yrI nx dr A.1 (seed, A.2.1, 0) q).2.1, σ') ∧ ToC σ' [((yrI nx dr A.1 (seed, A.2.1, 0) q).2.1 33).toInt64, (yrI nx dr A.1 (seed, A.2.1, 0) q).2.2.toInt64] ∧ Fr scrC σ σ') (by omega) ⟨rfl, b2, rfl, b3.mono (by decide)⟩ ?_ ?_
      · intro m i a hi hI
        obtain ⟨⟨lk, ls⟩, τ⟩ := a
        obtain ⟨i1, i2, i3, i4⟩ := hI
        dsimp only at i1 i2 i3 i4 ⊢
        left
        have hst : yrI nx dr A.1 (seed, A.2.1, 0) (i + 1) = yrS nx dr A.1 (yrI nx dr A.1 (seed, A.2.1, 0) i) := rfl
        have hW := hWi i
        generalize yrI nx dr A.1 (seed, A.2.1, 0) i = st at *
        obtain ⟨l, r, u⟩ := st
        dsimp only at i1 i2 i3 hW
        subst i1
        subst i3
        have hR := hσ.1.fr i4 (by decide)
        obtain ⟨kk, m1, m2, m3⟩ := hR
        have nt := m3.1
        rw [hst]
        unfold yrS
        rw [X8_years_l32, if_neg (n_le hi (by omega)), hnx, Option.bind_some, show (4 : Int32) = nI 4 from rfl, hdc _ _ _ (by omega) (by omega), Option.bind_some]
        dsimp only
        by_cases q1 : dr (nx lk) 4 < 2
        · rw [if_pos q1, if_neg (show ¬ (2 : Int32) ≤ nI (dr (nx lk) 4) from nI_ge (b := 2) q1 (by decide))]
          obtain ⟨σ3, p1, p2, p3⟩ := passHours_c (N := N) (by omega) (Or.inr rfl) m3 m1 (S := 9) (H := H + i) (by omega) (by rw [i2]; exact hW) (q := 1) (by omega) (by omega)
          rw [i2] at p1 p2
          refine ⟨((nx lk, ls + sumB (diesS A.1 r) r A.1.1), σ3), ⟨rfl, p2, rfl, i4.trans p3⟩, ?_⟩
          rw [show (1 : Int32) = nI 1 from rfl, p1, Option.bind_some, nI_add]
          dsimp only
          congr 2
          show (0 : Int32) + sumB (diesS A.1 r) r A.1.1 = _
          simp
        · rw [if_neg q1, if_pos (show (2 : Int32) ≤ nI (dr (nx lk) 4) from nI_le (a := 2) (by omega) (by have := (hlt (nx lk) (4) (by omega) (by omega)); omega)), nt]
          by_cases q0 : A.1.1 = 0
          · rw [if_pos q0, if_pos (by rw [q0]; decide)]
            exact ⟨((nx lk, ls), τ), ⟨rfl, i2, rfl, i4⟩, by rw [nI1]⟩
          · have hk := (hlt (nx (nx lk)) (A.1.1) (by omega) (by omega))
            have hb1 := (hlt (nx (nx (nx lk))) (A.1.1) (by omega) (by omega))
            have h3 := (hlt (nx (nx (nx lk))) (3) (by omega) (by omega))
            have h4 := (hlt (nx lk) (4) (by omega) (by omega))
            rw [if_neg q0, if_neg (nI_nle (by omega) (by omega)), hnx, Option.bind_some, hdc _ _ _ (by omega) (by omega), Option.bind_some, hnx, Option.bind_some]
            by_cases q2 : dr (nx lk) 4 = 2
            · obtain ⟨σ3, p1, p2, p3⟩ := lend_yes (N := N) (Or.inr rfl : (24 : Nat) = 19 ∨ (24 : Nat) = 24) nt h8 hk (v := nI (1 + dr (nx (nx (nx lk))) 3)) (nI_nlt (b := 1) (by omega) (by omega)) (nI_le (b := 9) (by omega) (by decide))
              rw [i2] at p1 p2
              rw [if_pos q2, if_pos (show nI (dr (nx lk) 4) = 2 by rw [q2]; rfl)]
              refine ⟨((nx (nx (nx lk)), ls), σ3), ⟨rfl, p2, rfl, i4.trans p3⟩, ?_⟩
              rw [show (3 : Int32) = nI 3 from rfl, hdc _ _ _ (by omega) (by omega), Option.bind_some, show (1 : Int32) + nI (dr (nx (nx (nx lk))) 3) = nI (1 + dr (nx (nx (nx lk))) 3) from nI_add 1 _, p1, Option.bind_some, nI1]
            · rw [if_neg q2, if_neg (show ¬ nI (dr (nx lk) 4) = 2 from fun z => q2 ((nI_eq (b := 2) (by omega) (by decide)).mp z)), hdc _ _ _ (by omega) (by omega), Option.bind_some]
              by_cases q3 : dr (nx (nx lk)) A.1.1 = dr (nx (nx (nx lk))) A.1.1
              · rw [tie_no nt h8 (Or.inr (Or.inr (by rw [q3]))), Option.bind_some]
                refine ⟨((nx (nx (nx lk)), ls), τ), ⟨rfl, ?_, rfl, i4⟩, by rw [nI1]⟩
                dsimp only; rw [if_pos q3]; exact i2
              · obtain ⟨σ3, p1, p2, p3⟩ := tie_yes (N := N) (by omega) (Or.inr rfl : (24 : Nat) = 19 ∨ (24 : Nat) = 24) nt h8 hk hb1 q3
                rw [i2] at p1 p2
                rw [p1, Option.bind_some]
                refine ⟨((nx (nx (nx lk)), ls), σ3), ⟨rfl, ?_, rfl, i4.trans p3⟩, by rw [nI1]⟩
                dsimp only; rw [if_neg q3]; exact p2
      · intro m a hI
        obtain ⟨⟨lk, ls⟩, τ⟩ := a
        obtain ⟨i1, i2, i3, i4⟩ := hI
        dsimp only at i1 i2 i3 i4 ⊢
        obtain ⟨σ4, g1, g2, g3⟩ := tell2_c N ((yrI nx dr A.1 (seed, A.2.1, 0) q).2.1 33).toInt64 (yrI nx dr A.1 (seed, A.2.1, 0) q).2.2.toInt64 τ
        have n4 : gi σ4 5 1 = nI A.1.1 := (g3.g (k := 5) (j := 1) (by decide)).trans ((hσ.1.fr i4 (by decide)).n.1)
        refine ⟨σ4, ?_, g2, (i4.mono (by decide)).trans (g3.mono (by decide))⟩
        rw [X8_years_l32, if_pos (nI_le (Nat.le_refl _) (by omega)), X8_years_j170, show gi τ 24 5 = (yrI nx dr A.1 (seed, A.2.1, 0) q).2.1 33 from congrFun i2 33, i3, g1, Option.bind_some, present_c N n4, (g3.row24 (by decide)).trans i2]
        rfl
    · have f0 : Fr [3000, 3044] σ (wi (wi σ 149 0 0) 149 44 seed) := ((Fr.refl _ _).wi (by simp [pl])).wi (by simp [pl])
      have c1 := hσ.1.fr f0 (by decide)
      have r0' : rR (wi (wi σ 149 0 0) 149 44 seed) 153 = A.2.1 := (rR_congr (f0.r (by simp [pl]))).trans hσ.2.1
      have e44 : gi (wi (wi σ 149 0 0) 149 44 seed) 149 44 = seed := by rw [giw, if_pos ⟨rfl, rfl⟩]
      obtain ⟨σ1, b1, b2, b3⟩ := copies_r (N := N) (by omega) (wi (wi σ 149 0 0) 149 44 seed)
      rw [r0'] at b2
      obtain ⟨σ2, d1, d2, d3, d4, d5⟩ := goesOn_r (N := N) (by omega) (Or.inr rfl) (c1.fr b3 (by decide)) (S := 9) (H := H) (by omega) (by rw [b2]; exact hA.1) (q := 0) (by omega) (by omega)
      rw [b2] at d2 d4
      have f2 : Fr [154, 159, 160, 3025, 3026, 3044] (wi (wi σ 149 0 0) 149 44 seed) σ2 := (b3.mono (by decide)).trans (d5.mono (by decide))
      have g44 : gi σ2 149 44 = seed := (d5.g (k := 149) (j := 44) (by decide)).trans ((b3.g (k := 149) (j := 44) (by decide)).trans e44)
      unfold X9_years
      simp only [bnS]
      rw [show (1 : Int64) = (1 : Int32).toInt64 from rfl, show (60 : Int64) = (60 : Int32).toInt64 from rfl, in_t N (Int32.not_lt.mp h1) h2, Option.bind_some, if_neg oneF, b1, Option.bind_some, show X9_goesOn N 154 0 σ1 = some σ2 from d1, Option.bind_some]
      refine forL0 (L := fun m i a => X9_years_l39 N (fun σ => X9_years_j137 N σ) m (nI q) (nI i) a) (m := q) (a := σ2) (fun i a => gi a 149 44 = (yrI nx dr A.1 (seed, A.2.1, 0) i).1 ∧ rR a 154 = (yrI nx dr A.1 (seed, A.2.1, 0) i).2.1 ∧ gi a 149 26 = (yrI nx dr A.1 (seed, A.2.1, 0) i).2.2 ∧ Fr [154, 159, 160, 3025, 3026, 3044] (wi (wi σ 149 0 0) 149 44 seed) a) (o := fun x => ∃ σ', x = some (hereS A.1 (yrI nx dr A.1 (seed, A.2.1, 0) q).2.1, σ') ∧ ToR σ' [((yrI nx dr A.1 (seed, A.2.1, 0) q).2.1 33).toInt64, (yrI nx dr A.1 (seed, A.2.1, 0) q).2.2.toInt64] ∧ Fr scrR σ σ') (by omega) ⟨g44, d2, d4, f2⟩ ?_ ?_
      · intro m i a hi hI
        obtain ⟨i1, i2, i3, i4⟩ := hI
        left
        have hst : yrI nx dr A.1 (seed, A.2.1, 0) (i + 1) = yrS nx dr A.1 (yrI nx dr A.1 (seed, A.2.1, 0) i) := rfl
        have hW := hWi i
        generalize yrI nx dr A.1 (seed, A.2.1, 0) i = st at *
        obtain ⟨l, r, u⟩ := st
        dsimp only at i1 i2 i3 hW
        have fd : ∀ (b : Sg) (x : Int32), Fr [154, 159, 160, 3025, 3026, 3044] (wi (wi σ 149 0 0) 149 44 seed) b → Fr [154, 159, 160, 3025, 3026, 3044] (wi (wi σ 149 0 0) 149 44 seed) (wi b 149 44 x) := fun b x z => z.wi (by simp [pl])
        have rd : ∀ (b : Sg) (x : Int32), rR (wi b 149 44 x) 154 = rR b 154 := fun b x => rR_congr (gi_wi_ne (by omega))
        have ld : ∀ (b : Sg) (x : Int32), gi (wi b 149 44 x) 149 26 = gi b 149 26 := fun b x => by rw [giw, if_neg (by omega)]
        have nd : ∀ (b : Sg), Fr [154, 159, 160, 3025, 3026, 3044] (wi (wi σ 149 0 0) 149 44 seed) b → gi b 149 3 = nI A.1.1 := fun b z => (c1.fr z (by decide)).1
        have kd : ∀ (b : Sg) (x : Int32), gi (wi b 149 44 x) 149 44 = x := fun b x => by rw [giw, if_pos ⟨rfl, rfl⟩]
        rw [hst]
        unfold yrS
        rw [X9_years_l39, if_neg (n_le hi (by omega)), show (4 : Int32) = nI 4 from rfl, hdr a l 4 i1 (by omega) (by omega), Option.bind_some]
        dsimp only
        by_cases q1 : dr (nx l) 4 < 2
        · rw [if_pos q1, if_neg (show ¬ (2 : Int32) ≤ nI (dr (nx l) 4) from nI_ge (b := 2) q1 (by decide))]
          obtain ⟨σ3, p1, p2, p3, p4, p5⟩ := hourGoes_b (N := N) (by omega) (Or.inr rfl) (c1.fr (fd a (nx l) i4) (by decide)) (S := 9) (H := H + i) (by omega) (by rw [rd, i2]; exact hW)
          rw [rd, i2] at p2 p4
          refine ⟨σ3, ⟨?_, p2, ?_, (fd a (nx l) i4).trans (p5.mono (by decide))⟩, ?_⟩
          · rw [p5.g (k := 149) (j := 44) (by decide), kd]
          · rw [p4, ld, i3]
          · rw [p1, Option.bind_some, nI1]
        · rw [if_neg q1, if_pos (show (2 : Int32) ≤ nI (dr (nx l) 4) from nI_le (a := 2) (by omega) (by have := (hlt (nx l) (4) (by omega) (by omega)); omega)), nd _ (fd a _ i4)]
          by_cases q0 : A.1.1 = 0
          · rw [if_pos q0, if_pos (by rw [q0]; decide)]
            exact ⟨wi a 149 44 (nx l), ⟨kd _ _, (rd _ _).trans i2, (ld _ _).trans i3, fd _ _ i4⟩, by rw [nI1]⟩
          · have hk := (hlt (nx (nx l)) (A.1.1) (by omega) (by omega))
            have hb1 := (hlt (nx (nx (nx l))) (A.1.1) (by omega) (by omega))
            have h3 := (hlt (nx (nx (nx l))) (3) (by omega) (by omega))
            have h4 := (hlt (nx l) (4) (by omega) (by omega))
            have f2' := fd _ (nx (nx l)) (fd _ (nx l) i4)
            have f3' := fd _ (nx (nx (nx l))) f2'
            have r3 : rR (wi (wi (wi a 149 44 (nx l)) 149 44 (nx (nx l))) 149 44 (nx (nx (nx l)))) 154 = r := by rw [rd, rd, rd]; exact i2
            have l3 : gi (wi (wi (wi a 149 44 (nx l)) 149 44 (nx (nx l))) 149 44 (nx (nx (nx l)))) 149 26 = u := by rw [ld, ld, ld]; exact i3
            rw [if_neg q0, if_neg (nI_nle (by omega) (by omega)), hdr _ (nx l) A.1.1 (kd _ _) (by omega) (by omega), Option.bind_some]
            dsimp only
            by_cases q2 : dr (nx l) 4 = 2
            · rw [if_pos q2, if_pos (show nI (dr (nx l) 4) = 2 by rw [q2]; rfl), show (3 : Int32) = nI 3 from rfl, hdr _ (nx (nx l)) 3 (kd _ _) (by omega) (by omega), Option.bind_some]
              dsimp only
              obtain ⟨σ3, p1, p2, p3⟩ := lendR_yes (N := N) (Or.inr rfl : (154 : Nat) = 153 ∨ (154 : Nat) = 154) (nd _ f3') h8 hk (v := nI (1 + dr (nx (nx (nx l))) 3)) (nI_nlt (b := 1) (by omega) (by omega)) (nI_le (b := 9) (by omega) (by decide))
              rw [r3] at p1 p2
              refine ⟨σ3, ⟨?_, p2, ?_, f3'.trans (p3.mono (by decide))⟩, ?_⟩
              · rw [p3.g (k := 149) (j := 44) (by decide), kd]
              · rw [p3.g (k := 149) (j := 26) (by decide), l3]
              · rw [show (1 : Int32) + nI (dr (nx (nx (nx l))) 3) = nI (1 + dr (nx (nx (nx l))) 3) from nI_add 1 _, p1, Option.bind_some, nI1]
            · rw [if_neg q2, if_neg (show ¬ nI (dr (nx l) 4) = 2 from fun z => q2 ((nI_eq (b := 2) (by omega) (by decide)).mp z)), nd _ f2', hdr _ (nx (nx l)) A.1.1 (kd _ _) (by omega) (by omega), Option.bind_some]
              dsimp only
              by_cases q3 : dr (nx (nx l)) A.1.1 = dr (nx (nx (nx l))) A.1.1
              · rw [tieR_no (nd _ f3') h8 (Or.inr (Or.inr (by rw [q3]))), Option.bind_some]
                refine ⟨_, ⟨kd _ _, ?_, l3, f3'⟩, by rw [nI1]⟩
                rw [if_pos q3]; exact r3
              · obtain ⟨σ3, p1, p2, p3⟩ := tieR_yes (N := N) (S := 9) (H := H + i) (by omega) (Or.inr rfl : (154 : Nat) = 153 ∨ (154 : Nat) = 154) (nd _ f3') (by rw [r3]; exact hW) hk hb1 q3
                rw [r3] at p1 p2
                rw [p1, Option.bind_some]
                refine ⟨σ3, ⟨?_, ?_, ?_, f3'.trans (p3.mono (by decide))⟩, by rw [nI1]⟩
                · rw [p3.g (k := 149) (j := 44) (by decide), kd]
                · rw [if_neg q3]; exact p2
                · rw [p3.g (k := 149) (j := 26) (by decide), l3]
      · intro m a hI
        obtain ⟨i1, i2, i3, i4⟩ := hI
        have tf := told0_f a
        obtain ⟨σ4, g1, g2, g3⟩ := enters_r N (told0_r a) (by decide) ((yrI nx dr A.1 (seed, A.2.1, 0) q).2.1 33).toInt64
        obtain ⟨σ5, j1, j2, j3⟩ := enters_r N g2 (by simp) (yrI nx dr A.1 (seed, A.2.1, 0) q).2.2.toInt64
        have f5 : Fr [3001, 150] a σ5 := (tf.trans g3).trans j3
        refine ⟨σ5, ?_, j2, ((f0.mono (by decide)).trans (i4.mono (by decide))).trans (f5.mono (by decide))⟩
        rw [X9_years_l39, if_pos (nI_le (Nat.le_refl _) (by omega)), X9_years_j137]
        simp only [bnS]
        rw [if_pos i37_33, cl33, (tf.g (k := 154) (by simp [pl])).trans (congrFun i2 33 : gi a 154 33 = _), g1, Option.bind_some, ((tf.trans g3).g (k := 149) (j := 26) (by decide)).trans i3, j1, Option.bind_some, here_r N ((f5.g (k := 149) (j := 3) (by decide)).trans (c1.fr i4 (by decide)).1), (rR_congr (f5.r (k := 154) (by simp [pl]))).trans i2]
        rfl
theorem years_op {N : Nat} (hN : 555 < N) {H : Nat} {A : Ab} (hA : OkA H A) (hH : H < 1000000) (seed v : Int32) : OpB (X8_years N seed v) (X9_years N seed v) H A :=
  years_gen hN (nx := nxS) (dr := drN) (fun l _ h0 hn => (dr_e l h0 hn).2) (fun _ _ => rfl) (fun l _ σ h0 hn => drawn_c N l h0 hn σ) (fun b lk n hb0 h0 hn => by
    unfold X9_draws
    simp only [bnS]
    rw [hb0, if_neg (nI_ne0 h0 (by omega)), giw, if_pos ⟨rfl, rfl⟩, show lk * 1103515245 + 12345 = nxS lk from rfl, (dr_e _ h0 hn).1]) hA hH seed v
