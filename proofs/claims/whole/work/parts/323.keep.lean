/-! ===== seen, keep, again, count ===== -/
theorem seen_op (N : Nat) {H : Nat} {A : Ab} (hA : OkA H A) (a v e : Int32) : OpB (X8_seen N a v e) (X9_seen N a v e) H A := by
  obtain ⟨L, now, t, to, p, s, w⟩ := A
  have hA0 := hA
  obtain ⟨k1, k2, k3, ⟨k4, k4'⟩, k5, k6, k6'⟩ := hA
  dsimp only at k1 k2 k3 k4 k4' k5 k6 k6'
  have h8 := k1.1.2.2.2.2
  rcases thing_or h8 a with ⟨k, hk, rfl⟩ | hno
  · rcases upto 20 (by omega) v with ⟨q, hq, rfl⟩ | h
    · rcases upto 1 (by omega) e with ⟨u, hu, rfl⟩ | h
      · by_cases hw : w.length < 10
        · refine ⟨nI (w.length + 1), (L, now, t, to, p, s, w ++ [(k, q, u)]), ?_, ?_, k1.mono (by omega), k2, k3, ⟨k4, fun q hq => (k4' q hq).mono (by omega)⟩, fun i r hi hr => (k5 i r hi hr).mono (by omega), by simp; omega, fun x hx => ?_⟩
          · rintro σ ⟨c1, c2, c3, c4, c5, c6, c7⟩
            dsimp only at c1 c2 c3 c4 c5 c6 c7
            have f : Fr [129, 130, 131, 4003] σ (wi (wi (wi (wi σ 129 w.length (nI k)) 130 w.length (nI q)) 131 w.length (nI u)) 128 3 (nI w.length + 1)) := ((((Fr.refl _ _).wi (by simp [pl])).wi (by simp [pl])).wi (by simp [pl])).wi (by simp [pl])
            refine ⟨_, ?_, ⟨c1.fr f (by decide), (f.row19 (by decide)).trans c2, c3.fr f (by decide), c4.fr f (by decide), c5.fr f (by decide +kernel), c6.fr f (by decide +kernel), ⟨?_, fun i hi => ?_⟩⟩, fun B hB => hB.fr f (by decide)⟩
            · unfold X8_seen X7_note
              rw [isThing_t N c1.n.1 h8 hk, Option.bind_some, if_neg oneF, if_neg (nI_pos (by omega)), if_neg (show ¬ (20 : Int32) < nI q from nI_nlt (a := 20) hq (by decide)), if_neg (nI_pos (by omega)), if_pos (show nI u ≤ 1 from nI_le (b := 1) hu (by decide)), c7.1, if_pos (show nI w.length < 10 from nI_lt (b := 10) hw (by decide)), inbI hw (by omega), clI (by omega)]
              simp only [bnS, if_true]
              have e1 : gi (wi σ 129 w.length (nI k)) 128 3 = nI w.length := by rw [giw, if_neg (by omega)]; exact c7.1
              rw [e1, inbI hw (by omega), clI (by omega)]
              simp only [if_true]
              have e2 : gi (wi (wi σ 129 w.length (nI k)) 130 w.length (nI q)) 128 3 = nI w.length := by rw [giw, if_neg (by omega)]; exact e1
              rw [e2, inbI hw (by omega), clI (by omega)]
              simp only [if_true]
              have e3 : gi (wi (wi (wi σ 129 w.length (nI k)) 130 w.length (nI q)) 131 w.length (nI u)) 128 3 = nI w.length := by rw [giw, if_neg (by omega)]; exact e2
              rw [e3, Option.bind_some]
              dsimp only
              rw [giw, if_pos ⟨rfl, rfl⟩, nI1]
            · rw [giw, if_pos ⟨rfl, rfl⟩, nI1]; simp
            · have hi : i < w.length + 1 := by simpa using hi
              rw [getD_app w _ _ i hi]
              simp only [giw]
              by_cases z : i = w.length
              · subst z; simp
              · simp [z]; exact c7.2 i (by omega)
          · rintro σ ⟨c1, c2, c3, c4, c5, c6, c7⟩
            dsimp only at c1 c2 c3 c4 c5 c6 c7
            have f0 := thrown_f σ 0
            have n0 := (c1.fr f0 (by decide)).1
            have f : Fr [3000, 169, 170, 171, 3035] σ (wi (wi (wi (wi (wi σ 149 0 0) 169 w.length (nI k)) 170 w.length (nI q)) 171 w.length (nI u)) 149 35 (nI w.length + 1)) := (((((Fr.refl _ _).wi (by simp [pl])).wi (by simp [pl])).wi (by simp [pl])).wi (by simp [pl])).wi (by simp [pl])
            refine ⟨_, ?_, ⟨c1.fr f (by decide), (rR_congr (f.r (by simp [pl]))).trans c2, c3.fr f (by decide), c4.fr f (by decide), c5.fr f (by decide), c6.fr f (by decide), ⟨?_, fun i hi => ?_⟩⟩, fun B hB => hB.fr f (by decide +kernel)⟩
            · have e0 : gi (wi σ 149 0 0) 149 35 = nI w.length := by rw [giw, if_neg (by omega)]; exact c7.1
              unfold X9_seen
              simp only [bnS]
              rw [isThingR_t N n0 h8 hk, Option.bind_some, if_neg oneF, in11 N (hi := 20) (h64 := 20) rfl (nI_pos (by omega)) (nI_le (b := 20) hq (by decide)), Option.bind_some, if_neg oneF, in11 N (hi := 1) (h64 := 1) rfl (nI_pos (by omega)) (nI_le (b := 1) hu (by decide)), Option.bind_some, if_neg oneF, e0, if_neg (show ¬ nI w.length = 10 from fun z => absurd ((nI_eq (b := 10) (by omega) (by decide)).mp z) (by omega)), inbI hw (by omega), clI (by omega)]
              simp only [if_true]
              have e1 : gi (wi (wi σ 149 0 0) 169 w.length (nI k)) 149 35 = nI w.length := by rw [giw, if_neg (by omega)]; exact e0
              rw [e1, inbI hw (by omega), clI (by omega)]
              simp only [if_true]
              have e2 : gi (wi (wi (wi σ 149 0 0) 169 w.length (nI k)) 170 w.length (nI q)) 149 35 = nI w.length := by rw [giw, if_neg (by omega)]; exact e1
              rw [e2, inbI hw (by omega), clI (by omega)]
              simp only [if_true]
              have e3 : gi (wi (wi (wi (wi σ 149 0 0) 169 w.length (nI k)) 170 w.length (nI q)) 171 w.length (nI u)) 149 35 = nI w.length := by rw [giw, if_neg (by omega)]; exact e2
              rw [e3, giw, if_pos ⟨rfl, rfl⟩, nI1]
            · rw [giw, if_pos ⟨rfl, rfl⟩, nI1]; simp
            · have hi : i < w.length + 1 := by simpa using hi
              rw [getD_app w _ _ i hi]
              simp only [giw]
              by_cases z : i = w.length
              · subst z; simp
              · simp [z]; exact c7.2 i (by omega)
          · rcases List.mem_append.mp hx with z | z
            · exact k6' x z
            · rw [List.mem_singleton.mp z]; exact ⟨hk, hq, hu⟩
        · have hw10 : w.length = 10 := by omega
          refine OpB.no hA0 (-1) (fun σ hσ => ?_) (fun σ hσ => ?_)
          · unfold X8_seen X7_note
            rw [isThing_t N hσ.1.n.1 h8 hk, Option.bind_some, if_neg oneF, if_neg (nI_pos (by omega)), if_neg (show ¬ (20 : Int32) < nI q from nI_nlt (a := 20) hq (by decide)), if_neg (nI_pos (by omega)), if_pos (show nI u ≤ 1 from nI_le (b := 1) hu (by decide)), show gi σ 128 3 = nI 10 from hσ.2.2.2.2.2.2.1.trans (by rw [show ((L, now, t, to, p, s, w) : Ab).2.2.2.2.2.2 = w from rfl, hw10]), if_neg (by decide)]
            rfl
          · have f0 := thrown_f σ 0
            have n0 := (hσ.1.fr f0 (by decide)).1
            have e0 : gi (wi σ 149 0 0) 149 35 = nI 10 := by rw [giw, if_neg (by omega)]; exact hσ.2.2.2.2.2.2.1.trans (by rw [show ((L, now, t, to, p, s, w) : Ab).2.2.2.2.2.2 = w from rfl, hw10])
            unfold X9_seen
            simp only [bnS]
            rw [isThingR_t N n0 h8 hk, Option.bind_some, if_neg oneF, in11 N (hi := 20) (h64 := 20) rfl (nI_pos (by omega)) (nI_le (b := 20) hq (by decide)), Option.bind_some, if_neg oneF, in11 N (hi := 1) (h64 := 1) rfl (nI_pos (by omega)) (nI_le (b := 1) hu (by decide)), Option.bind_some, if_neg oneF, e0, if_pos (by decide)]
      · refine OpB.no hA0 (-1) (fun σ hσ => ?_) (fun σ hσ => ?_)
        · unfold X8_seen
          rw [isThing_t N hσ.1.n.1 h8 hk, Option.bind_some, if_neg oneF, if_neg (nI_pos (by omega)), if_neg (show ¬ (20 : Int32) < nI q from nI_nlt (a := 20) hq (by decide))]
          by_cases z : e < 0
          · rw [if_pos z]
          · rw [if_neg z, if_neg (show ¬ e ≤ 1 from fun y => h.elim z (fun u => absurd u (Int32.not_lt.mpr y)))]
        · have n0 := (hσ.1.fr (thrown_f σ 0) (by decide)).1
          unfold X9_seen
          simp only [bnS]
          rw [isThingR_t N n0 h8 hk, Option.bind_some, if_neg oneF, in11 N (hi := 20) (h64 := 20) rfl (nI_pos (by omega)) (nI_le (b := 20) hq (by decide)), Option.bind_some, if_neg oneF, in01 N (hi := 1) (h64 := 1) rfl h, Option.bind_some, if_pos rfl]
    · refine OpB.no hA0 (-1) (fun σ hσ => ?_) (fun σ hσ => ?_)
      · unfold X8_seen
        rw [isThing_t N hσ.1.n.1 h8 hk, Option.bind_some, if_neg oneF]
        by_cases z : v < 0
        · rw [if_pos z]
        · rw [if_neg z, if_pos (show (20 : Int32) < v from h.resolve_left z)]
      · have n0 := (hσ.1.fr (thrown_f σ 0) (by decide)).1
        unfold X9_seen
        simp only [bnS]
        rw [isThingR_t N n0 h8 hk, Option.bind_some, if_neg oneF, in01 N (hi := 20) (h64 := 20) rfl h, Option.bind_some, if_pos rfl]
  · refine OpB.no hA0 (-1) (fun σ hσ => ?_) (fun σ hσ => ?_)
    · unfold X8_seen
      rw [isThing_f N hσ.1.n.1 hno, Option.bind_some, if_pos rfl]
    · have n0 := (hσ.1.fr (thrown_f σ 0) (by decide)).1
      unfold X9_seen
      simp only [bnS]
      rw [isThingR_f N n0 h8 hno, Option.bind_some, if_pos rfl]
theorem l112 : ∀ x, x < 3 → L112.getD x none = some (113 + 5 * x) ∧ isState (113 + 5 * x) = true := by decide +kernel
def shP : List Nat := List.range' 113 15
theorem shP_in {k : Nat} (h : 113 ≤ k) (h2 : k < 128) : k ∈ shP := by unfold shP; rw [List.mem_range']; exact ⟨k - 113, by omega, by omega⟩
def setO (s : Nat → Option (Nat → Int32)) (i : Nat) (r : Nat → Int32) : Nat → Option (Nat → Int32) := fun j => if j = i then some r else s j
theorem narB1 : vp_nar .boolean 1 = 1 := by decide
theorem keep_op {N : Nat} (hN : 555 < N) {H : Nat} {A : Ab} (hA : OkA H A) (v : Int32) : OpB (X8_keep N v) (X9_keep N v) H A := by
  obtain ⟨L, now, t, to, p, s, w⟩ := A
  have hA0 := hA
  obtain ⟨k1, k2, k3, ⟨k4, k4'⟩, k5, k6⟩ := hA
  dsimp only at k1 k2 k3 k4 k4' k5 k6
  rcases upto 2 (by omega) v with ⟨q, hq, rfl⟩ | h
  · refine ⟨1, (L, now, t, to, p, setO s q now, w), ?_, ?_, k1.mono (by omega), k2, k3, ⟨k4, fun q hq => (k4' q hq).mono (by omega)⟩, fun i r hi hr => ?_, k6⟩
    · rintro σ ⟨c1, c2, c3, c4, c5, c6, c7⟩
      dsimp only at c1 c2 c3 c4 c5 c6 c7
      obtain ⟨σ1, b1, b2, b3⟩ := become_c (N := N) (by omega) (k0 := 113 + 5 * q) (k1 := 19) (by omega) (by omega) σ
      have f1 : Fr (111 :: shP) σ σ1 := b3.mono (by intro k hk; unfold S5 at hk; simp at hk; exact List.mem_cons_of_mem _ (shP_in (by omega) (by omega)))
      have f : Fr (111 :: shP) σ (wi σ1 111 1 (gi σ1 111 1 ||| (1 <<< (nI q &&& 31)))) := f1.wi (by simp [pl])
      have hk : ∀ k, k < 113 + 5 * q ∨ 113 + 5 * q + 5 ≤ k → 111 ≤ k → k < 128 → gi σ1 k = gi σ k := fun k h1 h2 h3 => b3.r (fun j => by
        have : pl k j = k := by unfold pl; rw [if_neg (by omega), if_neg (by omega), if_neg (by omega)]
        rw [this]; unfold S5; simp; omega)
      refine ⟨_, ?_, ⟨c1.fr f (by decide +kernel), (f.row19 (by decide +kernel)).trans c2, c3.fr f (by decide +kernel), c4.fr f (by decide +kernel), c5.fr f (by decide +kernel), fun i hi => ⟨?_, fun r hr => ?_⟩, c7.fr f (by decide +kernel)⟩, fun B hB => hB.fr f (by decide +kernel)⟩
      · unfold X8_keep X4_put
        rw [if_neg (nI_pos (by omega)), if_pos (show nI q < 3 from nI_lt (b := 3) (by omega) (by decide)), inbI (show q < 3 by omega) (by omega), clI (by omega), (l112 q (by omega)).1, Option.bind_some, (l112 q (by omega)).2, b1]
        rfl
      · dsimp only
        rw [giw, if_pos ⟨rfl, rfl⟩, hk 111 (by omega) (by omega) (by omega), hb_or, hb_one q (by omega) i (by omega), (c6 i hi).1]
        unfold setO
        by_cases z : i = q
        · rw [if_pos z, decide_eq_true z]; simp
        · rw [if_neg z, decide_eq_false z]; simp
      · have hne : ∀ k, k ≠ 111 → gi (wi σ1 111 1 (gi σ1 111 1 ||| (1 <<< (nI q &&& 31)))) k = gi σ1 k := fun k z => gi_wi_ne z
        rw [rC_congr (hne _ (by omega)) (hne _ (by omega)) (hne _ (by omega)) (hne _ (by omega)) (hne _ (by omega))]
        unfold setO at hr
        dsimp only at hr
        by_cases z : i = q
        · rw [if_pos z] at hr
          rw [z, b2, c2]
          exact Option.some.inj hr
        · rw [if_neg z] at hr
          rw [← (c6 i hi).2 r hr]
          exact rC_congr (hk _ (by omega) (by omega) (by omega)) (hk _ (by omega) (by omega) (by omega)) (hk _ (by omega) (by omega) (by omega)) (hk _ (by omega) (by omega) (by omega)) (hk _ (by omega) (by omega) (by omega))
    · rintro σ ⟨c1, c2, c3, c4, c5, ⟨ch, d1, d2, d3⟩, c7⟩
      dsimp only at c1 c2 c3 c4 c5 d1 d2 d3 c7
      have est : X9_keep N (nI q) σ = X9_keep_l38 N N (nI q) 0 (wi (wi (wi σ 149 0 0) 177 q 1) 178 q (nI ch)) := by
        unfold X9_keep
        simp only [bnS]
        rw [in11 N (hi := 2) (h64 := 2) rfl (nI_pos (by omega)) (nI_le (b := 2) hq (by decide)), Option.bind_some, if_neg oneF, inbI (show q < 3 by omega) (by omega), clI (by omega), narB1]
        simp only [if_true]
        rw [giw, if_neg (by omega), giw, if_neg (by omega), d2]
      rw [est]
      have f0 : Fr [3000, 177, 178, 179] σ (wi (wi (wi σ 149 0 0) 177 q 1) 178 q (nI ch)) := (((Fr.refl _ _).wi (by simp [pl])).wi (by simp [pl])).wi (by simp [pl])
      have e177 : ∀ i, gi (wi (wi (wi σ 149 0 0) 177 q 1) 178 q (nI ch)) 177 i = if i = q then 1 else gi σ 177 i := fun i => by rw [giw, if_neg (by omega), giw, giw]; simp
      have e178 : ∀ i, gi (wi (wi (wi σ 149 0 0) 177 q 1) 178 q (nI ch)) 178 i = if i = q then nI ch else gi σ 178 i := fun i => by rw [giw, giw, giw]; simp
      have e179 : gi (wi (wi (wi σ 149 0 0) 177 q 1) 178 q (nI ch)) 179 = gi σ 179 := (gi_wi_ne (by omega)).trans ((gi_wi_ne (by omega)).trans (gi_wi_ne (by omega)))
      generalize wi (wi (wi σ 149 0 0) 177 q 1) 178 q (nI ch) = σ1 at *
      refine forL0 (L := fun m i a => X9_keep_l38 N m (nI q) (nI i) a) (m := 37) (a := σ1) (fun i a => Fr [179] σ1 a ∧ (∀ j, j < i → gi a 179 (37 * q + j) = gi σ 153 j) ∧ ∀ x, (x < 37 * q ∨ 37 * q + 37 ≤ x) → gi a 179 x = gi σ 179 x) (o := fun x => ∃ σ', x = some (1, σ') ∧ InvR σ' (L, now, t, to, p, setO s q now, w) ∧ ∀ B, InvC σ B → InvC σ' B) (by omega) ⟨Fr.refl _ _, fun j hj => absurd hj (Nat.not_lt_zero _), fun x _ => by rw [e179]⟩ ?_ ?_
      · intro m i a hi hI
        obtain ⟨g0, g1, g2⟩ := hI
        left
        refine ⟨wi a 179 (37 * q + i) (gi σ 153 i), ⟨g0.wi (by simp [pl]), fun j hj => ?_, fun x hx => ?_⟩, ?_⟩
        · rw [giw]
          by_cases z : j = i
          · rw [if_pos ⟨rfl, by omega⟩, z]
          · rw [if_neg (by omega)]; exact g1 j (by omega)
        · rw [giw, if_neg (by omega)]; exact g2 x hx
        · rw [X9_keep_l38, if_neg (c37 hi), show (37 : Int32) * nI q = nI (37 * q) from pk_mul 37 _, nI_add, inbI hi (by omega), inbI (show 37 * q + i < 111 by omega) (by omega), clI (show i < 2147483648 by omega), clI (by omega), g0.g (k := 153) (by simp [pl]), f0.g (k := 153) (by simp [pl]), nI1]
          rfl
      · intro m a hI
        obtain ⟨g0, g1, g2⟩ := hI
        have f : Fr [3000, 177, 178, 179] σ a := f0.trans (g0.mono (by decide))
        have a177 : ∀ i, gi a 177 i = if i = q then 1 else gi σ 177 i := fun i => (g0.g (k := 177) (by simp [pl])).trans (e177 i)
        have a178 : ∀ i, gi a 178 i = if i = q then nI ch else gi σ 178 i := fun i => (g0.g (k := 178) (by simp [pl])).trans (e178 i)
        refine ⟨a, by rw [X9_keep_l38, if_pos c37'], ⟨c1.fr f (by decide), (rR_congr (f.r (by simp [pl]))).trans c2, c3.fr f (by decide), c4.fr f (by decide), c5.fr f (by decide), ⟨ch, d1, (f.g (k := 149) (j := 4) (by decide)).trans d2, fun i hi => ?_⟩, c7.fr f (by decide)⟩, fun B hB => hB.fr f (by decide +kernel)⟩
        dsimp only
        rw [a177, a178]
        unfold setO
        by_cases z : i = q
        · rw [if_pos z, if_pos z, if_pos z]
          refine ⟨Or.inr rfl, ⟨fun _ => ⟨rfl, rfl⟩, fun _ => rfl⟩, ⟨ch, Nat.le_refl _, rfl⟩, fun r hr => ?_⟩
          rw [← Option.some.inj hr, z, ← c2]
          funext j
          unfold rW rR
          by_cases y : j < 37
          · rw [if_pos y, if_pos y]; exact g1 j y
          · rw [if_neg y, if_neg y]
        · rw [if_neg z, if_neg z, if_neg z]
          obtain ⟨y1, y2, y3, y4⟩ := d3 i hi
          refine ⟨y1, y2, y3, fun r hr => ?_⟩
          rw [← y4 r hr]
          funext j
          unfold rW
          by_cases y : j < 37
          · rw [if_pos y, if_pos y]
            apply g2
            rcases Nat.lt_or_ge i q with y5 | y5
            · left; have := Nat.mul_le_mul_left 37 (show i + 1 ≤ q by omega); omega
            · right; have := Nat.mul_le_mul_left 37 (show q + 1 ≤ i by omega); omega
          · rw [if_neg y, if_neg y]
    · unfold setO at hr
      dsimp only at hr
      by_cases z : i = q
      · rw [if_pos z] at hr
        rw [← Option.some.inj hr]
        exact k1.mono (by omega)
      · rw [if_neg z] at hr
        exact (k5 i r hi hr).mono (by omega)
  · refine OpB.no hA0 0 (fun σ _ => ?_) (fun σ _ => ?_)
    · unfold X8_keep X4_put
      by_cases z : v < 0
      · rw [if_pos z]; rfl
      · rw [if_neg z, if_neg (show ¬ v < 3 from fun y => by
          have y2 := h.resolve_left z
          exact absurd (Int32.lt_of_lt_of_le y (by
            have : (3 : Int32) = 2 + 1 := by decide
            rw [this]
            rw [Int32.le_iff_toInt_le]
            have e1 : ((2 : Int32) + 1).toInt = 3 := by decide
            have e2 : (nI 2).toInt = 2 := by decide
            rw [Int32.lt_iff_toInt_lt, e2] at y2
            omega)) (Int32.lt_irrefl))]
        rfl
    · unfold X9_keep
      simp only [bnS]
      rw [in01 N (hi := 2) (h64 := 2) rfl h, Option.bind_some, if_pos rfl]
