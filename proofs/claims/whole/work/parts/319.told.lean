/-! ===== calls that only tell ===== -/
def scrC : List Nat := [15, 18, 9, 13, 16, 2006, 24, 25, 26, 27, 28, 3, 4, 4005, 132, 133, 134, 135, 136, 137, 138, 139, 140, 141, 142, 143, 144, 145, 146, 147, 148]
def scrR : List Nat := [3000, 3001, 150, 154, 159, 160, 165, 166, 167, 168, 172, 173, 174, 175, 3025, 3026, 3044]
def setT (A : Ab) (l : List Int64) : Ab := (A.1, A.2.1, A.2.2.1, l, A.2.2.2.2)
theorem OpB.told {m8 m9 : Sg → Option (Int32 × Sg)} {H : Nat} {A : Ab} (hA : OkA H A) (v : Int32) (l : List Int64) (hl : l.length ≤ 10)
    (h8 : ∀ σ, InvC σ A → ∃ σ', m8 σ = some (v, σ') ∧ ToC σ' l ∧ Fr scrC σ σ') (h9 : ∀ σ, InvR σ A → ∃ σ', m9 σ = some (v, σ') ∧ ToR σ' l ∧ Fr scrR σ σ') : OpB m8 m9 H A := by
  obtain ⟨L, now, t, to, p, s, w⟩ := A
  obtain ⟨k1, k2, k3, ⟨k4, k4'⟩, k5, k6⟩ := hA
  dsimp only at k1 k2 k3 k4 k4' k5 k6
  refine ⟨v, (L, now, t, l, p, s, w), fun σ hσ => ?_, fun σ hσ => ?_, k1.mono (by omega), k2, hl, ⟨k4, fun q hq => (k4' q hq).mono (by omega)⟩, fun i r hi hr => (k5 i r hi hr).mono (by omega), k6⟩
  · obtain ⟨σ', e, to', f⟩ := h8 σ hσ
    obtain ⟨c1, c2, c3, c4, c5, c6, c7⟩ := hσ
    dsimp only at c1 c2 c3 c4 c5 c6 c7
    exact ⟨σ', e, ⟨c1.fr f (by decide +kernel), (f.row19 (by decide +kernel)).trans c2, c3.fr f (by decide +kernel), to', c5.fr f (by decide +kernel), c6.fr f (by decide +kernel), c7.fr f (by decide +kernel)⟩, fun B hB => hB.fr f (by decide +kernel)⟩
  · obtain ⟨σ', e, to', f⟩ := h9 σ hσ
    obtain ⟨c1, c2, c3, c4, c5, c6, c7⟩ := hσ
    dsimp only at c1 c2 c3 c4 c5 c6 c7
    exact ⟨σ', e, ⟨c1.fr f (by decide +kernel), (rR_congr (f.r (by intro j; simp [pl, scrR]))).trans c2, c3.fr f (by decide +kernel), to', c5.fr f (by decide +kernel), c6.fr f (by decide +kernel), c7.fr f (by decide +kernel)⟩, fun B hB => hB.fr f (by decide +kernel)⟩
theorem foresee_c {N : Nat} (hN : 100 < N) {σ : Sg} {A : Ab} {H : Nat} (hσ : InvC σ A) (hA : OkA H A) (hH : H < 1000000) {q : Nat} (hq : q ≤ 99) : ∃ σ', X8_foresee N (nI q) σ = some σ' ∧ rC σ' 24 = hrS A.1 A.2.1 q ∧ Fr (HK 24) σ σ' := by
  obtain ⟨σ1, b1, b2, b3⟩ := become_c (N := N) (by omega) (k0 := 24) (k1 := 19) (by omega) (by omega) σ
  obtain ⟨kk, m1, m2, m3⟩ := hσ.1.fr b3 (by decide)
  have r1 : rC σ1 24 = A.2.1 := b2.trans hσ.2.1
  obtain ⟨σ3, e1, e2, e3⟩ := passHours_c (N := N) (by omega) (Or.inr rfl) m3 m1 (S := 9) (H := H) (by omega) (by rw [r1]; exact hA.1) hq (by omega)
  rw [r1] at e1 e2
  refine ⟨σ3, ?_, e2, (b3.mono (by decide)).trans e3⟩
  unfold X8_foresee
  rw [b1, Option.bind_some, e1]; rfl
theorem foresee_r {N : Nat} (hN : 100 < N) {σ : Sg} {A : Ab} {H : Nat} (h1 : LR σ A.1) (h2 : rR σ 153 = A.2.1) (hA : OkA H A) (hH : H < 1000000) {q : Nat} (hq : q ≤ 99) : ∃ σ1 σ', X9_copies N σ = some σ1 ∧ X9_goesOn N 154 (nI q) σ1 = some σ' ∧ rR σ' 154 = hrS A.1 A.2.1 q ∧ Fr (HR' 154) σ σ' := by
  obtain ⟨σ1, b1, b2, b3⟩ := copies_r (N := N) (by omega) σ
  have r1 : rR σ1 154 = A.2.1 := b2.trans h2
  obtain ⟨σ3, e1, e2, e3, e4, e5⟩ := goesOn_r (N := N) (by omega) (Or.inr rfl) (h1.fr b3 (by decide)) (S := 9) (H := H) (by omega) (by rw [r1]; exact hA.1) hq (by omega)
  rw [r1] at e2
  exact ⟨σ1, σ3, b1, e1, e2, (b3.mono (by decide)).trans e5⟩
def b64 (b : Bool) : Int64 := if b then 1 else 0
theorem height_op {N : Nat} (hN : 555 < N) {H : Nat} {A : Ab} (hA : OkA H A) (hH : H < 1000000) (a v : Int32) : OpB (X8_height N a v) (X9_height N a v) H A := by
  have h8 := hA.1.1.2.2.2.2
  rcases thing_or h8 a with ⟨k, hk, rfl⟩ | hno
  · rcases upto 99 (by omega) v with ⟨q, hq, rfl⟩ | h
    · have hW := hrS_wf (by omega) hA.1 q
      have hk8 : k < 8 := by omega
      refine OpB.told hA (hrS A.1 A.2.1 q (8 + k)) [b64 (hb (hrS A.1 A.2.1 q 32) k), (hrS A.1 A.2.1 q (16 + k)).toInt64] (by simp) (fun σ hσ => ?_) (fun σ hσ => ?_)
      · obtain ⟨σ1, e1, e2, e3⟩ := foresee_c (N := N) (by omega) hσ hA hH hq
        have n1 : gi σ 5 1 = nI A.1.1 := hσ.1.n.1
        have hd : gi σ1 27 k = hrS A.1 A.2.1 q (16 + k) := by rw [← e2, rC_d hk8]
        have hg : gi σ1 24 4 = hrS A.1 A.2.1 q 32 := congrFun e2 32
        obtain ⟨σ2, g1, g2, g3⟩ := tell2_c N (b64 (hb (hrS A.1 A.2.1 q 32) k)) (hrS A.1 A.2.1 q (16 + k)).toInt64 σ1
        refine ⟨σ2, ?_, g2, (e3.mono (by decide)).trans (g3.mono (by decide))⟩
        have hg2 : gi σ2 24 4 = hrS A.1 A.2.1 q 32 := (g3.g (by simp [pl])).trans hg
        have hh2 : gi σ2 26 k = hrS A.1 A.2.1 q (8 + k) := by rw [g3.g (k := 26) (by simp [pl]), ← e2, rC_h hk8]
        unfold X8_height
        rw [isThing_t N n1 h8 hk, Option.bind_some, if_neg oneF, if_neg (nI_pos (by omega)), if_pos (show nI q ≤ 99 from nI_le (b := 99) hq (by decide)), e1, Option.bind_some, isGone_b N 24 (by omega), Option.bind_some, hg]
        by_cases g : hb (hrS A.1 A.2.1 q 32) k = true
        · have g1' := g1
          rw [g] at g1'
          rw [if_pos g, if_neg oneF]
          unfold X8_height_j48
          rw [inbI hk8 (by omega), clI (by omega), hd, if_pos rfl, show (1 : Int64) = b64 true from rfl, g1', Option.bind_some, isGone_b N 24 (by omega), Option.bind_some, hg2, if_pos g, if_neg oneF, (hW.2.2.2.1 k hk8 g).2]
        · have g' : hb (hrS A.1 A.2.1 q 32) k = false := by simpa using g
          have g1' := g1
          rw [g'] at g1'
          rw [if_neg g, if_pos rfl]
          unfold X8_height_j48
          rw [inbI hk8 (by omega), clI (by omega), hd, if_pos rfl, show (0 : Int64) = b64 false from rfl, g1', Option.bind_some, isGone_b N 24 (by omega), Option.bind_some, hg2, if_neg g, if_pos rfl, if_pos rfl, hh2]
      · have f0 := thrown_f σ 0
        have c1 := hσ.1.fr f0 (by decide)
        obtain ⟨σ1, σ2, e1, e2, e3, e4⟩ := foresee_r (N := N) (A := A) (by omega) c1 ((rR_congr (f0.r (by simp [pl]))).trans hσ.2.1) hA hH hq
        have tf := told0_f σ2
        obtain ⟨σ4, g1, g2, g3⟩ := enters_r N (told0_r σ2) (by decide) (b64 (hb (hrS A.1 A.2.1 q 32) k))
        obtain ⟨σ5, i1, i2, i3⟩ := enters_r N g2 (by simp) (hrS A.1 A.2.1 q (16 + k)).toInt64
        have f25 : Fr [3001, 150] σ2 σ5 := (tf.trans g3).trans i3
        refine ⟨σ5, ?_, i2, ((f0.mono (by decide)).trans (e4.mono (by decide))).trans (f25.mono (by decide))⟩
        have h32 : gi (wi σ2 149 1 0) 154 32 = hrS A.1 A.2.1 q 32 := (tf.g (k := 154) (by simp [pl])).trans (congrFun e3 32)
        have h16 : gi σ4 154 (16 + k) = hrS A.1 A.2.1 q (16 + k) := by rw [(tf.trans g3).g (k := 154) (by simp [pl]), ← e3, rR_j (by omega)]
        have h8' : gi σ5 154 (8 + k) = hrS A.1 A.2.1 q (8 + k) := by rw [f25.g (k := 154) (by simp [pl]), ← e3, rR_j (by omega)]
        unfold X9_height
        simp only [bnS]
        rw [isThingR_t N c1.1 h8 hk, Option.bind_some, if_neg oneF, in11 N (hi := 99) (h64 := 99) rfl (nI_pos (by omega)) (nI_le (b := 99) hq (by decide)), Option.bind_some, if_neg oneF, e1, Option.bind_some, e2, Option.bind_some, if_pos i37_32, cl32, h32, has_b N _ (by omega), Option.bind_some, show (16 : Int32) + nI k = nI (16 + k) from nI_add 16 k, show (8 : Int32) + nI k = nI (8 + k) from nI_add 8 k, inbI (show 16 + k < 37 by omega) (by omega), inbI (show 8 + k < 37 by omega) (by omega), clI (show 16 + k < 2147483648 by omega), clI (show 8 + k < 2147483648 by omega)]
        by_cases g : hb (hrS A.1 A.2.1 q 32) k = true
        · rw [g] at g1
          rw [if_pos g, show X9_flag N 1 (wi σ2 149 1 0) = some 1 from rfl, Option.bind_some, show ((1 : Int32).toInt64) = b64 true from rfl, g1, Option.bind_some, h16, i1, if_pos rfl, Option.bind_some, h8', if_pos rfl]
        · have g' : hb (hrS A.1 A.2.1 q 32) k = false := by simpa using g
          rw [g'] at g1
          rw [if_neg g, show X9_flag N 0 (wi σ2 149 1 0) = some 0 from rfl, Option.bind_some, show ((0 : Int32).toInt64) = b64 false from rfl, g1, Option.bind_some, h16, i1, if_pos rfl, Option.bind_some, h8', if_pos rfl]
    · refine OpB.no hA (-1) (fun σ hσ => ?_) (fun σ hσ => ?_)
      · unfold X8_height
        rw [isThing_t N hσ.1.n.1 h8 hk, Option.bind_some, if_neg oneF]
        by_cases z : v < 0
        · rw [if_pos z]
        · rw [if_neg z, if_neg (show ¬ v ≤ 99 from fun y => h.elim z (fun u => absurd u (Int32.not_lt.mpr y)))]
      · have c1 := hσ.1.fr (thrown_f σ 0) (by decide)
        unfold X9_height
        simp only [bnS]
        rw [isThingR_t N c1.1 h8 hk, Option.bind_some, if_neg oneF, in01 N (hi := 99) (h64 := 99) rfl h, Option.bind_some, if_pos rfl]
  · refine OpB.no hA (-1) (fun σ hσ => ?_) (fun σ hσ => ?_)
    · unfold X8_height
      rw [isThing_f N hσ.1.n.1 hno, Option.bind_some, if_pos rfl]
    · have c1 := hσ.1.fr (thrown_f σ 0) (by decide)
      unfold X9_height
      simp only [bnS]
      rw [isThingR_f N c1.1 h8 hno, Option.bind_some, if_pos rfl]
