/-! ===== digs, hours, undo, forget, seen, keep, again ===== -/
theorem OpC.same {m : Sg → Option (Int32 × Sg)} {A : Ab} {v : Int32} (h : ∀ σ, InvC σ A → ∃ σ' l, m σ = some (v, σ') ∧ Fr l σ σ' ∧ (∀ x ∈ l, x ∉ inC) ∧ (∀ x ∈ l, x ∉ inR)) : OpC m A v A := by
  intro σ hσ
  obtain ⟨σ', l, a, b, c, d⟩ := h σ hσ
  exact ⟨σ', a, hσ.fr b c, fun B hB => hB.fr b d⟩
theorem OpR.same {m : Sg → Option (Int32 × Sg)} {A : Ab} {v : Int32} (h : ∀ σ, InvR σ A → ∃ σ' l, m σ = some (v, σ') ∧ Fr l σ σ' ∧ (∀ x ∈ l, x ∉ inR) ∧ (∀ x ∈ l, x ∉ inC)) : OpR m A v A := by
  intro σ hσ
  obtain ⟨σ', l, a, b, c, d⟩ := h σ hσ
  exact ⟨σ', a, hσ.fr b c, fun B hB => hB.fr b d⟩
theorem OpC.id {m : Sg → Option (Int32 × Sg)} {A : Ab} {v : Int32} (h : ∀ σ, InvC σ A → m σ = some (v, σ)) : OpC m A v A := OpC.same fun σ hσ => ⟨σ, [], h σ hσ, Fr.refl _ _, by simp, by simp⟩
theorem OpR.id {m : Sg → Option (Int32 × Sg)} {A : Ab} {v : Int32} (h : ∀ σ, InvR σ A → m σ = some (v, wi σ 149 0 0)) : OpR m A v A := OpR.same fun σ hσ => ⟨_, [3000], h σ hσ, thrown_f σ 0, by decide, by decide +kernel⟩
theorem OpB.no {m8 m9 : Sg → Option (Int32 × Sg)} {H : Nat} {A : Ab} (hA : OkA H A) (v : Int32) (h8 : ∀ σ, InvC σ A → m8 σ = some (v, σ)) (h9 : ∀ σ, InvR σ A → m9 σ = some (v, wi σ 149 0 0)) : OpB m8 m9 H A := ⟨v, A, OpC.id h8, OpR.id h9, hA.mono (by omega)⟩
theorem in01 (N : Nat) {v hi : Int32} {h64 : Int64} (eh : h64 = hi.toInt64) (h : v < 0 ∨ hi < v) (σ : Sg) : X9_in N v.toInt64 0 h64 σ = some 0 := by subst eh; exact in_f N (lo := 0) h σ
theorem in11 (N : Nat) {v hi : Int32} {h64 : Int64} (eh : h64 = hi.toInt64) (h1 : ¬ v < 0) (h2 : v ≤ hi) (σ : Sg) : X9_in N v.toInt64 0 h64 σ = some 1 := by subst eh; exact in_t N (lo := 0) (Int32.not_lt.mp h1) h2 σ
theorem drawCommit_c {N : Nat} (hN : 8 < N) {σ : Sg} {p : List (Nat → Int32)} (h : PaC σ p) (hp : p.length ≤ 15) : ∃ σ1 σ2, X1_draw N 19 σ = some σ1 ∧ X1_commit N σ1 = some σ2 ∧ PaC σ2 ((rC σ 19 :: p).take 15) ∧ Fr paL σ σ2 := by
  obtain ⟨x, h⟩ := h
  obtain ⟨σ1, d1, d2, d3, d4⟩ := draw_c hN h hp
  obtain ⟨σ2, e1, e2, e3⟩ := commit_c N d2 hp d3
  exact ⟨σ1, σ2, d1, e1, ⟨_, e2⟩, (d4.mono (by decide +kernel)).trans (e3.mono (by decide +kernel))⟩
theorem take_ok {n S H : Nat} {r : Nat → Int32} {p : List (Nat → Int32)} (hr : WF n S H r) (h : ∀ q ∈ p, WF n S H q) : ((r :: p).take 15).length ≤ 15 ∧ ∀ q ∈ (r :: p).take 15, WF n S H q := by
  refine ⟨by simp; omega, fun q hq => ?_⟩
  rcases List.mem_cons.mp (List.mem_of_mem_take hq) with z | z
  · subst z; exact hr
  · exact h q z
theorem stock_wf {n S H : Nat} {r : Nat → Int32} (h : WF n S H r) (x : Int32) : WF n S H (upd r 33 x) := by
  have h0 := h
  obtain ⟨w1, w2, w3, w4, w5, w6, w7, w8⟩ := h
  exact h0.upd3 (fun i hi => pk_un (by omega)) (pk_un (by omega)) (fun i hi => pk_un (by omega)) (fun i hi => by rw [pk_un (by omega), pk_un (by omega)]; exact w3 i hi) (fun i hi hx => by rw [pk_un (by omega)]; exact (w4 i hi hx).1) (fun i hi hi8 => by rw [pk_un (by omega), pk_un (by omega)]; exact ⟨(w5 i hi hi8).1, (w5 i hi hi8).2.2⟩) (by rw [pk_un (by omega)]; exact w7) (pk_un (by omega))
theorem digs_op {N : Nat} (hN : 555 < N) {H : Nat} {A : Ab} (hA : OkA H A) (v : Int32) : OpB (X8_digs N v) (X9_digs N v) H A := by
  obtain ⟨L, now, t, to, p, s, w⟩ := A
  obtain ⟨k1, k2, k3, ⟨k4, k4'⟩, k5, k6⟩ := hA
  dsimp only at k1 k2 k3 k4 k4' k5 k6
  by_cases h : v < 1 ∨ 99 < v
  · refine OpB.no ⟨k1, k2, k3, ⟨k4, k4'⟩, k5, k6⟩ (-1) (fun σ _ => ?_) (fun σ _ => ?_)
    · unfold X8_digs
      by_cases q : v < 1
      · rw [if_pos q]
      · rw [if_neg q, if_neg (fun z => h.elim q (fun y => absurd y (Int32.not_lt.mpr z)))]
    · unfold X9_digs
      simp only [bnS]
      rw [show (1 : Int64) = (1 : Int32).toInt64 from rfl, show (99 : Int64) = (99 : Int32).toInt64 from rfl, in_f N h, Option.bind_some, if_pos rfl]
  · have h1 : ¬ v < 1 := fun q => h (Or.inl q)
    have h2 : v ≤ 99 := Int32.not_lt.mp (fun q => h (Or.inr q))
    by_cases h3 : now 33 + v ≤ 99
    · refine ⟨now 33 + v, (L, upd now 33 (now 33 + v), t, to, (now :: p).take 15, s, w), ?_, ?_, ?_, k2, k3, take_ok (k1.mono (by omega)) (fun q hq => (k4' q hq).mono (by omega)), fun i r hi hr => (k5 i r hi hr).mono (by omega), k6⟩
      · rintro σ ⟨c1, c2, c3, c4, c5, c6, c7⟩
        dsimp only at c1 c2 c3 c4 c5 c6 c7
        obtain ⟨σ1, σ2, d1, d2, d3, d4⟩ := drawCommit_c (N := N) (by omega) c5 k4
        rw [c2] at d3
        have e5 : ∀ a, rC a 19 = now → gi a 19 5 = now 33 := fun a q => by rw [← q]; rfl
        have r2 : rC σ2 19 = now := (d4.row19 (by decide +kernel)).trans c2
        have f3 : Fr [19] σ2 (wi σ2 19 5 (now 33 + v)) := (Fr.refl _ _).wi (by simp [pl])
        refine ⟨wi σ2 19 5 (now 33 + v), ?_, ⟨(c1.fr d4 (by decide +kernel)).fr f3 (by decide), ?_, (c3.fr d4 (by decide +kernel)).fr f3 (by decide), (c4.fr d4 (by decide +kernel)).fr f3 (by decide), d3.fr f3 (by decide +kernel), (c6.fr d4 (by decide +kernel)).fr f3 (by decide +kernel), (c7.fr d4 (by decide +kernel)).fr f3 (by decide)⟩, fun B hB => (hB.fr d4 (by decide +kernel)).fr f3 (by decide)⟩
        · unfold X8_digs
          rw [if_neg h1, if_pos h2, e5 σ c2, if_pos h3, d1, Option.bind_some, d2, Option.bind_some, e5 σ2 r2]
          simp only [bnS]
          rw [giw, if_pos ⟨rfl, rfl⟩]
        · rw [rC_wf (by omega) (by omega), r2]
      · rintro σ ⟨c1, c2, c3, c4, c5, c6, c7⟩
        dsimp only at c1 c2 c3 c4 c5 c6 c7
        have f0 := thrown_f σ 0
        obtain ⟨σ1, d1, d2, d3, d4⟩ := putsBy_r (N := N) (by omega) (c5.fr f0 (by decide)) k4
        have f1 : Fr [3000, 161] σ σ1 := (f0.mono (by decide)).trans (d4.mono (by decide))
        have r0' : rR (wi σ 149 0 0) 153 = now := (rR_congr (f0.r (by simp [pl]))).trans c2
        have r1 : rR σ1 153 = now := (rR_congr (f1.r (by simp [pl]))).trans c2
        have e33 : ∀ a, rR a 153 = now → gi a 153 33 = now 33 := fun a q => by rw [← q]; rfl
        have f2' : Fr [153] σ1 (wi σ1 153 33 (now 33 + v)) := (Fr.refl _ _).wi (by simp [pl])
        have f2 : Fr [3000, 161, 153] σ (wi σ1 153 33 (now 33 + v)) := (f1.mono (by decide)).trans (f2'.mono (by decide))
        obtain ⟨σ3, g1, g2, g3⟩ := adds_r hN (d2.fr f2' (by decide)) k4 (show rW (wi σ1 153 33 (now 33 + v)) 161 p.length = now by rw [rW_congr (f2'.r (by simp [pl])), d3, r0']) (now 33 + v)
        have f3 : Fr [3000, 161, 153, 3023] σ σ3 := (f2.mono (by decide)).trans (g3.mono (by decide))
        refine ⟨σ3, ?_, ⟨c1.fr f3 (by decide), ?_, c3.fr f3 (by decide), c4.fr f3 (by decide), g2, c6.fr f3 (by decide), c7.fr f3 (by decide)⟩, fun B hB => hB.fr f3 (by decide +kernel)⟩
        · unfold X9_digs
          simp only [bnS]
          rw [show (1 : Int64) = (1 : Int32).toInt64 from rfl, show (99 : Int64) = (99 : Int32).toInt64 from rfl, in_t N (Int32.not_lt.mp h1) h2, Option.bind_some, if_neg oneF, if_pos i37_33, cl33, e33 _ r0', if_pos h3, d1, Option.bind_some, if_pos i37_33, if_pos i37_33, e33 _ r1, if_pos i37_33, giw, if_pos ⟨rfl, rfl⟩, g1]
          rfl
        · rw [rR_congr (g3.r (by simp [pl])), rR_w (by omega), r1]
      · exact (stock_wf k1 _).mono (by omega)
    · refine OpB.no ⟨k1, k2, k3, ⟨k4, k4'⟩, k5, k6⟩ (-3) (fun σ hσ => ?_) (fun σ hσ => ?_)
      · have e5 : gi σ 19 5 = now 33 := congrFun hσ.2.1 33
        unfold X8_digs
        rw [if_neg h1, if_pos h2, e5, if_neg h3]
      · have e33 : gi (wi σ 149 0 0) 153 33 = now 33 := by rw [gi_wi_ne (by omega)]; exact congrFun hσ.2.1 33
        unfold X9_digs
        simp only [bnS]
        rw [show (1 : Int64) = (1 : Int32).toInt64 from rfl, show (99 : Int64) = (99 : Int32).toInt64 from rfl, in_t N (Int32.not_lt.mp h1) h2, Option.bind_some, if_neg oneF, if_pos i37_33, cl33, e33, if_neg h3]
/-- a number from 0 to m, or none -/
theorem upto (m : Nat) (hm : m + 1 < 2147483648) (v : Int32) : (∃ q, q ≤ m ∧ v = nI q) ∨ (v < 0 ∨ nI m < v) := by
  rcases pk_ix v (show m + 1 < 2 ^ 31 from hm) with h | h | ⟨j, hj, h⟩
  · exact Or.inr (Or.inl h)
  · exact Or.inr (Or.inr (Int32.lt_of_lt_of_le (nI_lt (by omega) hm) h))
  · exact Or.inl ⟨j, by omega, h⟩
def hereS (L : Ld) (r : Nat → Int32) : Int32 := allI L.1 &&& (r 32 ^^^ (-1))
theorem present_c (N : Nat) {k1 : Nat} {σ : Sg} {L : Ld} (hn : gi σ 5 1 = nI L.1) : X0_present N k1 σ = some (hereS L (rC σ k1)) := by
  unfold X0_present X0_everything
  rw [hn]; rfl
theorem here_r (N : Nat) {k1 : Nat} {σ : Sg} {L : Ld} (hn : gi σ 149 3 = nI L.1) : X9_here N k1 σ = some (hereS L (rR σ k1)) := by
  unfold X9_here X9_all
  rw [hn, Option.bind_some, if_pos i37_32, cl32]; rfl
theorem gone_diff {L : Ld} {r : Nat → Int32} {S H : Nat} (hS9 : S ≤ 10) (hW : WF L.1 S H r) (q : Nat) : popI (hrS L r q 32) - popI (r 32) = nI (gcS L r q) := by
  have h8 := hW.1.2.2.2.2
  have g1 : ∀ i, 8 ≤ i → hb (hrS L r q 32) i = false := fun i hi => (hrS_wf hS9 hW q).1.2.2.2.1 i (by omega)
  have g0 : ∀ i, 8 ≤ i → hb (r 32) i = false := fun i hi => hW.1.2.2.2.1 i (by omega)
  rw [popI_eq g1, popI_eq g0, gone_count hW, pk_sub (by omega)]
  congr 1
  omega
theorem hours_op {N : Nat} (hN : 555 < N) {H : Nat} {A : Ab} (hA : OkA H A) (hH : H < 1000000) (v : Int32) : OpB (X8_hours N v) (X9_hours N v) H A := by
  obtain ⟨L, now, t, to, p, s, w⟩ := A
  obtain ⟨k1, k2, k3, ⟨k4, k4'⟩, k5, k6⟩ := hA
  dsimp only at k1 k2 k3 k4 k4' k5 k6
  rcases upto 60 (by omega) v with ⟨q, hq, rfl⟩ | h
  · refine ⟨hereS L (hrS L now q), (L, hrS L now q, t, [(nI (gcS L now q)).toInt64, (lsS L now q).toInt64], (now :: p).take 15, s, w), ?_, ?_, (hrS_wf (by omega) k1 q).mono (by omega), k2, (by show 2 ≤ 10; omega), take_ok (k1.mono (by omega)) (fun q hq => (k4' q hq).mono (by omega)), fun i r hi hr => (k5 i r hi hr).mono (by omega), k6⟩
    · rintro σ ⟨c1, c2, c3, c4, c5, c6, c7⟩
      dsimp only at c1 c2 c3 c4 c5 c6 c7
      obtain ⟨σ1, σ2, d1, d2, d3, d4⟩ := drawCommit_c (N := N) (by omega) c5 k4
      rw [c2] at d3
      have r2 : rC σ2 19 = now := (d4.row19 (by decide +kernel)).trans c2
      obtain ⟨kk, m1, m2, m3⟩ := c1.fr d4 (by decide +kernel)
      obtain ⟨σ3, e1, e2, e3⟩ := passHours_c (N := N) (by omega) (Or.inl rfl) m3 m1 (S := 9) (H := H) (by omega) (by rw [r2]; exact k1) (show q ≤ 99 by omega) (by omega)
      rw [r2] at e1 e2
      obtain ⟨σ4, g1, g2, g3⟩ := tell2_c N (nI (gcS L now q)).toInt64 (lsS L now q).toInt64 σ3
      have f34 : Fr (HK 19 ++ [3, 4]) σ2 σ4 := (e3.mono (by decide)).trans (g3.mono (by decide))
      have c1' := (c1.fr d4 (by decide +kernel)).fr f34 (by decide +kernel)
      have r4 : rC σ4 19 = hrS L now q := (g3.row19 (by decide)).trans e2
      refine ⟨σ4, ?_, ⟨c1', r4, (c3.fr d4 (by decide +kernel)).fr f34 (by decide), g2, d3.fr f34 (by decide +kernel), (c6.fr d4 (by decide +kernel)).fr f34 (by decide +kernel), (c7.fr d4 (by decide +kernel)).fr f34 (by decide)⟩, fun B hB => (hB.fr d4 (by decide +kernel)).fr f34 (by decide +kernel)⟩
      unfold X8_hours
      rw [if_neg (nI_pos (by omega)), if_pos (show nI q ≤ 60 from nI_le (b := 60) hq (by decide)), d1, Option.bind_some, d2, Option.bind_some, bitCount_eq, Option.bind_some, e1, Option.bind_some, bitCount_eq, Option.bind_some, show gi σ3 19 4 = hrS L now q 32 by rw [← e2]; rfl, show gi σ2 19 4 = now 32 by rw [← r2]; rfl, gone_diff (by omega) k1, g1, Option.bind_some, present_c N c1'.n.1, Option.bind_some, r4]
    · rintro σ ⟨c1, c2, c3, c4, c5, c6, c7⟩
      dsimp only at c1 c2 c3 c4 c5 c6 c7
      have f0 := thrown_f σ 0
      obtain ⟨σ1, d1, d2, d3, d4⟩ := putsBy_r (N := N) (by omega) (c5.fr f0 (by decide)) k4
      have f1 : Fr [3000, 161] σ σ1 := (f0.mono (by decide)).trans (d4.mono (by decide))
      have r0' : rR (wi σ 149 0 0) 153 = now := (rR_congr (f0.r (by simp [pl]))).trans c2
      have r1 : rR σ1 153 = now := (rR_congr (f1.r (by simp [pl]))).trans c2
      obtain ⟨σ2, e1, e2, e3, e4, e5⟩ := goesOn_r (N := N) (by omega) (Or.inl rfl) (c1.fr f1 (by decide)) (S := 9) (H := H) (by omega) (by rw [r1]; exact k1) (show q ≤ 99 by omega) (by omega)
      rw [r1] at e2 e3 e4
      have t0 := told0_r σ2
      have tf := told0_f σ2
      obtain ⟨σ4, g1, g2, g3⟩ := enters_r N t0 (by decide) (nI (gcS L now q)).toInt64
      obtain ⟨σ5, i1, i2, i3⟩ := enters_r N g2 (by simp) (lsS L now q).toInt64
      have f25 : Fr [3001, 150] σ2 σ5 := (tf.trans g3).trans i3
      have f15 : Fr (HR' 153 ++ [3001, 150]) σ1 σ5 := (e5.mono (by decide)).trans (f25.mono (by decide))
      obtain ⟨σ6, j1, j2, j3⟩ := adds_r hN (d2.fr f15 (by decide)) k4 (show rW σ5 161 p.length = now by rw [rW_congr (f15.r (by intro j; simp [pl, HR'])), d3, r0']) (hereS L (hrS L now q))
      have f6 : Fr [3000, 161, 159, 160, 153, 3025, 3026, 3001, 150, 3023] σ σ6 := ((f1.mono (by decide)).trans (f15.mono (by decide))).trans (j3.mono (by decide))
      have r6 : rR σ6 153 = hrS L now q := by rw [rR_congr (j3.r (by simp [pl])), rR_congr (f25.r (by simp [pl])), e2]
      have r5 : rR σ5 153 = hrS L now q := by rw [rR_congr (f25.r (by simp [pl])), e2]
      refine ⟨σ6, ?_, ⟨c1.fr f6 (by decide), r6, c3.fr f6 (by decide), i2.fr j3 (by decide), j2, c6.fr f6 (by decide), c7.fr f6 (by decide)⟩, fun B hB => hB.fr f6 (by decide +kernel)⟩
      have n5 : gi σ5 149 3 = nI L.1 := (f15.g (k := 149) (j := 3) (by decide)).trans ((f1.g (k := 149) (j := 3) (by decide)).trans c1.1)
      unfold X9_hours
      simp only [bnS]
      rw [in11 N (hi := 60) (h64 := 60) rfl (nI_pos (by omega)) (nI_le (b := 60) hq (by decide)), Option.bind_some, if_neg oneF, d1, Option.bind_some, e1, Option.bind_some, (tf.g (k := 149) (j := 25) (by decide)).trans e3, g1, Option.bind_some, ((tf.trans g3).g (k := 149) (j := 26) (by decide)).trans e4, i1, Option.bind_some, here_r N n5, Option.bind_some, r5, j1]
      rfl
  · refine OpB.no ⟨k1, k2, k3, ⟨k4, k4'⟩, k5, k6⟩ (-1) (fun σ _ => ?_) (fun σ _ => ?_)
    · unfold X8_hours
      by_cases z : v < 0
      · rw [if_pos z]
      · rw [if_neg z, if_neg (show ¬ v ≤ 60 from fun y => h.elim z (fun u => absurd u (Int32.not_lt.mpr y)))]
    · unfold X9_hours
      simp only [bnS]
      rw [in01 N (hi := 60) (h64 := 60) rfl h, Option.bind_some, if_pos rfl]
theorem undo_op {N : Nat} (hN : 555 < N) {H : Nat} {A : Ab} (hA : OkA H A) : OpB (X8_undo N) (X9_undo N) H A := by
  obtain ⟨L, now, t, to, p, s, w⟩ := A
  have hA0 := hA
  obtain ⟨k1, k2, k3, ⟨k4, k4'⟩, k5, k6⟩ := hA
  dsimp only at k1 k2 k3 k4 k4' k5 k6
  cases p with
  | nil =>
    refine OpB.no hA0 (-1) (fun σ hσ => ?_) (fun σ hσ => ?_)
    · obtain ⟨x, hx⟩ := hσ.2.2.2.2.1
      unfold X8_undo X1_bringBack
      rw [show gi σ 29 2 = 0 from hx.2.2.1, if_pos rfl]; rfl
    · unfold X9_undo
      simp only [bnS]
      rw [show gi (wi σ 149 0 0) 149 23 = 0 by rw [giw, if_neg (by omega)]; exact hσ.2.2.2.2.1.1, if_pos rfl]
  | cons r p =>
    have hp : p.length ≤ 14 := by simp at k4; omega
    refine ⟨nI p.length, (L, r, t, to, p, s, w), ?_, ?_, (k4' r (List.mem_cons_self)).mono (by omega), k2, k3, ⟨by show p.length ≤ 15; omega, fun q hq => (k4' q (List.mem_cons_of_mem _ hq)).mono (by omega)⟩, fun i r hi hr => (k5 i r hi hr).mono (by omega), k6⟩
    · rintro σ ⟨c1, c2, c3, c4, ⟨x, c5⟩, c6, c7⟩
      dsimp only at c1 c2 c3 c4 c5 c6 c7
      obtain ⟨σ', e1, e2, e3, e4⟩ := bringBack_c (N := N) (by omega) c5 hp
      refine ⟨σ', ?_, ⟨c1.fr e4 (by decide), e3, c3.fr e4 (by decide), c4.fr e4 (by decide), ⟨_, e2⟩, c6.fr e4 (by decide +kernel), c7.fr e4 (by decide)⟩, fun B hB => hB.fr e4 (by decide)⟩
      unfold X8_undo
      rw [e1]; rfl
    · rintro σ ⟨c1, c2, c3, c4, c5, c6, c7⟩
      dsimp only at c1 c2 c3 c4 c5 c6 c7
      obtain ⟨σ', e1, e2, e3, e4⟩ := undo_r (N := N) (by omega) c5 hp
      exact ⟨σ', e1, ⟨c1.fr e4 (by decide), e3, c3.fr e4 (by decide), c4.fr e4 (by decide), e2, c6.fr e4 (by decide), c7.fr e4 (by decide)⟩, fun B hB => hB.fr e4 (by decide +kernel)⟩
theorem forget_op (N : Nat) {H : Nat} {A : Ab} (hA : OkA H A) : OpB (X8_forget N) (X9_forget N) H A := by
  obtain ⟨L, now, t, to, p, s, w⟩ := A
  obtain ⟨k1, k2, k3, ⟨k4, k4'⟩, k5, k6⟩ := hA
  dsimp only at k1 k2 k3 k4 k4' k5 k6
  refine ⟨nI w.length, (L, now, t, to, p, s, []), ?_, ?_, k1.mono (by omega), k2, k3, ⟨k4, fun q hq => (k4' q hq).mono (by omega)⟩, fun i r hi hr => (k5 i r hi hr).mono (by omega), by simp⟩
  · rintro σ ⟨c1, c2, c3, c4, c5, c6, c7⟩
    dsimp only at c1 c2 c3 c4 c5 c6 c7
    have f : Fr [4003] σ (wi σ 128 3 0) := (Fr.refl _ _).wi (by simp [pl])
    refine ⟨wi σ 128 3 0, ?_, ⟨c1.fr f (by decide), (f.row19 (by decide)).trans c2, c3.fr f (by decide), c4.fr f (by decide), c5.fr f (by decide +kernel), c6.fr f (by decide +kernel), ⟨?_, fun i hi => absurd hi (Nat.not_lt_zero _)⟩⟩, fun B hB => hB.fr f (by decide)⟩
    · unfold X8_forget
      simp only [bnS]
      rw [c7.1]
    · rw [giw, if_pos ⟨rfl, rfl⟩]; rfl
  · rintro σ ⟨c1, c2, c3, c4, c5, c6, c7⟩
    dsimp only at c1 c2 c3 c4 c5 c6 c7
    have f : Fr [3000, 3035] σ (wi (wi σ 149 0 0) 149 35 0) := ((Fr.refl _ _).wi (by simp [pl])).wi (by simp [pl])
    refine ⟨wi (wi σ 149 0 0) 149 35 0, ?_, ⟨c1.fr f (by decide), (rR_congr (f.r (by simp [pl]))).trans c2, c3.fr f (by decide), c4.fr f (by decide), c5.fr f (by decide), c6.fr f (by decide), ⟨?_, fun i hi => absurd hi (Nat.not_lt_zero _)⟩⟩, fun B hB => hB.fr f (by decide +kernel)⟩
    · unfold X9_forget
      simp only [bnS]
      rw [giw, if_neg (by omega), c7.1]
    · rw [giw, if_pos ⟨rfl, rfl⟩]; rfl
