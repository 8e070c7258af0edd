/-! ===== serves: requests read ===== -/
def rqP (t : List Nat) : Nat → Bool := fun i => decide (i < 40) && (if i % 5 = 1 then !decide (dgI (t.getD i 0) < dgI (t.getD (i - 1) 0)) else if i % 5 = 2 then !decide (dgI (t.getD i 0) ≤ 0) else if i % 5 = 4 then decide (t.getD i 0 = 59) else isD (t.getD i 0))
theorem neg1_lt : (-1 : Int32) < 0 := by decide
theorem giw_s (σ : Sg) (k j : Nat) (x : Int32) : gi (wi σ k j x) k j = x := by rw [giw, if_pos ⟨rfl, rfl⟩]
theorem canStand_c (N : Nat) {σ : Sg} {t : List Nat} (h : TxC σ t) (hl : t.length ≤ 80) (hx : ∀ x ∈ t, x < 256) {i : Nat} (hi : i < t.length) : X8_canStandInRequest N (nI i) σ = some (if rqP t i = true then 1 else 0) := by
  have e5 : nI i / 5 = nI (i / 5) := pk_div (d := 5) (by omega) (by omega) (by omega)
  have e6 : nI i - nI (i / 5) * 5 = nI (i % 5) := by rw [← e5]; exact pk_rem (d := 5) (by omega) (by omega) (by omega)
  have j107 : X8_canStandInRequest_j107 N (nI i) σ = some (if isD (t.getD i 0) = true then 1 else 0) := by
    rw [X8_canStandInRequest_j107, dig_c N h hl hx hi, Option.bind_some]
    cases hd : isD (t.getD i 0)
    · rw [dgI_neg hd, if_pos neg1_lt]; rfl
    · rw [(dgI_pos hd).1, if_neg (nI_pos (by have := (dgI_pos hd).2.1; omega))]; rfl
  unfold X8_canStandInRequest rqP
  rw [e5, e6]
  by_cases h40 : i < 40
  · rw [if_pos (show nI (i / 5) < 8 from nI_lt (b := 8) (by omega) (by decide)), decide_eq_true h40, Bool.true_and]
    have h5 : i % 5 = 0 ∨ i % 5 = 1 ∨ i % 5 = 2 ∨ i % 5 = 3 ∨ i % 5 = 4 := by omega
    rcases h5 with z | z | z | z | z
    · rw [z, if_neg (show ¬ nI 0 = 1 by decide), if_neg (show ¬ nI 0 = 2 by decide), if_neg (show ¬ nI 0 = 3 by decide), if_neg (show ¬ nI 0 = 4 by decide), j107]; rfl
    · have ei : nI i - 1 = nI (i - 1) := pk_sub (b := 1) (by omega)
      rw [z, if_pos (show nI 1 = 1 from rfl), if_pos (show 1 = 1 from rfl), dig_c N h hl hx hi, Option.bind_some, ei, dig_c N h hl hx (by omega), Option.bind_some]
      by_cases y : dgI (t.getD i 0) < dgI (t.getD (i - 1) 0)
      · rw [if_pos y, decide_eq_true y]; rfl
      · rw [if_neg y, decide_eq_false y]; rfl
    · rw [z, if_neg (show ¬ nI 2 = 1 by decide), if_pos (show nI 2 = 2 from rfl), if_neg (show ¬ 2 = 1 by decide), if_pos (show 2 = 2 from rfl), dig_c N h hl hx hi, Option.bind_some]
      by_cases y : dgI (t.getD i 0) ≤ 0
      · rw [if_pos y, decide_eq_true y]; rfl
      · rw [if_neg y, decide_eq_false y]; rfl
    · rw [z, if_neg (show ¬ nI 3 = 1 by decide), if_neg (show ¬ nI 3 = 2 by decide), if_pos (show nI 3 = 3 from rfl), j107]; rfl
    · rw [z, if_neg (show ¬ nI 4 = 1 by decide), if_neg (show ¬ nI 4 = 2 by decide), if_neg (show ¬ nI 4 = 3 by decide), if_pos (show nI 4 = 4 from rfl), if_neg (show ¬ 4 = 1 by decide), if_neg (show ¬ 4 = 2 by decide), if_pos (show 4 = 4 from rfl), at_c N h hl hx hi, Option.bind_some]
      by_cases y : t.getD i 0 = 59
      · rw [if_pos ((e59 _ (get256 hx i)).mpr y), decide_eq_true y]; rfl
      · rw [if_neg (fun u => y ((e59 _ (get256 hx i)).mp u)), decide_eq_false y]; rfl
  · rw [if_neg (show ¬ nI (i / 5) < 8 from nI_nlt (b := 8) (show 8 ≤ i / 5 by omega) (by omega)), decide_eq_false h40]; rfl
theorem faultR {N : Nat} (hN : 100 < N) {σ : Sg} {t : List Nat} (h : TxC σ t) (hl : t.length ≤ 80) (hx : ∀ x ∈ t, x < 256) {q : Nat} (q1 : q ≤ t.length) (q2 : ∀ i, i < q → rqP t i = true) (q3 : q < t.length → rqP t q = false) : X8_faultOfRequests N σ = some (if q < t.length ∨ q % 5 ≠ 4 then nI q else -1) := by
  unfold X8_faultOfRequests
  refine forL0 (L := fun m i (_ : Unit) => X8_faultOfRequests_l2 N (X8_faultOfRequests_j29 N σ) σ m (nI i)) (m := q) (a := ()) (fun i _ => i ≤ q) (o := fun x => x = some (if q < t.length ∨ q % 5 ≠ 4 then nI q else -1)) (by omega) (by omega) ?_ ?_
  · intro m i a hi hI
    left
    refine ⟨(), by omega, ?_⟩
    rw [X8_faultOfRequests_l2, h.1, if_neg (nI_ge (by omega) (by omega)), canStand_c N h hl hx (by omega), Option.bind_some, q2 i hi, if_pos rfl, if_neg oneF, nI1]
  · intro m a _
    by_cases z : q < t.length
    · rw [X8_faultOfRequests_l2, h.1, if_neg (nI_ge (by omega) (by omega)), canStand_c N h hl hx z, Option.bind_some, q3 z, if_neg (show ¬ false = true by decide), if_pos rfl, if_pos (Or.inl z)]
    · have e : q = t.length := by omega
      rw [X8_faultOfRequests_l2, h.1, if_pos (nI_le (by omega) (by omega)), X8_faultOfRequests_j29, h.1, show nI t.length - nI t.length / 5 * 5 = nI (t.length % 5) from pk_rem (d := 5) (by omega) (by omega) (by omega), ← e]
      by_cases y : q % 5 = 4
      · rw [y, if_pos (by decide), if_neg (by omega)]
      · rw [if_neg (show ¬ nI (q % 5) = 4 from fun u => y ((nI_eq (b := 4) (by omega) (by decide)).mp u)), if_pos (Or.inr y)]
/-- what was read of the first c requests -/
def rdQ (t : List Nat) (a : Sg) (c : Nat) : Prop := ∀ j l, j < c → l < 4 → gi a 156 (4 * j + l) = nI (t.getD (5 * j + l) 0 - 48)
theorem rq119 (N : Nat) {c : Nat} (hc : c < 8) (s0 : Int32) (σ : Sg) : ∃ σ', X9_readsRequest_j119 N (nI (4 * c)) s0 (nI (4 * c) + 3) σ = some (if s0 < 0 then 0 else 1, σ') ∧ gi σ' 149 16 = gi σ 149 16 + 1 ∧ gi σ' 156 (4 * c + 3) = s0 ∧ (∀ i, i ≠ 4 * c + 3 → gi σ' 156 i = gi σ 156 i) ∧ Fr [156, 3016] σ σ' := by
  have e : nI (4 * c) + 3 = nI (4 * c + 3) := nI_add (4 * c) 3
  refine ⟨wi (wi σ 156 (4 * c + 3) s0) 149 16 (gi (wi σ 156 (4 * c + 3) s0) 149 16 + 1), ?_, ?_, ?_, ?_, ((Fr.refl _ _).wi (by simp [pl])).wi (by decide)⟩
  · unfold X9_readsRequest_j119
    rw [e, inbI (show 4 * c + 3 < 48 by omega) (by omega), if_pos rfl, clI (by omega)]
    simp only [bnS]
    rw [if_pos trivial, gi_wi_ne (show (156 : Nat) ≠ 149 by omega), giw_s]
    by_cases z : s0 < 0
    · rw [if_pos z, if_pos z]
    · rw [if_neg z, if_neg z]
  · rw [giw, if_pos ⟨rfl, rfl⟩, gi_wi_ne (show (149 : Nat) ≠ 156 by omega)]
  · rw [gi_wi_ne (show (156 : Nat) ≠ 149 by omega), giw, if_pos ⟨rfl, rfl⟩]
  · intro i hi
    rw [gi_wi_ne (show (156 : Nat) ≠ 149 by omega), giw, if_neg (fun u => hi u.2)]
theorem rq91 (N : Nat) {c : Nat} (hc : c < 8) (σ : Sg) : ∃ σ', X9_readsRequest_j91 N (nI (4 * c)) (-1) (nI (4 * c) + 2) σ = some (0, σ') ∧ gi σ' 149 16 = gi σ 149 16 + 1 ∧ (∀ i, i < 4 * c → gi σ' 156 i = gi σ 156 i) ∧ Fr [156, 3016] σ σ' := by
  have e : nI (4 * c) + 2 = nI (4 * c + 2) := nI_add (4 * c) 2
  obtain ⟨σ', a1, a2, a3, a4, a5⟩ := rq119 N hc (-1) (wi σ 156 (4 * c + 2) (-1))
  rw [if_pos neg1_lt] at a1
  refine ⟨σ', ?_, by rw [a2, gi_wi_ne (show (149 : Nat) ≠ 156 by omega)], fun i hi => by rw [a4 i (by omega), giw, if_neg (by omega)], ((Fr.refl _ _).wi (by simp [pl])).trans a5⟩
  unfold X9_readsRequest_j91
  rw [e, inbI (show 4 * c + 2 < 48 by omega) (by omega), if_pos rfl, clI (by omega)]
  simp only [bnS]
  rw [if_pos trivial, giw_s, if_neg (by decide)]
  exact a1
theorem rq61 (N : Nat) {c : Nat} (hc : c < 8) (σ : Sg) : ∃ σ', X9_readsRequest_j61 N (nI (4 * c)) (-1) (nI (4 * c) + 1) σ = some (0, σ') ∧ gi σ' 149 16 = gi σ 149 16 + 1 ∧ (∀ i, i < 4 * c → gi σ' 156 i = gi σ 156 i) ∧ Fr [156, 3016] σ σ' := by
  have e : nI (4 * c) + 1 = nI (4 * c + 1) := nI_add (4 * c) 1
  obtain ⟨σ', a1, a2, a3, a4⟩ := rq91 N hc (wi σ 156 (4 * c + 1) (-1))
  refine ⟨σ', ?_, by rw [a2, gi_wi_ne (show (149 : Nat) ≠ 156 by omega)], fun i hi => by rw [a3 i (by omega), giw, if_neg (by omega)], ((Fr.refl _ _).wi (by simp [pl])).trans a4⟩
  unfold X9_readsRequest_j61
  rw [e, inbI (show 4 * c + 1 < 48 by omega) (by omega), if_pos rfl, clI (by omega)]
  simp only [bnS]
  rw [if_pos trivial, giw_s, if_neg (by decide)]
  exact a1
theorem number1_no {N : Nat} {σ : Sg} {t : List Nat} {m q : Nat} (h : RdR σ t m q) (hl : t.length ≤ 80) (hx : ∀ x ∈ t, x < 256) (hq : q < 2147483648) (hd : q < m → wdP t q = false) : X9_number N 1 σ = some (-1, σ) := by
  unfold X9_number
  rw [isDigit_r _ h hl hx hq, if_neg (fun u => by have := hd u.1; rw [u.2] at this; exact Bool.noConfusion this), Option.bind_some, if_pos rfl]
theorem dgs_256 : ∀ x, x < 256 → isD x = true → nI x - 48 = nI (x - 48) ∧ nI (x - 48) ≤ 9 := by decide +kernel
theorem dgs_256' : ∀ x, x < 256 → isD x = false → (nI x - 48 < 0 ∨ 9 < nI x - 48) := by decide +kernel
theorem rqP_at {t : List Nat} {c l : Nat} (hl : l < 5) (hc : c < 8) : rqP t (5 * c + l) = (if l = 1 then !decide (dgI (t.getD (5 * c + 1) 0) < dgI (t.getD (5 * c) 0)) else if l = 2 then !decide (dgI (t.getD (5 * c + 2) 0) ≤ 0) else if l = 4 then decide (t.getD (5 * c + 4) 0 = 59) else isD (t.getD (5 * c + l) 0)) := by
  unfold rqP
  rw [decide_eq_true (show 5 * c + l < 40 by omega), Bool.true_and, show (5 * c + l) % 5 = l by omega]
  by_cases h1 : l = 1
  · subst h1; rw [if_pos rfl, if_pos rfl, show 5 * c + 1 - 1 = 5 * c by omega]
  · rw [if_neg h1, if_neg h1]
    by_cases h2 : l = 2
    · subst h2; rw [if_pos rfl, if_pos rfl]
    · rw [if_neg h2, if_neg h2]
      by_cases h4 : l = 4
      · subst h4; rw [if_pos rfl]
      · rw [if_neg h4, if_neg h4]
theorem reqs_r {N : Nat} (hN : 2 < N) {a : Sg} {t : List Nat} (hl : t.length ≤ 80) (hx : ∀ x ∈ t, x < 256) {c : Nat} (hc : c < 8) (h : RdR a t t.length (5 * c)) (hn : gi a 149 16 = nI c) (hr : rdQ t a c) {q : Nat} (q1 : q ≤ t.length) (q2 : ∀ i, i < q → rqP t i = true) (q3 : q < t.length → rqP t q = false) (hq : 5 * c ≤ q) :
    ∃ a', X9_readsRequest N a = some (if 5 * c + 4 ≤ q then 1 else 0, a') ∧ RdR a' t t.length (min q (5 * c + 4)) ∧ gi a' 149 16 = nI (c + 1) ∧ (5 * c + 4 ≤ q → rdQ t a' (c + 1)) ∧ Fr [3012, 156, 3016] a a' := by
  have h4 : 4 * nI c = nI (4 * c) := pk_mul 4 c
  have keep : ∀ (b : Sg), (∀ i, i < 4 * c → gi b 156 i = gi a 156 i) → rdQ t b c := fun b hb1 j l hj hl4 => by rw [hb1 _ (by omega)]; exact hr j l hj hl4
  have fq : ∀ l, l < 4 → q = 5 * c + l → q < t.length → rqP t (5 * c + l) = false := fun l hl4 e hlt => by rw [← e]; exact q3 hlt
  have tq : ∀ l, 5 * c + l < q → rqP t (5 * c + l) = true := fun l h => q2 _ h
  unfold X9_readsRequest
  rw [hn, if_neg (fun u => by have := (nI_eq (b := 8) (by omega) (by decide)).mp u; omega), h4]
  by_cases z0 : 5 * c < q
  · have p0 : isD (t.getD (5 * c) 0) = true := by have := tq 0 z0; rw [rqP_at (by omega) hc] at this; simpa using this
    have d0 := dgI_pos p0
    rw [number1_r hN h hl hx (by omega) p0, Option.bind_some, inbI (show 4 * c < 48 by omega) (by omega), if_pos rfl, clI (by omega)]
    simp only [bnS]
    have R1 : RdR (wi (wi a 149 12 (nI (5 * c) + 1)) 156 (4 * c) (nI (t.getD (5 * c) 0 - 48))) t t.length (5 * c + 1) := h.next.fr (l := [156]) ((Fr.refl _ _).wi (by simp [pl])) (by decide)
    have F1 : Fr [3012, 156, 3016] a (wi (wi a 149 12 (nI (5 * c) + 1)) 156 (4 * c) (nI (t.getD (5 * c) 0 - 48))) := ((Fr.refl _ _).wi (by decide)).wi (by simp [pl])
    have G1 : gi (wi (wi a 149 12 (nI (5 * c) + 1)) 156 (4 * c) (nI (t.getD (5 * c) 0 - 48))) 156 (4 * c) = nI (t.getD (5 * c) 0 - 48) := by rw [giw, if_pos ⟨rfl, rfl⟩]
    have K1 : ∀ i, i ≠ 4 * c → gi (wi (wi a 149 12 (nI (5 * c) + 1)) 156 (4 * c) (nI (t.getD (5 * c) 0 - 48))) 156 i = gi a 156 i := fun i hi => by rw [giw, if_neg (fun u => hi u.2), gi_wi_ne (by omega)]
    have C1 : gi (wi (wi a 149 12 (nI (5 * c) + 1)) 156 (4 * c) (nI (t.getD (5 * c) 0 - 48))) 149 16 = nI c := by rw [gi_wi_ne (by omega), giw, if_neg (by omega)]; exact hn
    generalize wi (wi a 149 12 (nI (5 * c) + 1)) 156 (4 * c) (nI (t.getD (5 * c) 0 - 48)) = b at *
    rw [if_pos trivial, G1, if_pos (nI_pos' (by omega)), if_pos trivial]
    have e1 : nI (4 * c) + 1 = nI (4 * c + 1) := nI_add (4 * c) 1
    by_cases z1 : 5 * c + 1 < q
    · have p1 := tq 1 z1
      rw [rqP_at (by omega) hc, if_pos rfl] at p1
      simp only [Bool.not_eq_true', decide_eq_false_iff_not] at p1
      have i1 : isD (t.getD (5 * c + 1) 0) = true := by
        cases hd : isD (t.getD (5 * c + 1) 0)
        · rw [dgI_neg hd, d0.1] at p1
          exact absurd (Int32.lt_of_lt_of_le neg1_lt (nI_pos' (by omega))) p1
        · rfl
      have d1 := dgI_pos i1
      rw [d0.1, d1.1] at p1
      have s1 := dgs_256 _ (get256 hx (5 * c + 1)) i1
      rw [digitIn_yes N R1 hl (by omega) (by rw [s1.1]; exact Int32.not_lt.mp p1) (by rw [s1.1]; exact s1.2), Option.bind_some, s1.1]
      unfold X9_readsRequest_j61
      rw [e1, inbI (show 4 * c + 1 < 48 by omega) (by omega), if_pos rfl, clI (by omega)]
      simp only [bnS]
      have R2 : RdR (wi (wi b 149 12 (nI (5 * c + 1) + 1)) 156 (4 * c + 1) (nI (t.getD (5 * c + 1) 0 - 48))) t t.length (5 * c + 2) := R1.next.fr (l := [156]) ((Fr.refl _ _).wi (by simp [pl])) (by decide)
      have F2 : Fr [3012, 156, 3016] a (wi (wi b 149 12 (nI (5 * c + 1) + 1)) 156 (4 * c + 1) (nI (t.getD (5 * c + 1) 0 - 48))) := (F1.wi (by decide)).wi (by simp [pl])
      have G2 : gi (wi (wi b 149 12 (nI (5 * c + 1) + 1)) 156 (4 * c + 1) (nI (t.getD (5 * c + 1) 0 - 48))) 156 (4 * c + 1) = nI (t.getD (5 * c + 1) 0 - 48) := by rw [giw, if_pos ⟨rfl, rfl⟩]
      have K2 : ∀ i, i ≠ 4 * c + 1 → gi (wi (wi b 149 12 (nI (5 * c + 1) + 1)) 156 (4 * c + 1) (nI (t.getD (5 * c + 1) 0 - 48))) 156 i = gi b 156 i := fun i hi => by rw [giw, if_neg (fun u => hi u.2), gi_wi_ne (by omega)]
      have C2 : gi (wi (wi b 149 12 (nI (5 * c + 1) + 1)) 156 (4 * c + 1) (nI (t.getD (5 * c + 1) 0 - 48))) 149 16 = nI c := by rw [gi_wi_ne (by omega), giw, if_neg (by omega)]; exact C1
      generalize wi (wi b 149 12 (nI (5 * c + 1) + 1)) 156 (4 * c + 1) (nI (t.getD (5 * c + 1) 0 - 48)) = b2 at *
      rw [if_pos trivial, G2, if_pos (nI_pos' (by omega))]
      have e2 : nI (4 * c) + 2 = nI (4 * c + 2) := nI_add (4 * c) 2
      by_cases z2 : 5 * c + 2 < q
      · have p2 := tq 2 z2
        rw [rqP_at (by omega) hc, if_neg (by decide), if_pos rfl] at p2
        simp only [Bool.not_eq_true', decide_eq_false_iff_not] at p2
        have i2 : 49 ≤ t.getD (5 * c + 2) 0 ∧ t.getD (5 * c + 2) 0 ≤ 57 := Decidable.byContradiction (fun u => p2 ((dg_1 _ (get256 hx _)).mpr u))
        have s2 := dg_in _ (get256 hx (5 * c + 2)) i2
        rw [digitIn_yes N R2 hl (by omega) s2.1 s2.2.1, Option.bind_some, s2.2.2.1]
        unfold X9_readsRequest_j91
        rw [e2, inbI (show 4 * c + 2 < 48 by omega) (by omega), if_pos rfl, clI (by omega)]
        simp only [bnS]
        have R3 : RdR (wi (wi b2 149 12 (nI (5 * c + 2) + 1)) 156 (4 * c + 2) (nI (t.getD (5 * c + 2) 0 - 48))) t t.length (5 * c + 3) := R2.next.fr (l := [156]) ((Fr.refl _ _).wi (by simp [pl])) (by decide)
        have F3 : Fr [3012, 156, 3016] a (wi (wi b2 149 12 (nI (5 * c + 2) + 1)) 156 (4 * c + 2) (nI (t.getD (5 * c + 2) 0 - 48))) := (F2.wi (by decide)).wi (by simp [pl])
        have G3 : gi (wi (wi b2 149 12 (nI (5 * c + 2) + 1)) 156 (4 * c + 2) (nI (t.getD (5 * c + 2) 0 - 48))) 156 (4 * c + 2) = nI (t.getD (5 * c + 2) 0 - 48) := by rw [giw, if_pos ⟨rfl, rfl⟩]
        have K3 : ∀ i, i ≠ 4 * c + 2 → gi (wi (wi b2 149 12 (nI (5 * c + 2) + 1)) 156 (4 * c + 2) (nI (t.getD (5 * c + 2) 0 - 48))) 156 i = gi b2 156 i := fun i hi => by rw [giw, if_neg (fun u => hi u.2), gi_wi_ne (by omega)]
        have C3 : gi (wi (wi b2 149 12 (nI (5 * c + 2) + 1)) 156 (4 * c + 2) (nI (t.getD (5 * c + 2) 0 - 48))) 149 16 = nI c := by rw [gi_wi_ne (by omega), giw, if_neg (by omega)]; exact C2
        generalize wi (wi b2 149 12 (nI (5 * c + 2) + 1)) 156 (4 * c + 2) (nI (t.getD (5 * c + 2) 0 - 48)) = b3 at *
        rw [if_pos trivial, G3, if_pos (nI_pos' (by omega))]
        by_cases z3 : 5 * c + 3 < q
        · have i3 : isD (t.getD (5 * c + 3) 0) = true := by have := tq 3 z3; rw [rqP_at (by omega) hc] at this; simpa using this
          have d3 := dgI_pos i3
          rw [number1_r hN R3 hl hx (by omega) i3, Option.bind_some]
          obtain ⟨b4, u1, u2, u3, u4, u5⟩ := rq119 N hc (nI (t.getD (5 * c + 3) 0 - 48)) (wi b3 149 12 (nI (5 * c + 3) + 1))
          have eb : ∀ i, gi (wi b3 149 12 (nI (5 * c + 3) + 1)) 156 i = gi b3 156 i := fun i => by rw [gi_wi_ne (by omega)]
          refine ⟨b4, ?_, ?_, ?_, fun _ j l hj hl4 => ?_, (F3.wi (by decide)).trans (u5.mono (by decide))⟩
          · rw [u1, if_neg (nI_pos (n := t.getD (5 * c + 3) 0 - 48) (by omega)), if_pos (by omega)]
          · rw [Nat.min_eq_right (by omega)]; exact R3.next.fr u5 (by decide)
          · rw [u2, giw, if_neg (by omega), C3, nI1]
          · by_cases y : j < c
            · rw [u4 _ (by omega), eb, K3 _ (by omega), K2 _ (by omega), K1 _ (by omega)]; exact hr j l y hl4
            · have : j = c := by omega
              subst this
              have hl5 : l = 0 ∨ l = 1 ∨ l = 2 ∨ l = 3 := by omega
              rcases hl5 with rfl | rfl | rfl | rfl
              · rw [u4 _ (by omega), eb, K3 _ (by omega), K2 _ (by omega)]; exact G1
              · rw [u4 _ (by omega), eb, K3 _ (by omega)]; exact G2
              · rw [u4 _ (by omega), eb]; exact G3
              · exact u3
        · have eq : q = 5 * c + 3 := by omega
          rw [number1_no R3 hl hx (by omega) (fun u => by have := fq 3 (by omega) eq (by omega); rw [rqP_at (by omega) hc] at this; simpa [wdP] using this), Option.bind_some]
          obtain ⟨b4, u1, u2, u3, u4, u5⟩ := rq119 N hc (-1) b3
          refine ⟨b4, ?_, ?_, ?_, fun u => absurd u (by omega), F3.trans (u5.mono (by decide))⟩
          · rw [u1, if_pos neg1_lt, if_neg (by omega)]
          · rw [Nat.min_eq_left (by omega), eq]; exact R3.fr u5 (by decide)
          · rw [u2, C3, nI1]
      · have eq : q = 5 * c + 2 := by omega
        rw [digitIn_no N R2 hl (by omega) (fun u => by
          have := fq 2 (by omega) eq (by omega)
          rw [rqP_at (by omega) hc, if_neg (by decide), if_pos rfl] at this
          have : dgI (t.getD (5 * c + 2) 0) ≤ 0 := by simpa using this
          exact dg_out _ (get256 hx _) ((dg_1 _ (get256 hx _)).mp this)), Option.bind_some]
        obtain ⟨b4, u1, u2, u3, u4⟩ := rq91 N hc b2
        refine ⟨b4, ?_, ?_, ?_, fun u => absurd u (by omega), F2.trans (u4.mono (by decide))⟩
        · rw [u1, if_neg (by omega)]
        · rw [Nat.min_eq_left (by omega), eq]; exact R2.fr u4 (by decide)
        · rw [u2, C2, nI1]
    · have eq : q = 5 * c + 1 := by omega
      rw [digitIn_no N R1 hl (by omega) (fun u => by
        have := fq 1 (by omega) eq (by omega)
        rw [rqP_at (by omega) hc, if_pos rfl] at this
        have w : dgI (t.getD (5 * c + 1) 0) < dgI (t.getD (5 * c) 0) := by simpa using this
        rw [d0.1] at w
        cases hd : isD (t.getD (5 * c + 1) 0)
        · rcases dgs_256' _ (get256 hx _) hd with y | y
          · exact Or.inl (Int32.lt_of_lt_of_le y (nI_pos' (by omega)))
          · exact Or.inr y
        · rw [(dgI_pos hd).1] at w
          rw [(dgs_256 _ (get256 hx _) hd).1]
          exact Or.inl w), Option.bind_some]
      obtain ⟨b4, u1, u2, u3, u4⟩ := rq61 N hc b
      refine ⟨b4, ?_, ?_, ?_, fun u => absurd u (by omega), F1.trans (u4.mono (by decide))⟩
      · rw [u1, if_neg (by omega)]
      · rw [Nat.min_eq_left (by omega), eq]; exact R1.fr u4 (by decide)
      · rw [u2, C1, nI1]
  · have eq : q = 5 * c := by omega
    rw [number1_no h hl hx (by omega) (fun u => by have := fq 0 (by omega) (by omega) (by omega); rw [rqP_at (by omega) hc] at this; simpa [wdP] using this), Option.bind_some, inbI (show 4 * c < 48 by omega) (by omega), if_pos rfl, clI (by omega)]
    simp only [bnS]
    rw [if_pos trivial, giw_s, if_neg (by decide)]
    obtain ⟨b4, u1, u2, u3, u4⟩ := rq61 N hc (wi a 156 (4 * c) (-1))
    refine ⟨b4, ?_, ?_, ?_, fun u => absurd u (by omega), (((Fr.refl _ _).wi (by simp [pl]) : Fr [156, 3016] a _).trans u4).mono (by decide)⟩
    · rw [u1, if_neg (by omega)]
    · rw [Nat.min_eq_left (by omega), eq]; exact h.fr (((Fr.refl _ _).wi (by simp [pl]) : Fr [156, 3016] a _).trans u4) (by decide)
    · rw [u2, gi_wi_ne (by omega), hn, nI1]
