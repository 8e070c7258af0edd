/-! ===== night: both sides ===== -/
def aX (t : List Nat) (k : Nat) : Nat := t.getD (nP t k) 0
def aA (t : List Nat) (k : Nat) : Nat := t.getD (nP t k + 1) 0 - 48
def aB (t : List Nat) (k : Nat) : Nat := t.getD (nP t k + 2) 0 - 48
def nW (L : Ld) (t : List Nat) (r : Nat → Int32) : Nat → Nat → Int32
  | 0 => r
  | k + 1 => (acS L (nW L t r k) (aX t k) (aA t k) (aB t k)).2
def nV (L : Ld) (t : List Nat) (r : Nat → Int32) (k : Nat) : Int32 := (acS L (nW L t r k) (aX t k) (aA t k) (aB t k)).1
theorem nG0_ok {t : List Nat} {m k : Nat} (h : nG0 t m (nP t k) = true) : acOk (aX t k) (aA t k) (aB t k) ∧ isD (t.getD (nP t k + 1) 0) = true ∧ (dgB (aX t k) = 2 → isD (t.getD (nP t k + 2) 0) = true) := by
  obtain ⟨h1, h2, h3, h4⟩ := nG0_n h
  rw [okD1 h1] at h3
  have hd1 := dgI_pos h3
  have key : dgB (aX t k) = 2 → isD (t.getD (nP t k + 2) 0) = true ∧ (aX t k = 116 ∨ 1 ≤ aB t k) := by
    intro z
    have h5 : okD (aX t k) 1 (t.getD (nP t k + 2) 0) = true := by
      rcases h4 with y | y
      · have z' : dgB (t.getD (nP t k) 0) = 2 := z
        omega
      · exact y
    rw [okD_2 z, Bool.and_eq_true, Bool.or_eq_true, decide_eq_true_eq, decide_eq_true_eq] at h5
    refine ⟨h5.1, ?_⟩
    rcases h5.2 with y | y
    · exact Or.inl y
    · right
      show 1 ≤ t.getD (nP t k + 2) 0 - 48
      omega
  exact ⟨⟨h1, hd1.2.1, fun z => ⟨(dgI_pos (key z).1).2.1, (key z).2⟩⟩, h3, fun z => (key z).1⟩
theorem nW_wf {L : Ld} {t : List Nat} {r : Nat → Int32} {H m K : Nat} (hW : WF L.1 9 H r) (h : ∀ k, k < K → nG0 t m (nP t k) = true) : ∀ k, k ≤ K → WF L.1 9 (H + 9 * k) (nW L t r k) := by
  intro k
  induction k with
  | zero => intro _; exact hW
  | succ k ih =>
    intro hk
    rw [nW]
    exact (acS_wf (ih (by omega)) (nG0_ok (h k (by omega))).1).mono (by omega)
def nRow (L : Ld) (t : List Nat) (r : Nat → Int32) (K c : Nat) : Nat → Int32 := if c < K then nW L t r (c + 1) else nW L t r c
theorem night_l39 {N : Nat} (hN : 555 < N) {σ : Sg} {L : Ld} {r : Nat → Int32} {H : Nat} {t : List Nat} (h : TxC σ t) (hl : t.length ≤ 60) (hx : ∀ x ∈ t, x < 256) (hR : RuC σ L) (hr : rC σ 19 = r) (hW : WF L.1 9 H r) (hH : H < 1000000) {K : Nat} (hK : ∀ k, k < K → nG0 t t.length (nP t k) = true) (hE : nP t K = t.length) {c : Nat} (c1 : c ≤ K) (c2 : ∀ k, k < c → ¬ nV L t r k < 0) (c3 : c < K → nV L t r c < 0) (k94 : Int32 → Int32 → Sg → Option (Int32 × Sg)) : ∃ σ', X8_night_l39 N k94 N 0 0 0 σ = k94 (nI c) (if c < K then 1 else 0) σ' ∧ rC σ' 19 = nRow L t r K c ∧ Fr (HK 19) σ σ' := by
  have hK30 := nP_2 hK K (Nat.le_refl _)
  have act : ∀ i a, i < K → rC a 19 = nW L t r i → Fr (HK 19) σ a → ∃ a', X8_act N (nI (nP t i)) a = some (nV L t r i, a') ∧ rC a' 19 = nW L t r (i + 1) ∧ Fr (HK 19) σ a' := by
    intro i a hi g1 g2
    have ok := nG0_ok (hK i hi)
    have hp := nG0_n (hK i hi)
    obtain ⟨a', b1, b2, b3⟩ := act_c (N := N) (p := nP t i) hN (h.fr g2 (by decide)) (by omega) hx (hR.fr g2 (by decide)) g1 (nW_wf hW hK i (by omega)) (by omega) hp.2.1 ok.1 ok.2.1 ok.2.2
    exact ⟨a', b1, b2, g2.trans b3⟩
  have adv : ∀ i a (kr : Int32 → Int32 → Int32 → Sg → Option (Int32 × Sg)) v2 v3, i < K → Fr (HK 19) σ a → X8_night_j72 N kr v2 v3 (nI (nP t i)) a = kr v2 v3 (nI (nP t (i + 1))) a := by
    intro i a kr v2 v3 hi g
    have hp := nG0_n (hK i hi)
    rw [X8_night_j72, at_c N (h.fr g (by decide)) (by omega) hx (by omega), Option.bind_some, dgB_c N a _ (get256 hx _), Option.bind_some, show (1 : Int32) = nI 1 from rfl, nI_add, nI_add, nP, Nat.add_assoc]
  obtain ⟨N', hN'⟩ : ∃ k, N = k + 1 := ⟨N - 1, by omega⟩
  refine forL0 (L := fun n i a => X8_night_l39 N k94 (n + 1) (nI i) 0 (nI (nP t i)) a) (m := c) (a := σ) (N := N') (fun i a => rC a 19 = nW L t r i ∧ Fr (HK 19) σ a) (o := fun x => ∃ σ', x = k94 (nI c) (if c < K then 1 else 0) σ' ∧ rC σ' 19 = nRow L t r K c ∧ Fr (HK 19) σ σ') (by omega) ⟨hr, Fr.refl _ _⟩ ?_ ?_ |> fun z => by rw [hN'] at z ⊢; exact z
  · intro n i a hi hI
    obtain ⟨g1, g2⟩ := hI
    left
    obtain ⟨a', b1, b2, b3⟩ := act i a (by omega) g1 g2
    have hp := nG0_n (hK i (by omega))
    refine ⟨a', ⟨b2, b3⟩, ?_⟩
    rw [X8_night_l39, (h.fr g2 (by decide)).1, if_neg (nI_ge (by omega) (by omega)), if_pos rfl, b1, Option.bind_some, if_pos (Int32.not_lt.mp (c2 i hi)), adv i a' _ _ _ (by omega) b3, nI1]
  · intro n a hI
    obtain ⟨g1, g2⟩ := hI
    unfold nRow
    by_cases z : c < K
    · obtain ⟨a', b1, b2, b3⟩ := act c a z g1 g2
      have hp := nG0_n (hK c z)
      refine ⟨a', ?_, by rw [if_pos z]; exact b2, b3⟩
      rw [X8_night_l39, (h.fr g2 (by decide)).1, if_neg (nI_ge (by omega) (by omega)), if_pos rfl, b1, Option.bind_some, if_neg (fun u => absurd (c3 z) (Int32.not_lt.mpr u)), adv c a' _ _ _ z b3, if_pos z, X8_night_l39, if_neg oneF]
      split <;> rfl
    · refine ⟨a, ?_, by rw [if_neg z]; exact g1, g2⟩
      have : c = K := by omega
      rw [X8_night_l39, (h.fr g2 (by decide)).1, this, hE, if_pos (nI_le (Nat.le_refl _) (by omega)), if_neg (by omega)]
theorem night_l64 {N : Nat} (hN : 555 < N) {σ : Sg} {L : Ld} {r : Nat → Int32} {H : Nat} {t : List Nat} (hL : LR σ L) (hr : rR σ 153 = r) (hW : WF L.1 9 H r) (hH : H < 1000000) {K m q : Nat} (hm : m ≤ 60) (hK : ∀ k, k < K → nG0 t m (nP t k) = true) (h : nR t σ m K q) {c : Nat} (c1 : c ≤ K) (c2 : ∀ k, k < c → ¬ nV L t r k < 0) (c3 : c < K → nV L t r c < 0) (k88 : Int32 → Sg → Option (Int32 × Sg)) : ∃ σ', X9_night_l64 N k88 N 0 σ = k88 (nI c) σ' ∧ rR σ' 153 = nRow L t r K c ∧ Fr (HR' 153) σ σ' := by
  have hK30 := nP_2 hK K (Nat.le_refl _)
  have act : ∀ i a, i < K → rR a 153 = nW L t r i → Fr (HR' 153) σ a → ∃ a', X9_does N (nI i) a = some (if nV L t r i < 0 then 0 else 1, a') ∧ rR a' 153 = nW L t r (i + 1) ∧ Fr (HR' 153) σ a' := by
    intro i a hi g1 g2
    have ok := nG0_ok (hK i hi)
    have hh := h.2.2 i hi
    obtain ⟨a', b1, b2, b3⟩ := does_r (N := N) (k := i) hN (hL.fr g2 (by decide)) g1 (nW_wf hW hK i (by omega)) (by omega) (by omega) ok.1 ((g2.g (k := 162) (by simp [pl, HR'])).trans hh.1) ((g2.g (k := 163) (by simp [pl, HR'])).trans hh.2.1) (fun z => (g2.g (k := 164) (by simp [pl, HR'])).trans (hh.2.2 z))
    exact ⟨a', b1, b2, g2.trans b3⟩
  refine forL0 (L := fun n i a => X9_night_l64 N k88 n (nI i) a) (m := c) (a := σ) (fun i a => rR a 153 = nW L t r i ∧ Fr (HR' 153) σ a) (o := fun x => ∃ σ', x = k88 (nI c) σ' ∧ rR σ' 153 = nRow L t r K c ∧ Fr (HR' 153) σ σ') (by omega) ⟨hr, Fr.refl _ _⟩ ?_ ?_
  · intro n i a hi hI
    obtain ⟨g1, g2⟩ := hI
    left
    obtain ⟨a', b1, b2, b3⟩ := act i a (by omega) g1 g2
    refine ⟨a', ⟨b2, b3⟩, ?_⟩
    rw [X9_night_l64, (g2.g (k := 149) (j := 30) (by decide)).trans h.2.1, if_neg (nI_ge (by omega) (by omega)), b1, Option.bind_some, if_neg (c2 i hi), if_neg oneF, nI1]
  · intro n a hI
    obtain ⟨g1, g2⟩ := hI
    unfold nRow
    by_cases z : c < K
    · obtain ⟨a', b1, b2, b3⟩ := act c a z g1 g2
      refine ⟨a', ?_, by rw [if_pos z]; exact b2, b3⟩
      rw [X9_night_l64, (g2.g (k := 149) (j := 30) (by decide)).trans h.2.1, if_neg (nI_ge (by omega) (by omega)), b1, Option.bind_some, if_pos (c3 z), if_pos rfl]
    · refine ⟨a, ?_, by rw [if_neg z]; exact g1, g2⟩
      rw [X9_night_l64, (g2.g (k := 149) (j := 30) (by decide)).trans h.2.1, if_pos (nI_le (by omega) (by omega))]
theorem night_op {N : Nat} (hN : 555 < N) {H : Nat} {A : Ab} (hA : OkA H A) (hH : H < 1000000) : OpB (X8_night N) (X9_night N) H A := by
  obtain ⟨L, now, t, to, p, s, w⟩ := A
  obtain ⟨k1, ⟨k2, k2'⟩, k3, ⟨k4, k4'⟩, k5, k6⟩ := hA
  dsimp only at k1 k2 k2' k3 k4 k4' k5 k6
  obtain ⟨K, hK⟩ := nK_ex t (min t.length 60)
  have hKb := nP_2 hK.1 K (Nat.le_refl _)
  have hEle : nE t (min t.length 60) K ≤ min t.length 60 := by
    unfold nE
    split
    · exact Nat.le_refl _
    · exact (nF_le (by omega)).2
  by_cases hok : nP t K = t.length ∧ t.length ≤ 60
  · have hmin : min t.length 60 = t.length := Nat.min_eq_left hok.2
    obtain ⟨c, c1, c2, c3⟩ := upto_p (fun k => decide (¬ nV L t now k < 0)) K
    have c2' : ∀ k, k < c → ¬ nV L t now k < 0 := fun k hk => of_decide_eq_true (c2 k hk)
    have c3' : c < K → nV L t now c < 0 := fun z => by
      have := of_decide_eq_false (c3 z)
      exact Decidable.not_not.mp this
    have hWf : WF L.1 9 (H + 300) (nRow L t now K c) := by
      unfold nRow
      split
      · exact (nW_wf k1 hK.1 (c + 1) (by omega)).mono (by omega)
      · exact (nW_wf k1 hK.1 c c1).mono (by omega)
    have hP : (paS c now p).length ≤ 15 ∧ ∀ r ∈ paS c now p, WF L.1 9 (H + 300) r := by
      unfold paS
      split
      · exact ⟨k4, fun q hq => (k4' q hq).mono (by omega)⟩
      · refine ⟨by rw [List.length_take]; omega, fun q hq => ?_⟩
        have := List.mem_of_mem_take hq
        rcases List.mem_cons.mp this with y | y
        · rw [y]; exact k1.mono (by omega)
        · exact (k4' q y).mono (by omega)
    refine ⟨nI c, (L, nRow L t now K c, [], [b64 (decide (c < K)), (nRow L t now K c 33).toInt64], paS c now p, s, w), ?_, ?_, hWf, ⟨by simp, by simp⟩, by simp, hP, fun i r hi hr => (k5 i r hi hr).mono (by omega), k6⟩
    · rintro σ ⟨q1, q2, q3, q4, ⟨x, q5⟩, q6, q7⟩
      dsimp only at q1 q2 q3 q4 q5 q6 q7
      obtain ⟨σ1, a1, a2, a3, a4⟩ := draw_c (N := N) (by omega) q5 k4
      obtain ⟨σ2, b1, b2, b3⟩ := night_l39 (N := N) hN (q3.fr a4 (by decide +kernel)) hok.2 k2' (q1.fr a4 (by decide +kernel)) ((a4.row19 (by decide +kernel)).trans q2) k1 hH (fun k hk => by have := hK.1 k hk; rw [hmin] at this; exact this) hok.1 c1 c2' c3' (fun v2 v3 σ => X8_night_j94 N v2 v3 σ)
      have a2' := a2.fr b3 (by decide +kernel)
      have a3' : rC σ2 (31 + 5 * x) = now := (b3.rowP (by decide +kernel) q5.1).trans (a3.trans q2)
      have f2 : Fr (stP ++ HK 19) σ σ2 := (a4.mono (by decide +kernel)).trans (b3.mono (by decide +kernel))
      have tail : ∀ σ3, Fr [29] σ2 σ3 → PaC σ3 (paS c now p) → ∃ σ', X8_night_j105 N (nI c) (if c < K then 1 else 0) σ3 = some (nI c, σ') ∧ InvC σ' (L, nRow L t now K c, [], [b64 (decide (c < K)), (nRow L t now K c 33).toInt64], paS c now p, s, w) ∧ ∀ B, InvR σ B → InvR σ' B := by
        intro σ3 f3 hp3
        obtain ⟨σ4, g1, g2, g3⟩ := txClear_c N σ3
        obtain ⟨σ5, u1, u2, u3⟩ := tell2_c N (b64 (decide (c < K))) (nRow L t now K c 33).toInt64 σ4
        have fr5 : Fr ((stP ++ HK 19) ++ [29, 1, 3, 4]) σ σ5 := (((f2.mono (by decide +kernel)).trans (f3.mono (by decide +kernel))).trans (g3.mono (by decide +kernel))).trans (u3.mono (by decide +kernel))
        have r4 : rC σ4 19 = nRow L t now K c := (g3.row19 (by decide)).trans ((f3.row19 (by decide)).trans b2)
        refine ⟨σ5, ?_, ⟨q1.fr fr5 (by decide +kernel), (u3.row19 (by decide)).trans r4, g2.fr u3 (by decide), u2, (hp3.fr g3 (by decide +kernel)).fr u3 (by decide +kernel), q6.fr fr5 (by decide +kernel), q7.fr fr5 (by decide +kernel)⟩, fun B hB => hB.fr fr5 (by decide +kernel)⟩
        have e5 : gi σ4 19 5 = nRow L t now K c 33 := by rw [← r4, rC_33]
        rw [X8_night_j105, g1, Option.bind_some]
        unfold X8_night_j125
        rw [e5]
        by_cases z : c < K
        · rw [if_pos z, if_neg oneF]
          rw [decide_eq_true z] at u1
          rw [show (1 : Int64) = b64 true from rfl, u1]; rfl
        · rw [if_neg z, if_pos rfl]
          rw [decide_eq_false z] at u1
          rw [show (0 : Int64) = b64 false from rfl, u1]; rfl
      have start : X8_night N σ = X8_night_j94 N (nI c) (if c < K then 1 else 0) σ2 := by
        unfold X8_night
        rw [faultN (by omega) q3 k2 k2' hK, if_pos hok, Option.bind_some, if_pos rfl, a1, Option.bind_some, b1]
      rw [start, X8_night_j94]
      by_cases z : c = 0
      · rw [if_pos (show nI c ≤ 0 by rw [z]; decide)]
        refine tail σ2 (Fr.refl _ _) ⟨x, ?_⟩
        unfold paS
        rw [if_pos z]; exact a2'
      · obtain ⟨σ3, d1, d2, d3⟩ := commit_c N a2' k4 a3'
        rw [if_neg (nI_nle (by omega) (by omega)), d1, Option.bind_some]
        refine tail σ3 d3 ⟨(x + 1) % 16, ?_⟩
        unfold paS
        rw [if_neg z]; exact d2
    · rintro σ ⟨q1, q2, q3, q4, q5, q6, q7⟩
      dsimp only at q1 q2 q3 q4 q5 q6 q7
      obtain ⟨σ1, a1, a2, a3, a4, a5⟩ := begins_r N q3 k2 (b := 60) (by omega)
      have hR : nR t (wi σ1 149 30 0) (min t.length 60) 0 0 := ⟨a2.fr (l := [3030]) ((Fr.refl _ _).wi (by simp [pl])) (by decide), by rw [giw, if_pos ⟨rfl, rfl⟩]; rfl, fun j hj => absurd hj (Nat.not_lt_zero _)⟩
      have f1 : Fr (rdL ++ nrL) σ (wi σ1 149 30 0) := (a5.mono (by decide)).wi (by decide)
      obtain ⟨σ2, b1, b2, b3, b4⟩ := night_l19 (N := N) (by omega) k2 k2' hK hR (fun v1 v2 σ => X9_night_j42 N v1 v2 σ) (nI t.length)
      have hEm : nP t K = min t.length 60 := by omega
      rw [if_pos hEm] at b1
      have b3' := b3 hEm
      have b2' : RdR σ2 t (min t.length 60) t.length := by
        have := b2
        unfold nE at this
        rw [if_pos hEm, hmin] at this
        rw [hmin]; exact this
      have f2 : Fr (rdL ++ nrL) σ σ2 := f1.trans (b4.mono (by decide))
      obtain ⟨σ3, d1, d2, d3, d4⟩ := putsBy_r (N := N) (by omega) (q5.fr f2 (by decide)) k4
      have r2 : rR σ2 153 = now := (rR_congr (f2.r (by simp [pl, rdL, nrL]))).trans q2
      have f3 : Fr (rdL ++ nrL ++ [161]) σ σ3 := (f2.mono (by decide)).trans (d4.mono (by decide))
      have b3'' : nR t σ3 (min t.length 60) K (nP t K) := ⟨b3'.1.fr d4 (by decide), (d4.g (k := 149) (j := 30) (by decide)).trans b3'.2.1, fun j hj => by rw [d4.g (k := 162) (by simp [pl]), d4.g (k := 163) (by simp [pl]), d4.g (k := 164) (by simp [pl])]; exact b3'.2.2 j hj⟩
      obtain ⟨σ4, g1, g2, g3⟩ := night_l64 (N := N) hN (q1.fr f3 (by decide)) ((rR_congr (d4.r (by simp [pl]))).trans r2) k1 hH (by omega) hK.1 b3'' c1 c2' c3' (fun v4 σ => X9_night_j88 N v4 σ)
      have f4 : Fr (rdL ++ nrL ++ [161] ++ HR' 153) σ σ4 := (f3.mono (by decide)).trans (g3.mono (by decide))
      have e30 : gi σ4 149 30 = nI K := (g3.g (k := 149) (j := 30) (by decide)).trans b3''.2.1
      have e11 : gi σ4 149 11 = nI 0 := (g3.g (k := 149) (j := 11) (by decide)).trans ((d4.g (k := 149) (j := 11) (by decide)).trans ((b4.g (k := 149) (j := 11) (by decide)).trans (by rw [giw, if_neg (by omega)]; exact a3)))
      have hd3 : rW σ4 161 p.length = now := (rW_congr (g3.r (by simp [pl, HR']))).trans (d3.trans r2)
      obtain ⟨σ6, u1, u2, u3⟩ := enters_r N (told0_r σ4) (by simp) (b64 (decide (c < K)))
      obtain ⟨σ7, v1, v2, v3⟩ := enters_r N u2 (by simp) (nRow L t now K c 33).toInt64
      have fe : Fr [3001, 150] σ4 σ7 := ((told0_f σ4).trans u3).trans v3
      have start : X9_night N σ = (if nI c ≤ 0 then (some (0, σ7)) else ((X9_adds N (nI c) σ7).bind fun r31 => (some (r31.1, r31.2)))) := by
        have e6 : gi σ6 153 33 = nRow L t now K c 33 := by
          rw [u3.g (k := 153) (by simp [pl]), (told0_f σ4).g (k := 153) (by simp [pl]), ← g2, rR_j (by omega)]
        have hfo := faultOf2_r N b2' (b := 60) (by omega) rfl k2 (by omega) (v := 1) (ok := true) (Or.inl rfl) ⟨fun _ => ⟨rfl, rfl, hok.2⟩, fun _ => rfl⟩
        have e30' : gi (wi σ4 149 1 0) 149 30 = nI K := by rw [giw, if_neg (by omega)]; exact e30
        unfold X9_night
        simp only [bnS]
        rw [show (60 : Int32) = nI 60 from rfl, a1, Option.bind_some, b1, X9_night_j42, show (60 : Int32) = nI 60 from rfl, hfo, Option.bind_some, if_pos (show (0 : Int32) ≤ if true = true then 0 else -1 - nI t.length from by rw [if_pos rfl]; decide), d1, Option.bind_some, g1, X9_night_j88]
        simp only [bnS]
        rw [e30']
        by_cases z : c < K
        · rw [decide_eq_true z] at u1
          rw [if_neg (nI_ge z (by omega)), X9_night_j108, show X9_flag N 1 _ = some 1 from rfl, Option.bind_some, show (1 : Int32).toInt64 = b64 true from rfl, u1, Option.bind_some, i37_33, if_pos rfl, cl33, e6, v1, Option.bind_some]
        · rw [decide_eq_false z] at u1
          rw [if_pos (nI_le (by omega) (by omega)), X9_night_j108, show X9_flag N 0 _ = some 0 from rfl, Option.bind_some, show (0 : Int32).toInt64 = b64 false from rfl, u1, Option.bind_some, i37_33, if_pos rfl, cl33, e6, v1, Option.bind_some]
      have f7 : Fr (rdL ++ nrL ++ [161] ++ HR' 153 ++ [3001, 150]) σ σ7 := (f4.mono (by decide)).trans (fe.mono (by decide))
      have r7 : rR σ7 153 = nRow L t now K c := (rR_congr (fe.r (by simp [pl]))).trans g2
      rw [start]
      by_cases z : c = 0
      · refine ⟨σ7, by rw [z, if_pos (show nI 0 ≤ 0 by decide)]; rfl, ⟨q1.fr f7 (by decide), r7, ⟨(fe.g (k := 149) (j := 11) (by decide)).trans e11, fun i hi => absurd hi (Nat.not_lt_zero _)⟩, v2, ?_, q6.fr f7 (by decide), q7.fr f7 (by decide)⟩, fun B hB => hB.fr f7 (by decide +kernel)⟩
        dsimp only
        unfold paS
        rw [if_pos z]; exact (d2.fr g3 (by decide)).fr fe (by decide)
      · obtain ⟨σ8, w1, w2, w3⟩ := adds_r (N := N) hN ((d2.fr g3 (by decide)).fr fe (by decide)) k4 ((rW_congr (fe.r (by simp [pl]))).trans hd3) (nI c)
        have f8 : Fr (rdL ++ nrL ++ [161] ++ HR' 153 ++ [3001, 150] ++ [3023]) σ σ8 := (f7.mono (by decide)).trans (w3.mono (by decide))
        refine ⟨σ8, by rw [if_neg (nI_nle (by omega) (by omega)), w1]; rfl, ⟨q1.fr f8 (by decide), (rR_congr (w3.r (by simp [pl]))).trans r7, ⟨(w3.g (k := 149) (j := 11) (by decide)).trans ((fe.g (k := 149) (j := 11) (by decide)).trans e11), fun i hi => absurd hi (Nat.not_lt_zero _)⟩, v2.fr w3 (by decide), ?_, q6.fr f8 (by decide), q7.fr f8 (by decide)⟩, fun B hB => hB.fr f8 (by decide +kernel)⟩
        dsimp only
        unfold paS
        rw [if_neg z]; exact w2
  · refine ⟨-1 - nI (nE t (min t.length 60) K), (L, now, [], to, p, s, w), ?_, ?_, k1.mono (by omega), ⟨by simp, by simp⟩, k3, ⟨k4, fun q hq => (k4' q hq).mono (by omega)⟩, fun i r hi hr => (k5 i r hi hr).mono (by omega), k6⟩
    · rintro σ ⟨c1, c2, c3, c4, c5, c6, c7⟩
      dsimp only at c1 c2 c3 c4 c5 c6 c7
      obtain ⟨σ1, a1, a2, a3⟩ := txClear_c N σ
      refine ⟨σ1, ?_, ⟨c1.fr a3 (by decide), (a3.row19 (by decide)).trans c2, a2, c4.fr a3 (by decide), c5.fr a3 (by decide +kernel), c6.fr a3 (by decide +kernel), c7.fr a3 (by decide)⟩, fun B hB => hB.fr a3 (by decide)⟩
      unfold X8_night
      rw [faultN (by omega) c3 k2 k2' hK, if_neg hok, Option.bind_some, if_neg (nIm1 (by omega)), a1, Option.bind_some]
    · rintro σ ⟨c1, c2, c3, c4, c5, c6, c7⟩
      dsimp only at c1 c2 c3 c4 c5 c6 c7
      obtain ⟨σ1, a1, a2, a3, a4, a5⟩ := begins_r N c3 k2 (b := 60) (by omega)
      have hR : nR t (wi σ1 149 30 0) (min t.length 60) 0 0 := ⟨a2.fr (l := [3030]) ((Fr.refl _ _).wi (by simp [pl])) (by decide), by rw [giw, if_pos ⟨rfl, rfl⟩]; rfl, fun j hj => absurd hj (Nat.not_lt_zero _)⟩
      have f1 : Fr (rdL ++ nrL) σ (wi σ1 149 30 0) := (a5.mono (by decide)).wi (by decide)
      obtain ⟨σ2, b1, b2, b3, b4⟩ := night_l19 (N := N) (by omega) k2 k2' hK hR (fun v1 v2 σ => X9_night_j42 N v1 v2 σ) (nI t.length)
      have f : Fr (rdL ++ nrL) σ σ2 := f1.trans (b4.mono (by decide))
      refine ⟨σ2, ?_, ⟨c1.fr f (by decide), (rR_congr (f.r (by simp [pl, rdL, nrL]))).trans c2, ⟨?_, fun i hi => absurd hi (Nat.not_lt_zero _)⟩, c4.fr f (by decide), c5.fr f (by decide), c6.fr f (by decide), c7.fr f (by decide)⟩, fun B hB => hB.fr f (by decide +kernel)⟩
      · have hfo := faultOf2_r N b2 (b := 60) (by omega) rfl k2 hEle (v := if nP t K = min t.length 60 then 1 else 0) (ok := false) (by by_cases z : nP t K = min t.length 60; exact Or.inl (if_pos z); exact Or.inr (if_neg z)) ⟨fun z => absurd z (by decide), fun z => by
          exfalso
          by_cases y : nP t K = min t.length 60
          · exact hok ⟨by omega, z.2.2⟩
          · have := z.1
            rw [if_neg y] at this; exact absurd this (by decide)⟩
        unfold X9_night
        simp only [bnS]
        rw [show (60 : Int32) = nI 60 from rfl, a1, Option.bind_some, b1, X9_night_j42, show (60 : Int32) = nI 60 from rfl, hfo, Option.bind_some, if_neg (show ¬ false = true by decide), if_neg (show ¬ (0 : Int32) ≤ -1 - nI (nE t (min t.length 60) K) from (by decide : ∀ q, q < 61 → ¬ (0 : Int32) ≤ -1 - nI q) _ (by omega))]
      · exact (b4.g (k := 149) (j := 11) (by decide)).trans (by rw [giw, if_neg (by omega)]; exact a3)
