/-! ===== night: the reference reads ===== -/
theorem knd_s : ∀ x, x < 256 → 0 < dgB x → knd x < 5 ∧ sB4.getD (knd x) 0 = nI x ∧ (∀ j, j < knd x → ¬ sB4.getD j 0 = nI x) ∧ (2 ≤ knd x ↔ dgB x = 2) ∧ (knd x ≤ 2 ↔ (dgB x = 1 ∨ x = 116)) := by decide +kernel
theorem knd_n : ∀ x, x < 256 → dgB x = 0 → ∀ j, j < 5 → ¬ sB4.getD j 0 = nI x := by decide +kernel
theorem okD1 {x : Nat} (h : 0 < dgB x) (y : Nat) : okD x (dgB x) y = isD y := by
  have : (decide (dgB x = 1) && (decide (x = 108) || decide (x = 103))) = false := by
    by_cases z : dgB x = 1
    · have h1 : x ≠ 108 := fun u => by subst u; exact absurd z (by decide)
      have h2 : x ≠ 103 := fun u => by subst u; exact absurd z (by decide)
      rw [decide_eq_false h1, decide_eq_false h2]; simp
    · rw [decide_eq_false z]; rfl
  unfold okD
  rw [this]; simp
theorem okD2 : ∀ y, y < 256 → ((0 ≤ nI y - 48 ∧ nI y - 48 ≤ 9) ↔ isD y = true) ∧ ((1 ≤ nI y - 48 ∧ nI y - 48 ≤ 9) ↔ (isD y = true ∧ 49 ≤ y)) ∧ (isD y = true → nI y - 48 = nI (y - 48)) ∧ (¬ (0 ≤ nI y - 48 ∧ nI y - 48 ≤ 9) → nI y - 48 < 0 ∨ 9 < nI y - 48) ∧ (¬ (1 ≤ nI y - 48 ∧ nI y - 48 ≤ 9) → nI y - 48 < 1 ∨ 9 < nI y - 48) := by decide +kernel
theorem okD_2 {x : Nat} (h : dgB x = 2) (y : Nat) : okD x 1 y = (isD y && (decide (x = 116) || decide (49 ≤ y))) := by
  unfold okD
  have : x = 103 ∨ x = 108 ∨ x = 116 := by
    unfold dgB at h
    by_cases z : x = 103 ∨ x = 108 ∨ x = 116
    · exact z
    · rw [if_neg z] at h
      split at h <;> omega
  rcases this with z | z | z <;> subst z <;> rfl
theorem number0_r (N : Nat) {σ : Sg} {t : List Nat} {m q : Nat} (h : RdR σ t m q) (hl : t.length ≤ 80) (hx : ∀ x ∈ t, x < 256) (hq : q < 2147483648) (hd : ¬ (q < m ∧ wdP t q = true)) : X9_number N 1 σ = some (-1, σ) := by
  unfold X9_number
  rw [isDigit_r _ h hl hx hq, if_neg hd, Option.bind_some, if_pos rfl]
def nR (t : List Nat) (a : Sg) (m c q : Nat) : Prop := RdR a t m q ∧ gi a 149 30 = nI c ∧ ∀ j, j < c → gi a 162 j = nI (knd (t.getD (nP t j) 0)) ∧ gi a 163 j = nI (t.getD (nP t j + 1) 0 - 48) ∧ (dgB (t.getD (nP t j) 0) = 2 → gi a 164 j = nI (t.getD (nP t j + 2) 0 - 48))
def nrL : List Nat := [3012, 3030, 162, 163, 164]
theorem readsAct_r {N : Nat} (hN : 10 < N) {a : Sg} {t : List Nat} (hl : t.length ≤ 80) (hx : ∀ x ∈ t, x < 256) {m k : Nat} (hm : m ≤ t.length) (hk : k < 60) (h : nR t a m k (nP t k)) (hp : nP t k < m) : ∃ a', X9_readsAct N a = some (if nG0 t m (nP t k) = true then 1 else 0, a') ∧ (nG0 t m (nP t k) = true → nR t a' m (k + 1) (nP t (k + 1))) ∧ (nG0 t m (nP t k) = false → RdR a' t m (nF t m (nP t k))) ∧ Fr nrL a a' := by
  obtain ⟨h1, h2, h3⟩ := h
  rw [nP]
  have hlast : ∀ b : Sg, Fr [3012, 3030] a b → ∀ j, j < k → gi b 162 j = nI (knd (t.getD (nP t j) 0)) ∧ gi b 163 j = nI (t.getD (nP t j + 1) 0 - 48) ∧ (dgB (t.getD (nP t j) 0) = 2 → gi b 164 j = nI (t.getD (nP t j + 2) 0 - 48)) := by
    intro b f j hj
    have := h3 j hj
    exact ⟨(f.g (k := 162) (by simp [pl])).trans this.1, (f.g (k := 163) (by simp [pl])).trans this.2.1, fun z => (f.g (k := 164) (by simp [pl])).trans (this.2.2 z)⟩
  obtain ⟨p, hp1⟩ : ∃ p, p = nP t k := ⟨_, rfl⟩
  rw [← hp1] at h1 hp ⊢
  have hin : inb (nI k) 60 = true := inbI hk (by omega)
  have hcl : (nI k).toNatClampNeg = k := clI (by omega)
  have hd := dgB_le (t.getD p 0)
  by_cases a1 : dgB (t.getD p 0) = 0
  · have e0 : nG0 t m p = false := by unfold nG0; rw [a1]; rfl
    have eF : nF t m p = p := by unfold nF; rw [if_pos a1]
    rw [e0, eF]
    refine ⟨wi (wi a 162 k (-1)) 149 30 (nI k + 1), ?_, fun z => Bool.noConfusion z, fun _ => h1.fr (l := [162, 3030]) (((Fr.refl _ _).wi (by simp [pl])).wi (by simp [pl])) (by decide), ((Fr.refl _ _).wi (by simp [pl, nrL])).wi (by simp [pl, nrL])⟩
    unfold X9_readsAct
    rw [takesN_s4 (by omega) h1 hl (by omega) (fun _ => knd_n _ (get256 hx p) a1), Option.bind_some, h2, hin, if_pos rfl, hcl]
    simp only [bnS]
    rw [if_pos trivial, show gi (wi a 162 k (-1)) 149 30 = nI k by rw [gi_wi_ne (by omega)]; exact h2, show gi (wi (wi a 162 k (-1)) 149 30 (nI k + 1)) 162 k = -1 by rw [gi_wi_ne (by omega), giw, if_pos ⟨rfl, rfl⟩], if_neg (by decide), if_neg (by decide)]
  · have ks := knd_s _ (get256 hx p) (by omega)
    have a2 := takes_s4 (N := N) (by omega) h1 hl ks.1 hp ks.2.1 ks.2.2.1
    obtain ⟨b, hb1⟩ : ∃ b, b = wi (wi (wi a 149 12 (nI p + 1)) 162 k (nI (knd (t.getD p 0)))) 149 30 (nI k + 1) := ⟨_, rfl⟩
    have hbR : RdR b t m (p + 1) := by rw [hb1]; exact h1.next.fr (l := [162, 3030]) (((Fr.refl _ _).wi (by simp [pl])).wi (by simp [pl])) (by decide)
    have hb162 : gi b 162 k = nI (knd (t.getD p 0)) := by rw [hb1, gi_wi_ne (by omega), giw, if_pos ⟨rfl, rfl⟩]
    have hb30 : gi b 149 30 = nI (k + 1) := by rw [hb1, giw, if_pos ⟨rfl, rfl⟩, nI1]
    have fb : Fr nrL a b := by rw [hb1]; exact (((Fr.refl _ _).wi (by simp [pl, nrL])).wi (by simp [pl, nrL])).wi (by simp [pl, nrL])
    have hold : ∀ j, j < k → gi b 162 j = gi a 162 j ∧ gi b 163 j = gi a 163 j ∧ gi b 164 j = gi a 164 j := by
      intro j hj
      rw [hb1]
      refine ⟨?_, ?_, ?_⟩
      · rw [gi_wi_ne (by omega), giw, if_neg (by omega), gi_wi_ne (by omega)]
      · rw [gi_wi_ne (by omega), gi_wi_ne (by omega), gi_wi_ne (by omega)]
      · rw [gi_wi_ne (by omega), gi_wi_ne (by omega), gi_wi_ne (by omega)]
    have start : X9_readsAct N a = ((X9_number N 1 b).bind fun r10 => (bnS (wi r10.2 163 k r10.1) fun σ13 => if (gi σ13 163 k) < 0 then (X9_readsAct_j69 N (nI k) σ13) else (if 2 ≤ (gi σ13 162 k) then (if (gi σ13 162 k) ≤ 2 then (X9_readsAct_j105 N (nI k) 0 (nI k) σ13) else (X9_readsAct_j105 N (nI k) 1 (nI k) σ13)) else (X9_readsAct_j69 N (nI k) σ13)))) := by
      unfold X9_readsAct
      rw [a2, Option.bind_some, h2, hin]
      simp only [if_true, hcl, bnS]
      rw [show gi (wi (wi a 149 12 (nI p + 1)) 162 k (nI (knd (t.getD p 0)))) 149 30 = nI k by rw [gi_wi_ne (by omega), giw, if_neg (by omega)]; exact h2, ← hb1, hb162, if_pos (nI_pos' (by omega))]
    rw [start]
    by_cases a3 : p + 1 < m ∧ isD (t.getD (p + 1) 0) = true
    · have hdg := dgI_pos a3.2
      obtain ⟨c, hc1⟩ : ∃ c, c = wi (wi b 149 12 (nI (p + 1) + 1)) 163 k (nI (t.getD (p + 1) 0 - 48)) := ⟨_, rfl⟩
      have hcR : RdR c t m (p + 2) := by rw [hc1]; exact hbR.next.fr (l := [163]) ((Fr.refl _ _).wi (by simp [pl])) (by decide)
      have hc163 : gi c 163 k = nI (t.getD (p + 1) 0 - 48) := by rw [hc1, giw, if_pos ⟨rfl, rfl⟩]
      have hc162 : gi c 162 k = nI (knd (t.getD p 0)) := by rw [hc1, gi_wi_ne (by omega), gi_wi_ne (by omega)]; exact hb162
      have hc30 : gi c 149 30 = nI (k + 1) := by rw [hc1, gi_wi_ne (by omega), giw, if_neg (by omega)]; exact hb30
      have fc : Fr nrL a c := by rw [hc1]; exact (fb.wi (by simp [pl, nrL])).wi (by simp [pl, nrL])
      have hold2 : ∀ j, j < k → gi c 162 j = gi a 162 j ∧ gi c 163 j = gi a 163 j ∧ gi c 164 j = gi a 164 j := by
        intro j hj
        have := hold j hj
        rw [hc1]
        refine ⟨?_, ?_, ?_⟩
        · rw [gi_wi_ne (by omega), gi_wi_ne (by omega)]; exact this.1
        · rw [giw, if_neg (by omega), gi_wi_ne (by omega)]; exact this.2.1
        · rw [gi_wi_ne (by omega), gi_wi_ne (by omega)]; exact this.2.2
      rw [number1_r (by omega) hbR hl hx a3.1 a3.2, Option.bind_some]
      simp only [bnS]
      rw [← hc1, hc163, if_neg (nI_pos (by omega)), hc162]
      by_cases a4 : dgB (t.getD p 0) = 2
      · rw [if_pos (show (2 : Int32) ≤ nI (knd (t.getD p 0)) from nI_le (a := 2) (ks.2.2.2.1.mpr a4) (by omega))]
        have hy := okD2 _ (get256 hx (p + 2))
        have ek := okD_2 a4 (t.getD (p + 2) 0)
        have body : ∀ s0 lo : Int32, (s0 = lo) → (s0 = 0 ∧ t.getD p 0 = 116 ∨ s0 = 1 ∧ t.getD p 0 ≠ 116) → ∃ a', X9_readsAct_j105 N (nI k) s0 (nI k) c = some (if nG0 t m p = true then 1 else 0, a') ∧ (nG0 t m p = true → nR t a' m (k + 1) (p + 1 + dgB (t.getD p 0))) ∧ (nG0 t m p = false → RdR a' t m (nF t m p)) ∧ Fr nrL a a' := by
          intro s0 lo e0 hs
          have eF : nF t m p = p + 2 := by unfold nF; rw [if_neg a1, if_pos ⟨a3.1, by rw [okD1 (by omega)]; exact a3.2⟩]
          have eflag : X9_flag N s0 c = some s0 := by rcases hs with ⟨z, _⟩ | ⟨z, _⟩ <;> rw [z] <;> rfl
          have iff1 : (s0 ≤ nI (t.getD (p + 2) 0) - 48 ∧ nI (t.getD (p + 2) 0) - 48 ≤ 9) ↔ okD (t.getD p 0) 1 (t.getD (p + 2) 0) = true := by
            rw [ek]
            rcases hs with ⟨z1, z2⟩ | ⟨z1, z2⟩
            · rw [z1, hy.1, decide_eq_true z2]; simp
            · rw [z1, hy.2.1, decide_eq_false z2]; simp
          have outb : ¬ (s0 ≤ nI (t.getD (p + 2) 0) - 48 ∧ nI (t.getD (p + 2) 0) - 48 ≤ 9) → (nI (t.getD (p + 2) 0) - 48 < s0 ∨ 9 < nI (t.getD (p + 2) 0) - 48) := by
            rcases hs with ⟨z1, z2⟩ | ⟨z1, z2⟩
            · rw [z1]; exact hy.2.2.2.1
            · rw [z1]; exact hy.2.2.2.2
          by_cases a5 : p + 2 < m ∧ okD (t.getD p 0) 1 (t.getD (p + 2) 0) = true
          · have eG : nG0 t m p = true := by
              unfold nG0
              rw [okD1 (by omega), a3.2, a5.2, a4, decide_eq_true a5.1]; rfl
            have hin2 := iff1.mpr a5.2
            have hisd : isD (t.getD (p + 2) 0) = true := by rw [ek, Bool.and_eq_true] at a5; exact a5.2.1
            rw [eG]
            refine ⟨wi (wi c 149 12 (nI (p + 2) + 1)) 164 k (nI (t.getD (p + 2) 0 - 48)), ?_, fun _ => ⟨?_, ?_, fun j hj => ?_⟩, fun z => Bool.noConfusion z, (fc.wi (by simp [pl, nrL])).wi (by simp [pl, nrL])⟩
            · rw [X9_readsAct_j105, eflag, Option.bind_some, digitIn_yes N hcR hl a5.1 hin2.1 hin2.2, Option.bind_some, hin, hy.2.2.1 hisd]
              simp only [if_true, hcl, bnS]
              rw [show gi (wi (wi c 149 12 (nI (p + 2) + 1)) 164 k (nI (t.getD (p + 2) 0 - 48))) 164 k = nI (t.getD (p + 2) 0 - 48) by rw [giw, if_pos ⟨rfl, rfl⟩], if_neg (nI_pos (by have := (dgI_pos hisd).2.1; omega))]
            · rw [a4]; exact hcR.next.fr (l := [164]) ((Fr.refl _ _).wi (by simp [pl])) (by decide)
            · rw [gi_wi_ne (by omega), giw, if_neg (by omega)]; exact hc30
            · rw [gi_wi_ne (by omega), gi_wi_ne (by omega), gi_wi_ne (by omega), gi_wi_ne (by omega)]
              by_cases y : j = k
              · subst y
                rw [← hp1]
                exact ⟨hc162, hc163, fun _ => by rw [giw, if_pos ⟨rfl, rfl⟩]⟩
              · have o := hold2 j (by omega)
                have := h3 j (by omega)
                exact ⟨o.1.trans this.1, o.2.1.trans this.2.1, fun u => by rw [giw, if_neg (by omega), gi_wi_ne (by omega)]; exact o.2.2.trans (this.2.2 u)⟩
          · have eG : nG0 t m p = false := by
              unfold nG0
              rw [a4]
              by_cases y : p + 2 < m
              · have : okD (t.getD p 0) 1 (t.getD (p + 2) 0) = false := by
                  cases u : okD (t.getD p 0) 1 (t.getD (p + 2) 0) with
                  | true => exact absurd ⟨y, u⟩ a5
                  | false => rfl
                rw [this]; simp
              · rw [decide_eq_false y]; simp
            rw [eG, eF]
            refine ⟨wi c 164 k (-1), ?_, fun z => Bool.noConfusion z, fun _ => hcR.fr (l := [164]) ((Fr.refl _ _).wi (by simp [pl])) (by decide), fc.wi (by simp [pl, nrL])⟩
            rw [X9_readsAct_j105, eflag, Option.bind_some, digitIn_no N hcR hl (by omega) (fun u => outb (fun w => a5 ⟨u, iff1.mp w⟩)), Option.bind_some, hin]
            simp only [if_true, hcl, bnS]
            rw [show gi (wi c 164 k (-1)) 164 k = -1 by rw [giw, if_pos ⟨rfl, rfl⟩], if_pos (by decide)]
            rfl
        by_cases a6 : t.getD p 0 = 116
        · rw [if_pos (show nI (knd (t.getD p 0)) ≤ (2 : Int32) from nI_le (b := 2) (ks.2.2.2.2.mpr (Or.inr a6)) (by decide))]
          exact body 0 0 rfl (Or.inl ⟨rfl, a6⟩)
        · rw [if_neg (show ¬ nI (knd (t.getD p 0)) ≤ (2 : Int32) from nI_ge (a := 2) (by have := ks.2.2.2.2; omega) (by omega))]
          exact body 1 1 rfl (Or.inr ⟨rfl, a6⟩)
      · have a5 : dgB (t.getD p 0) = 1 := by omega
        rw [if_neg (show ¬ (2 : Int32) ≤ nI (knd (t.getD p 0)) from nI_ge (b := 2) (by have := ks.2.2.2.1; omega) (by decide))]
        have eG : nG0 t m p = true := by
          unfold nG0
          rw [okD1 (by omega), a3.2, a5, decide_eq_true a3.1]; rfl
        rw [eG]
        refine ⟨c, ?_, fun _ => ⟨by rw [a5]; exact hcR, hc30, fun j hj => ?_⟩, fun z => Bool.noConfusion z, fc⟩
        · rw [X9_readsAct_j69, hin, if_pos rfl, hcl, hc163, if_neg (nI_pos (by omega))]
          rfl
        · by_cases y : j = k
          · subst y
            rw [← hp1]
            exact ⟨hc162, hc163, fun u => by omega⟩
          · have o := hold2 j (by omega)
            have := h3 j (by omega)
            exact ⟨o.1.trans this.1, o.2.1.trans this.2.1, fun u => o.2.2.trans (this.2.2 u)⟩
    · have eG : nG0 t m p = false := by
        unfold nG0
        rw [okD1 (by omega)]
        by_cases y : p + 1 < m
        · have : isD (t.getD (p + 1) 0) = false := by
            cases u : isD (t.getD (p + 1) 0) with
            | true => exact absurd ⟨y, u⟩ a3
            | false => rfl
          rw [this]; simp
        · rw [decide_eq_false (show ¬ p + dgB (t.getD p 0) < m by omega)]; simp
      have eF : nF t m p = p + 1 := by unfold nF; rw [if_neg a1, if_neg (by rw [okD1 (by omega)]; exact a3)]
      rw [eG, eF]
      refine ⟨wi b 163 k (-1), ?_, fun z => Bool.noConfusion z, fun _ => hbR.fr (l := [163]) ((Fr.refl _ _).wi (by simp [pl])) (by decide), fb.wi (by simp [pl, nrL])⟩
      rw [number0_r N hbR hl hx (by omega) a3, Option.bind_some]
      simp only [bnS]
      rw [show gi (wi b 163 k (-1)) 163 k = -1 by rw [giw, if_pos ⟨rfl, rfl⟩], if_pos (by decide), X9_readsAct_j69, hin, if_pos rfl, hcl, show gi (wi b 163 k (-1)) 163 k = -1 by rw [giw, if_pos ⟨rfl, rfl⟩], if_pos (by decide)]
      rfl
theorem night_l19 {N : Nat} (hN : 100 < N) {σ : Sg} {t : List Nat} (hl : t.length ≤ 80) (hx : ∀ x ∈ t, x < 256) {K : Nat} (hK : nK t (min t.length 60) K) (h : nR t σ (min t.length 60) 0 0) (k42 : Int32 → Int32 → Sg → Option (Int32 × Sg)) (v : Int32) : ∃ σ', X9_night_l19 N k42 N v 1 σ = k42 v (if nP t K = min t.length 60 then 1 else 0) σ' ∧ RdR σ' t (min t.length 60) (nE t (min t.length 60) K) ∧ (nP t K = min t.length 60 → nR t σ' (min t.length 60) K (nP t K)) ∧ Fr nrL σ σ' := by
  obtain ⟨m, hm⟩ : ∃ m, m = min t.length 60 := ⟨_, rfl⟩
  rw [← hm] at hK h ⊢
  obtain ⟨k1, k2⟩ := hK
  have hK1 := nP_2 k1 K (Nat.le_refl _)
  obtain ⟨N', hN'⟩ : ∃ k, N = k + 1 := ⟨N - 1, by omega⟩
  refine forL0 (L := fun n i a => X9_night_l19 N k42 (n + 1) v 1 a) (m := K) (N := N') (a := σ) (fun i a => nR t a m i (nP t i) ∧ Fr nrL σ a) (o := fun x => ∃ σ', x = k42 v (if nP t K = m then 1 else 0) σ' ∧ RdR σ' t m (nE t m K) ∧ (nP t K = m → nR t σ' m K (nP t K)) ∧ Fr nrL σ σ') (by omega) ⟨h, Fr.refl _ _⟩ ?_ ?_ |> fun z => by rw [hN'] at z ⊢; exact z
  · intro n i a hi hI
    obtain ⟨g1, g2⟩ := hI
    left
    have hg := nG0_n (k1 i hi)
    obtain ⟨a', b1, b2, b3, b4⟩ := readsAct_r (N := N) (by omega) hl hx (show m ≤ t.length by omega) (by omega) g1 (by omega)
    rw [k1 i hi, if_pos rfl] at b1
    refine ⟨a', ⟨b2 (k1 i hi), g2.trans b4⟩, ?_⟩
    rw [X9_night_l19, if_neg oneF, g1.1.1, g1.1.2.1, if_neg (nI_ge (by omega) (by omega)), b1, Option.bind_some]
  · intro n a hI
    obtain ⟨g1, g2⟩ := hI
    unfold nE
    rcases k2 with z | ⟨z1, z2⟩
    · refine ⟨a, ?_, by rw [if_pos z]; have := g1.1; rw [z] at this; exact this, fun _ => g1, g2⟩
      rw [X9_night_l19, if_neg oneF, g1.1.1, g1.1.2.1, if_pos (nI_le (by omega) (by omega)), if_pos z]
    · obtain ⟨a', b1, b2, b3, b4⟩ := readsAct_r (N := N) (by omega) hl hx (show m ≤ t.length by omega) (by omega) g1 z1
      rw [z2, if_neg (by decide)] at b1
      refine ⟨a', ?_, by rw [if_neg (by omega)]; exact b3 z2, fun u => by omega, g2.trans b4⟩
      rw [X9_night_l19, if_neg oneF, g1.1.1, g1.1.2.1, if_neg (nI_ge (by omega) (by omega)), b1, Option.bind_some, X9_night_l19, if_pos rfl, if_neg (by omega)]
