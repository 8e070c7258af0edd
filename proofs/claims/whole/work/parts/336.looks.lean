/-! ===== looks ===== -/
def fiM (A : Ab) : Int32 := mkB (fiP A) A.1.1
def yeS (A : Ab) (t h : Nat) : Int32 := sumB (hb (fiM A)) (fun j => bitI (flx A.1 A.2.1 j h) t) A.1.1
def vaS (A : Ab) (t h : Nat) : Int32 := if yeS A t h < popI (fiM A) - yeS A t h then popI (fiM A) - yeS A t h else yeS A t h
abbrev Ks : Type := Option (Int32 × Nat)
def lkM (v : Int32) (p : Nat) : Ks → Ks
  | none => some (v, p)
  | some x => if x.1 ≤ v then some x else some (v, p)
def lkF (A : Ab) (t h : Nat) (s : Ks) : Ks := lkM (vaS A t h) (21 * t + h) s
def lk9 (d : Int32) : Ks → Int32
  | none => d
  | some x => x.1
def lkP (d : Int32) : Ks → Int32
  | none => d
  | some x => nI x.2
theorem hb_fiM {A : Ab} (h8 : A.1.1 ≤ 8) (i : Nat) : hb (fiM A) i = (decide (i < A.1.1) && fiP A i) := hb_n _ h8 i
theorem ye_le {A : Ab} (h8 : A.1.1 ≤ 8) (t h : Nat) : ∃ y, y ≤ cntB (hb (fiM A)) 8 ∧ yeS A t h = nI y := by
  have key : ∀ n, ∃ y, y ≤ cntB (hb (fiM A)) n ∧ sumB (hb (fiM A)) (fun j => bitI (flx A.1 A.2.1 j h) t) n = nI y := by
    intro n
    induction n with
    | zero => exact ⟨0, Nat.le_refl _, rfl⟩
    | succ n ih =>
      obtain ⟨y, h1, h2⟩ := ih
      unfold sumB cntB
      rw [h2]
      cases hb (fiM A) n
      · exact ⟨y, by simpa using h1, by simp⟩
      · unfold bitI
        by_cases q : hb (flx A.1 A.2.1 n h) t = true
        · exact ⟨y + 1, by simp; omega, by simp [q, nI1]⟩
        · exact ⟨y, by simp; omega, by simp [q]⟩
  obtain ⟨y, h1, h2⟩ := key A.1.1
  refine ⟨y, Nat.le_trans h1 ?_, h2⟩
  have : ∀ m, cntB (hb (fiM A)) A.1.1 ≤ cntB (hb (fiM A)) (A.1.1 + m) := by
    intro m
    induction m with
    | zero => exact Nat.le_refl _
    | succ m ih => show _ ≤ cntB (hb (fiM A)) (A.1.1 + m) + _; omega
  have := this (8 - A.1.1)
  rwa [show A.1.1 + (8 - A.1.1) = 8 by omega] at this
theorem fiM_out {A : Ab} (h8 : A.1.1 ≤ 8) (i : Nat) (hi : A.1.1 ≤ i) : hb (fiM A) i = false := by rw [hb_fiM h8, decide_eq_false (by omega)]; rfl
theorem va_nI {A : Ab} (h8 : A.1.1 ≤ 8) (t h : Nat) : ∃ u, u ≤ 8 ∧ vaS A t h = nI u := by
  obtain ⟨y, hy, ey⟩ := ye_le h8 t h
  have hc := cntB_le (hb (fiM A)) 8
  have ep : popI (fiM A) = nI (cntB (hb (fiM A)) 8) := popI_eq (fun i hi => fiM_out h8 i (by omega))
  unfold vaS
  rw [ey, ep, pk_sub hy]
  split
  · exact ⟨_, by omega, rfl⟩
  · exact ⟨y, by omega, rfl⟩
theorem lkF_some (A : Ab) (t h : Nat) (s : Ks) : ∃ x, lkF A t h s = some x := by
  unfold lkF lkM
  cases s with
  | none => exact ⟨_, rfl⟩
  | some y => dsimp only; split <;> exact ⟨_, rfl⟩
theorem reS_some (A : Ab) (a : Nat) (ha : 0 < a) : ∃ x, reS (lkF A) 21 none a 0 = some x := by
  obtain ⟨a, rfl⟩ : ∃ k, a = k + 1 := ⟨a - 1, by omega⟩
  rw [reS_n, reS_s]
  exact lkF_some _ _ _ _
theorem lt20 {i : Nat} (h : i < 21) : ¬ (20 : Int32) < nI i := nI_nlt (a := 20) (by omega) (by decide)
theorem lt20' : (20 : Int32) < nI 21 := by decide
theorem count_c {N : Nat} (hN : 8 < N) {σ : Sg} {A : Ab} (h8 : A.1.1 ≤ 8) (ht : ∀ i, i < A.1.1 → hb (A.2.1 32) i = false → ∀ h, h < 21 → gi σ (133 + i) h = flx A.1 A.2.1 i h) {t h : Nat} (ht8 : t < 8) (hh : h < 21) : X7_countFloating N (fiM A) (nI t) (nI h) σ = some (yeS A t h) := by
  have e8 : sumB (hb (fiM A)) (fun j => bitI (flx A.1 A.2.1 j h) t) 8 = yeS A t h := sumB_8 h8 (fun i hi _ hx => by rw [fiM_out h8 i hi] at hx; cases hx)
  unfold X7_countFloating
  refine forL0 (L := fun m i a => X7_countFloating_l6 N σ m (fiM A) (nI t) (nI h) a (nI i)) (m := 8) (fun i a => a = sumB (hb (fiM A)) (fun j => bitI (flx A.1 A.2.1 j h) t) i) (o := fun x => x = some (yeS A t h)) hN rfl ?_ ?_
  · intro m i a hi ha
    subst ha
    left
    refine ⟨_, rfl, ?_⟩
    show _ = X7_countFloating_l6 N σ m (fiM A) (nI t) (nI h) (sumB (hb (fiM A)) (fun j => bitI (flx A.1 A.2.1 j h) t) i + (if hb (fiM A) i = true then bitI (flx A.1 A.2.1 i h) t else 0)) _
    rw [X7_countFloating_l6, if_neg (c8 hi)]
    by_cases q : hb (fiM A) i = true
    · have q0 := q
      rw [hb_fiM h8, Bool.and_eq_true] at q0
      have hin := of_decide_eq_true q0.1
      have hg : hb (A.2.1 32) i = false := by
        have := q0.2
        unfold fiP at this
        rw [Bool.and_eq_true] at this
        simpa using this.1
      rw [if_pos ((hasT _ (by omega)).mpr q), if_pos q, inbI (show i < 9 by omega) (by omega), clI (show i < 2147483648 by omega), if_pos rfl, (l132 i (by omega)).1, Option.bind_some, (l132 i (by omega)).2, if_pos rfl, inbI hh (by omega), clI (show h < 2147483648 by omega), if_pos rfl, ht i hin hg h hh, sh1 _ (by omega), nI1]
    · rw [if_neg (fun z => q ((hasT _ (by omega)).mp z)), if_neg q, nI1]
      simp
  · intro m a ha
    rw [X7_countFloating_l6, if_pos c8', ha, e8]
theorem yes_r {N : Nat} (hN : 8 < N) {σ : Sg} {A : Ab} (hn : gi σ 149 3 = nI A.1.1) (h8 : A.1.1 ≤ 8) (ht : ∀ i, i < A.1.1 → hb (A.2.1 32) i = false → ∀ h, h < 21 → gi σ 172 (21 * i + h) = flx A.1 A.2.1 i h) (k108 : Int32 → Int32 → Int32 → Int32 → Int32 → Int32 → Sg → Option (Int32 × Sg)) (v2 v3 : Int32) {t h : Nat} (ht8 : t < 8) (hh : h < 21) : X9_looks_l51 N k108 N (fiM A) v2 v3 (nI t) (nI h) 0 0 σ = k108 (fiM A) v2 v3 (nI t) (nI h) (yeS A t h) σ := by
  refine forL0 (L := fun m i a => X9_looks_l51 N k108 m (fiM A) v2 v3 (nI t) (nI h) a (nI i) σ) (m := A.1.1) (fun i a => a = sumB (hb (fiM A)) (fun j => bitI (flx A.1 A.2.1 j h) t) i) (o := fun x => x = k108 (fiM A) v2 v3 (nI t) (nI h) (yeS A t h) σ) (by omega) rfl ?_ ?_
  · intro m i a hi ha
    subst ha
    left
    refine ⟨_, rfl, ?_⟩
    show _ = X9_looks_l51 N k108 m (fiM A) v2 v3 (nI t) (nI h) (sumB (hb (fiM A)) (fun j => bitI (flx A.1 A.2.1 j h) t) i + (if hb (fiM A) i = true then bitI (flx A.1 A.2.1 i h) t else 0)) _ σ
    rw [X9_looks_l51, hn, if_neg (n_le hi (by omega)), has_b N _ (by omega), Option.bind_some]
    by_cases q : hb (fiM A) i = true
    · have q0 := q
      rw [hb_fiM h8, Bool.and_eq_true] at q0
      have hg : hb (A.2.1 32) i = false := by
        have := q0.2
        unfold fiP at this
        rw [Bool.and_eq_true] at this
        simpa using this.1
      rw [if_pos q, if_neg oneF, if_pos q, show X9_place N (nI i) (nI h) σ = some (21 * nI i + nI h) from rfl, Option.bind_some, show (21 : Int32) * nI i = nI (21 * i) from pk_mul 21 _, nI_add, inbI (show 21 * i + h < 189 by omega) (by omega), clI (show 21 * i + h < 2147483648 by omega), if_pos rfl, ht i hi hg h hh, has_b N _ (by omega), Option.bind_some]
      unfold bitI
      by_cases z : hb (flx A.1 A.2.1 i h) t = true
      · rw [if_pos z, if_neg oneF, show X9_flag N 1 σ = some 1 from rfl, Option.bind_some, nI1]
      · rw [if_neg z, if_pos rfl, X9_looks_j95, show X9_flag N 0 σ = some 0 from rfl, Option.bind_some, nI1]
    · rw [if_neg q, if_pos rfl, if_neg q, X9_looks_j95, show X9_flag N 0 σ = some 0 from rfl, Option.bind_some, nI1]
  · intro m a ha
    rw [X9_looks_l51, hn, if_pos (nI_le (Nat.le_refl _) (by omega)), ha]
    rfl
theorem looks_op {N : Nat} (hN : 555 < N) {H : Nat} {A : Ab} (hA : OkA H A) (hH : H < 1000000) : OpB (X8_looks N) (X9_looks N) H A := by
  have h8 := hA.1.1.2.2.2.2
  have ep : popI (fiM A) = nI (cntB (hb (fiM A)) 8) := popI_eq (fun i hi => fiM_out h8 i (by omega))
  have hc := cntB_le (hb (fiM A)) 8
  by_cases h0 : fiM A = 0
  · refine OpB.told hA (-2) A.2.2.2.1 hA.2.2.1 (fun σ hσ => ?_) (fun σ hσ => ?_)
    · obtain ⟨σ1, a1, a2, a3⟩ := fit_c (N := N) (by omega) hσ hA hH
      refine ⟨σ1, ?_, hσ.2.2.2.1.fr a3 (by decide), a3.mono (by decide)⟩
      unfold X8_looks
      rw [a1, Option.bind_some, bitCount_eq, Option.bind_some, if_pos (show popI (mkB (fiP A) A.1.1) = 0 by rw [show mkB (fiP A) A.1.1 = 0 from h0]; decide +kernel)]
    · have f0 := thrown_f σ 0
      obtain ⟨σ1, a1, a2, a3⟩ := fit_r (N := N) (by omega) (hσ.1.fr f0 (by decide)) ((rR_congr (f0.r (by simp [pl]))).trans hσ.2.1) (hσ.2.2.2.2.2.2.fr f0 (by decide)) hA hH
      refine ⟨σ1, ?_, (hσ.2.2.2.1.fr f0 (by decide)).fr a3 (by decide), (f0.mono (by decide)).trans (a3.mono (by decide))⟩
      unfold X9_looks
      simp only [bnS]
      rw [a1, Option.bind_some, if_pos (show mkB (fiP A) A.1.1 = 0 from h0)]
  · have hn0 : 0 < A.1.1 := by
      obtain ⟨i, _, hi⟩ := ne0_bit h0
      rcases Nat.lt_or_ge i A.1.1 with z | z
      · omega
      · rw [fiM_out h8 i z] at hi; cases hi
    have hp0 : ¬ popI (fiM A) = 0 := by
      obtain ⟨i, _, hi⟩ := ne0_bit h0
      have hi8 : i < 8 := by
        rcases Nat.lt_or_ge i 8 with z | z
        · exact z
        · rw [fiM_out h8 i (by omega)] at hi; cases hi
      have := cntB_lt_of hi8 hi
      rw [ep]
      exact nI_ne0 (by omega) (by omega)
    obtain ⟨x, hx⟩ := reS_some A A.1.1 hn0
    have hstep : ∀ (d : Int32) (s : Ks) (t h : Nat), (s = none → d ≤ vaS A t h → False) → (lk9 d s ≤ vaS A t h → lkF A t h s = s) ∧ (¬ lk9 d s ≤ vaS A t h → lkF A t h s = some (vaS A t h, 21 * t + h)) := by
      intro d s t h hd
      cases s with
      | none => exact ⟨fun z => (hd rfl z).elim, fun _ => rfl⟩
      | some y => exact ⟨fun z => if_pos z, fun z => if_neg z⟩
    have hd9 : ∀ (s : Ks) t h, s = none → (9 : Int32) ≤ vaS A t h → False := by
      intro _ t h _ z
      obtain ⟨u, hu, eu⟩ := va_nI h8 t h
      rw [eu] at z
      exact absurd z (nI_ge (b := 9) (by omega) (by decide))
    have hdm : ∀ (s : Ks) t h, s = none → (1000000 : Int32) ≤ vaS A t h → False := by
      intro _ t h _ z
      obtain ⟨u, hu, eu⟩ := va_nI h8 t h
      rw [eu] at z
      exact absurd z (nI_ge (b := 1000000) (by omega) (by decide))
    refine OpB.told hA (nI x.2) [x.1.toInt64] (by simp) (fun σ hσ => ?_) (fun σ hσ => ?_)
    · obtain ⟨σ1, a1, a2, a3⟩ := fit_c (N := N) (by omega) hσ hA hH
      have n1 : gi σ1 5 1 = nI A.1.1 := (hσ.1.fr a3 (by decide)).n.1
      obtain ⟨σ2, g1, g2, g3⟩ := tell1_c N x.1.toInt64 σ1
      refine ⟨σ2, ?_, g2, (a3.mono (by decide)).trans (g3.mono (by decide))⟩
      unfold X8_looks
      rw [a1, Option.bind_some, bitCount_eq, Option.bind_some, if_neg (show ¬ popI (mkB (fiP A) A.1.1) = 0 from hp0)]
      refine rectL (p := A.1.1) (q := 21) (N := N) (Lo := fun m a (s : Ks) => X8_looks_l26 N m (fiM A) (popI (fiM A)) (lk9 9 s) (lkP 0 s) (nI a) σ1)
        (Li := fun m a f b s => X8_looks_l41 N (fun v1 v2 v3 v4 v5 σ => X8_looks_j98 N (fun v1 v2 v3 v4 v5 σ => X8_looks_l26 N m v1 v2 v3 v4 v5 σ) v1 v2 v3 v4 v5 σ) f (fiM A) (popI (fiM A)) (lk9 9 s) (lkP 0 s) (nI a) (nI b) σ1)
        (fun a b s => s = reS (lkF A) 21 none a b) (o := fun y => y = some (nI x.2, σ2)) (by omega) (by omega) ?_ ?_ ?_ ?_ ?_ (s0 := none) rfl
      · intro m a s ha _
        rw [X8_looks_l26, n1, if_neg (n_le ha (by omega))]
        rfl
      · intro m a f b s ha hb1 hI
        refine ⟨lkF A a b s, by rw [reS_s, hI], ?_⟩
        rw [X8_looks_l41, if_neg (lt20 hb1), count_c (by omega) h8 a2 (by omega) hb1, Option.bind_some, max_b, Option.bind_some, show (if yeS A a b < popI (fiM A) - yeS A a b then popI (fiM A) - yeS A a b else yeS A a b) = vaS A a b from rfl, nI1]
        by_cases z : lk9 9 s ≤ vaS A a b
        · rw [if_pos z, (hstep 9 s a b (hd9 s a b)).1 z]
        · rw [if_neg z, (hstep 9 s a b (hd9 s a b)).2 z, show nI a * 21 = nI (a * 21) from pk_mul a 21, nI_add, Nat.mul_comm a 21]
          rfl
      · intro m a f s ha _
        rw [X8_looks_l41, if_pos lt20', X8_looks_j98, nI1]
      · intro a s ha hI
        rw [reS_n]; exact hI
      · intro m s hI
        rw [X8_looks_l26, n1, if_pos (nI_le (Nat.le_refl _) (by omega)), hI, hx]
        show (X2_tell N x.1.toInt64 σ1).bind _ = _
        rw [g1]
        rfl
    · have f0 := thrown_f σ 0
      have c1 := hσ.1.fr f0 (by decide)
      obtain ⟨σ1, a1, a2, a3⟩ := fit_r (N := N) (by omega) c1 ((rR_congr (f0.r (by simp [pl]))).trans hσ.2.1) (hσ.2.2.2.2.2.2.fr f0 (by decide)) hA hH
      have n1 : gi σ1 149 3 = nI A.1.1 := (c1.fr a3 (by decide)).1
      have tf := told0_f σ1
      obtain ⟨σ2, g1, g2, g3⟩ := enters_r N (told0_r σ1) (by decide) x.1.toInt64
      refine ⟨σ2, ?_, g2, ((f0.mono (by decide)).trans (a3.mono (by decide))).trans ((tf.trans g3).mono (by decide))⟩
      unfold X9_looks
      simp only [bnS]
      rw [a1, Option.bind_some, if_neg (show ¬ mkB (fiP A) A.1.1 = 0 from h0)]
      refine rectL (p := A.1.1) (q := 21) (N := N) (Lo := fun m a (s : Ks) => X9_looks_l26 N (fun v2 v3 σ => X9_looks_j160 N v2 v3 σ) m (fiM A) (lkP (-1) s) (lk9 1000000 s) (nI a) σ1)
        (Li := fun m a f b s => X9_looks_l38 N (fun v1 v2 v3 v4 σ => X9_looks_j154 N (fun v1 v2 v3 v4 σ => X9_looks_l26 N (fun v2 v3 σ => X9_looks_j160 N v2 v3 σ) m v1 v2 v3 v4 σ) v1 v2 v3 v4 σ) f (fiM A) (lkP (-1) s) (lk9 1000000 s) (nI a) (nI b) σ1)
        (fun a b s => s = reS (lkF A) 21 none a b) (o := fun y => y = some (nI x.2, σ2)) (by omega) (by omega) ?_ ?_ ?_ ?_ ?_ (s0 := none) rfl
      · intro m a s ha _
        rw [X9_looks_l26, n1, if_neg (n_le ha (by omega))]
        rfl
      · intro m a f b s ha hb1 hI
        refine ⟨lkF A a b s, by rw [reS_s, hI], ?_⟩
        rw [X9_looks_l38, if_neg (lt20 hb1), yes_r (by omega) n1 h8 a2 _ _ _ (by omega) hb1, X9_looks_j108, bitCount_eq, Option.bind_some, max_b, Option.bind_some, show (if yeS A a b < popI (fiM A) - yeS A a b then popI (fiM A) - yeS A a b else yeS A a b) = vaS A a b from rfl]
        by_cases z : lk9 1000000 s ≤ vaS A a b
        · rw [if_pos z, (hstep 1000000 s a b (hdm s a b)).1 z, X9_looks_j140, min_b, Option.bind_some, if_neg (Int32.not_lt.mpr z), nI1]
        · rw [if_neg z, (hstep 1000000 s a b (hdm s a b)).2 z, X9_looks_j140, min_b, Option.bind_some, if_pos (Int32.not_le.mp z), show (21 : Int32) * nI a = nI (21 * a) from pk_mul 21 a, nI_add, nI1]
          rfl
      · intro m a f s ha _
        rw [X9_looks_l38, if_pos lt20', X9_looks_j154, nI1]
      · intro a s ha hI
        rw [reS_n]; exact hI
      · intro m s hI
        rw [X9_looks_l26, n1, if_pos (nI_le (Nat.le_refl _) (by omega)), hI, hx, X9_looks_j160]
        simp only [bnS]
        show (X9_enters N x.1.toInt64 _).bind _ = _
        rw [g1]
        rfl
