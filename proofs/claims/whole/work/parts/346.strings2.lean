/-! ===== strings: the reference reads ===== -/
theorem tg_in : ∀ n, n ≤ 8 → ∀ x, x < 256 → (48 ≤ x ∧ x - 48 < n) → (0 ≤ nI x - 48 ∧ nI x - 48 ≤ nI n - 1 ∧ nI x - 48 = nI (x - 48)) := by decide +kernel
theorem tg_out : ∀ n, n ≤ 8 → ∀ x, x < 256 → ¬ (48 ≤ x ∧ x - 48 < n) → (nI x - 48 < 0 ∨ nI n - 1 < nI x - 48) := by decide +kernel
theorem thingBut_yes (N : Nat) {σ : Sg} {t : List Nat} {m q : Nat} (h : RdR σ t m q) (hl : t.length ≤ 80) (hx : ∀ x ∈ t, x < 256) {n : Nat} (hn : gi σ 149 3 = nI n) (h8 : n ≤ 8) {r : Nat → Int32} (hr : rR σ 153 = r) (hq : q < m) (ht : tgP n r (t.getD q 0) = true) {v : Int32} (hv : ¬ nI (t.getD q 0 - 48) = v) : X9_thingBut N v σ = some (nI (t.getD q 0 - 48), wi σ 149 12 (nI q + 1)) := by
  have h1 := tgP_t ht
  have h2 := tg_in n h8 _ (get256 hx q) ⟨h1.1, h1.2.1⟩
  have e1 : gi (wi σ 149 12 (nI q + 1)) 149 3 = nI n := by rw [giw, if_neg (by omega)]; exact hn
  have e2 : rR (wi σ 149 12 (nI q + 1)) 153 = r := (rR_congr (gi_wi_ne (by omega))).trans hr
  unfold X9_thingBut
  rw [hn, digitIn_yes N h hl (lo := 0) (hi := nI n - 1) hq h2.1 h2.2.1, Option.bind_some, h2.2.2, if_neg (nI_pos (by omega)), if_neg hv, isHere_b N e1 h8 h1.2.1, e2, h1.2.2, if_neg (show ¬ false = true by decide), Option.bind_some, if_neg oneF]
theorem thingBut_no (N : Nat) {σ : Sg} {t : List Nat} {m q : Nat} (h : RdR σ t m q) (hl : t.length ≤ 80) (hx : ∀ x ∈ t, x < 256) {n : Nat} (hn : gi σ 149 3 = nI n) (h8 : n ≤ 8) {r : Nat → Int32} (hr : rR σ 153 = r) (hq : q < 2147483647) {v : Int32} (hv : q < m → tgP n r (t.getD q 0) = true → nI (t.getD q 0 - 48) = v) : ∃ σ', X9_thingBut N v σ = some (-1, σ') ∧ RdR σ' t m q ∧ Fr [3012] σ σ' := by
  unfold X9_thingBut
  rw [hn]
  by_cases z : q < m ∧ 48 ≤ t.getD q 0 ∧ t.getD q 0 - 48 < n
  · have h2 := tg_in n h8 _ (get256 hx q) z.2
    have e1 : gi (wi σ 149 12 (nI q + 1)) 149 3 = nI n := by rw [giw, if_neg (by omega)]; exact hn
    have e2 : rR (wi σ 149 12 (nI q + 1)) 153 = r := (rR_congr (gi_wi_ne (by omega))).trans hr
    have e3 : gi (wi σ 149 12 (nI q + 1)) 149 12 - 1 = nI q := by rw [giw, if_pos ⟨rfl, rfl⟩, nI1, nI_pred]
    have hb1 : X9_thingBut_j33 N (wi σ 149 12 (nI q + 1)) = some (-1, wi (wi σ 149 12 (nI q + 1)) 149 12 (nI q)) := by
      rw [X9_thingBut_j33, e3]; rfl
    refine ⟨wi (wi σ 149 12 (nI q + 1)) 149 12 (nI q), ?_, ⟨by rw [giw, if_pos ⟨rfl, rfl⟩], by rw [giw, if_neg (by omega), giw, if_neg (by omega)]; exact h.2.1, h.2.2.1, fun i hi => by rw [gi_wi_ne (by omega), gi_wi_ne (by omega)]; exact h.2.2.2 i hi⟩, ((Fr.refl _ _).wi (by simp [pl])).wi (by simp [pl])⟩
    rw [digitIn_yes N h hl (lo := 0) (hi := nI n - 1) z.1 h2.1 h2.2.1, Option.bind_some, h2.2.2, if_neg (nI_pos (by omega))]
    by_cases y : nI (t.getD q 0 - 48) = v
    · rw [if_pos y]; exact hb1
    · rw [if_neg y, isHere_b N e1 h8 z.2.2, e2]
      have hg : hb (r 32) (t.getD q 0 - 48) = true := by
        cases u : hb (r 32) (t.getD q 0 - 48) with
        | true => rfl
        | false => exact absurd (hv z.1 (by unfold tgP; rw [u, decide_eq_true z.2.1, decide_eq_true z.2.2]; rfl)) y
      rw [if_pos hg, Option.bind_some, if_pos rfl]; exact hb1
  · refine ⟨σ, ?_, h, Fr.refl _ _⟩
    rw [digitIn_no N h hl (by omega) (lo := 0) (hi := nI n - 1) (fun u => tg_out n h8 _ (get256 hx q) (fun s => z ⟨u, s⟩)), Option.bind_some, if_pos (show (-1 : Int32) < 0 by decide)]
def sR (t : List Nat) (a : Sg) (m c q : Nat) : Prop := RdR a t m q ∧ gi a 149 16 = nI c ∧ ∀ j, j < c → gi a 156 (2 * j) = nI (stA t j) ∧ gi a 156 (2 * j + 1) = nI (stB t j)
theorem strings_j67 {N : Nat} {a : Sg} {t : List Nat} {m c q : Nat} (h : sR t a m c q) (hc : c < 20) (x y : Int32) (f : Int32) (hf : f = 0 ∨ f = 1 ∧ x = nI (stA t c) ∧ y = nI (stB t c)) (kr : Int32 → Int32 → Int32 → Sg → Option (Int32 × Sg)) (v : Int32) : ∃ a', X9_strings_j67 N kr v x y f a = (if f = 0 then kr v f 0 a' else ((X9_takes N 59 a').bind fun r26 => (if r26.1 = 0 then (kr v f 0 r26.2) else (kr v f 1 r26.2)))) ∧ sR t a' m (if f = 0 then c else c + 1) q ∧ Fr [156, 3016] a a' := by
  obtain ⟨h1, h2, h3⟩ := h
  have e1 : gi (wi a 156 (2 * c) x) 149 16 = nI c := by rw [gi_wi_ne (by omega)]; exact h2
  have e2 : gi (wi (wi a 156 (2 * c) x) 156 (2 * c + 1) y) 149 16 = nI c := by rw [gi_wi_ne (by omega)]; exact e1
  refine ⟨wi (wi (wi a 156 (2 * c) x) 156 (2 * c + 1) y) 149 16 (nI c + f), ?_, ⟨h1.fr (l := [156, 3016]) ((((Fr.refl _ _).wi (by simp [pl])).wi (by simp [pl])).wi (by simp [pl])) (by decide), ?_, fun j hj => ?_⟩, (((Fr.refl _ _).wi (by simp [pl])).wi (by simp [pl])).wi (by simp [pl])⟩
  · rw [X9_strings_j67, h2, show (2 : Int32) = nI 2 from rfl, pk_mul, inbI (show 2 * c < 48 by omega) (by omega), if_pos rfl, clI (by omega)]
    simp only [bnS]
    rw [e1, pk_mul, nI1, inbI (show 2 * c + 1 < 48 by omega) (by omega), if_pos rfl, clI (by omega), e2]
    rcases hf with z | ⟨z, _, _⟩ <;> subst z <;> rfl
  · rw [giw, if_pos ⟨rfl, rfl⟩]
    rcases hf with z | ⟨z, _, _⟩ <;> subst z
    · rw [if_pos rfl]; exact nI_add c 0
    · rw [if_neg oneF, nI1]
  · rw [gi_wi_ne (by omega)]
    by_cases z : j = c
    · rcases hf with y1 | ⟨y1, y2, y3⟩
      · rw [if_pos y1] at hj; omega
      · subst z
        rw [giw, if_neg (by omega), giw, if_pos ⟨rfl, rfl⟩, giw, if_pos ⟨rfl, rfl⟩]
        exact ⟨y2, y3⟩
    · have hj' : j < c := by
        rcases hf with y1 | ⟨y1, y2, y3⟩
        · rw [if_pos y1] at hj; exact hj
        · rw [y1, if_neg oneF] at hj; omega
      rw [giw, if_neg (by omega), giw, if_neg (by omega), giw, if_neg (by omega), giw, if_neg (by omega)]
      exact h3 j hj'
theorem strings_l29 {N : Nat} (hN : 40 < N) {σ : Sg} {t : List Nat} (hl : t.length ≤ 80) (hx : ∀ x ∈ t, x < 256) {n : Nat} (hn : gi σ 149 3 = nI n) (h8 : n ≤ 8) {r : Nat → Int32} (hr : rR σ 153 = r) {q : Nat} (q1 : q ≤ min t.length 35) (q2 : ∀ i, i < q → srP t n r i = true) (q3 : q < min t.length 35 → srP t n r q = false) (h : sR t σ (min t.length 35) 0 0) (K : Int32 → Int32 → Sg → Option (Int32 × Sg)) (v : Int32) : ∃ σ', X9_strings_l29 N K N v 1 1 σ = K v (if q % 3 = 2 then 1 else 0) σ' ∧ sR t σ' (min t.length 35) ((q + 1) / 3) q ∧ Fr [3012, 156, 3016] σ σ' := by
  obtain ⟨N', hN'⟩ : ∃ k, N = k + 1 := ⟨N - 1, by omega⟩
  have tg : ∀ i, i % 3 ≠ 2 → srP t n r i = true → tgP n r (t.getD i 0) = true := by
    intro i hi hp
    unfold srP at hp
    rw [if_neg hi, Bool.and_eq_true] at hp
    exact hp.1
  have two : ∀ i a m0, 3 * i + 2 ≤ q → sR t a (min t.length 35) i (3 * i) → Fr [3012, 156, 3016] σ a → ∃ a', X9_strings_l29 N K (m0 + 1) v 1 1 a = ((X9_takes N 59 a').bind fun r26 => (if r26.1 = 0 then (X9_strings_l29 N K m0 v 1 0 r26.2) else (X9_strings_l29 N K m0 v 1 1 r26.2))) ∧ sR t a' (min t.length 35) (i + 1) (3 * i + 2) ∧ Fr [3012, 156, 3016] σ a' := by
    intro i a m0 hi g1 g2
    have hn' := (g2.g (k := 149) (j := 3) (by decide)).trans hn
    have hr' : rR a 153 = r := (rR_congr (g2.r (by simp [pl]))).trans hr
    have t0 := tg (3 * i) (by omega) (q2 _ (by omega))
    have t1 := tg (3 * i + 1) (by omega) (q2 _ (by omega))
    have ok := stOk_of h8 (c := i + 1) q2 (by omega) i (by omega)
    have y0 := thingBut_yes N g1.1 hl hx hn' h8 hr' (by omega) t0 (v := -1) (nIm1 (by have := tgP_t t0; omega))
    have f1 : Fr [3012, 156, 3016] a (wi a 149 12 (nI (3 * i) + 1)) := (Fr.refl _ _).wi (by simp [pl])
    have y1 := thingBut_yes N g1.1.next hl hx ((f1.g (k := 149) (j := 3) (by decide)).trans hn') h8 ((rR_congr (f1.r (by simp [pl]))).trans hr') (by omega) t1 (v := nI (t.getD (3 * i) 0 - 48)) (fun z => ok.2.2.1 ((nI_eq (show stA t i < 2147483648 by omega) (show stB t i < 2147483648 by omega)).mp z.symm))
    have s2 : sR t (wi (wi a 149 12 (nI (3 * i) + 1)) 149 12 (nI (3 * i + 1) + 1)) (min t.length 35) i (3 * i + 2) := ⟨g1.1.next.next, by rw [giw, if_neg (by omega), giw, if_neg (by omega)]; exact g1.2.1, fun j hj => by rw [gi_wi_ne (by omega), gi_wi_ne (by omega)]; exact g1.2.2 j hj⟩
    obtain ⟨a', b1, b2, b3⟩ := strings_j67 (N := N) s2 (by omega) (nI (t.getD (3 * i) 0 - 48)) (nI (t.getD (3 * i + 1) 0 - 48)) 1 (Or.inr ⟨rfl, rfl, rfl⟩) (fun v1 v2 v3 σ => X9_strings_l29 N K m0 v1 v2 v3 σ) v
    rw [if_neg oneF] at b1 b2
    refine ⟨a', ?_, b2, ((g2.trans f1).wi (by simp [pl])).trans (b3.mono (by decide))⟩
    rw [X9_strings_l29, if_neg oneF, y0, Option.bind_some, if_pos (nI_pos' (by have := tgP_t t0; omega)), y1, Option.bind_some, X9_strings_j55, if_neg (nI_pos (by have := tgP_t t1; omega)), b1]
  refine forL0 (L := fun m i a => X9_strings_l29 N K (m + 1) v 1 1 a) (m := q / 3) (N := N') (a := σ) (fun i a => sR t a (min t.length 35) i (3 * i) ∧ Fr [3012, 156, 3016] σ a) (o := fun x => ∃ σ', x = K v (if q % 3 = 2 then 1 else 0) σ' ∧ sR t σ' (min t.length 35) ((q + 1) / 3) q ∧ Fr [3012, 156, 3016] σ σ') (by omega) ⟨h, Fr.refl _ _⟩ ?_ ?_ |> fun z => by rw [hN'] at z ⊢; exact z
  · intro m i a hi hI
    obtain ⟨g1, g2⟩ := hI
    left
    obtain ⟨a', b1, b2, b3⟩ := two i a (m + 1) (by omega) g1 g2
    have h59 : t.getD (3 * i + 2) 0 = 59 := by
      have := q2 (3 * i + 2) (by omega)
      unfold srP at this
      rw [if_pos (by omega), decide_eq_true_eq] at this; exact this
    have et := takes_yes N b2.1 hl (v := 59) (by omega) (by rw [h59]; rfl)
    refine ⟨wi a' 149 12 (nI (3 * i + 2) + 1), ⟨⟨b2.1.next, by rw [giw, if_neg (by omega)]; exact b2.2.1, fun j hj => by rw [gi_wi_ne (by omega)]; exact b2.2.2 j hj⟩, b3.wi (by simp [pl])⟩, ?_⟩
    rw [b1, et, Option.bind_some, if_neg oneF]
  · intro m a hI
    obtain ⟨g1, g2⟩ := hI
    have hn' := (g2.g (k := 149) (j := 3) (by decide)).trans hn
    have hr' : rR a 153 = r := (rR_congr (g2.r (by simp [pl]))).trans hr
    by_cases z : q % 3 = 2
    · have eq : 3 * (q / 3) + 2 = q := by omega
      obtain ⟨a', b1, b2, b3⟩ := two (q / 3) a (m + 1) (by omega) g1 g2
      rw [eq] at b2
      have et := takes_no N b2.1 hl (v := 59) (by omega) (fun y u => by
        have := q3 y
        unfold srP at this
        rw [if_pos z, (e59 _ (get256 hx _)).mp u] at this
        exact absurd this (by decide))
      refine ⟨wi a' 149 12 (nI q + 0), ?_, ⟨et.2, by rw [giw, if_neg (by omega), show (q + 1) / 3 = q / 3 + 1 by omega]; exact b2.2.1, fun j hj => by rw [gi_wi_ne (by omega)]; exact b2.2.2 j (by omega)⟩, b3.wi (by simp [pl])⟩
      rw [b1, et.1, Option.bind_some, if_pos rfl, X9_strings_l29, if_pos rfl, if_pos z]
    · rw [if_neg z]
      have ec : (q + 1) / 3 = q / 3 := by omega
      rw [ec]
      have hf : q < min t.length 35 → tgP n r (t.getD q 0) = true → q % 3 = 1 ∧ t.getD (q - 1) 0 = t.getD q 0 := by
        intro y u
        have := q3 y
        unfold srP at this
        rw [if_neg z, u] at this
        simp only [Bool.true_and, Bool.or_eq_false_iff, decide_eq_false_iff_not, Bool.not_eq_false', decide_eq_true_eq] at this
        exact ⟨by omega, this.2⟩
      by_cases y : q % 3 = 0
      · have eq : 3 * (q / 3) = q := by omega
        rw [eq] at g1
        obtain ⟨a1, b1, b2, b3⟩ := thingBut_no N g1.1 hl hx hn' h8 hr' (by omega) (v := -1) (fun u1 u2 => by have := hf u1 u2; omega)
        have s2 : sR t a1 (min t.length 35) (q / 3) q := ⟨b2, (b3.g (k := 149) (j := 16) (by decide)).trans g1.2.1, fun j hj => by rw [b3.g (k := 156) (by simp [pl]), b3.g (k := 156) (by simp [pl])]; exact g1.2.2 j hj⟩
        obtain ⟨a', d1, d2, d3⟩ := strings_j67 (N := N) s2 (by omega) (-1) (-1) 0 (Or.inl rfl) (fun v1 v2 v3 σ => X9_strings_l29 N K (m + 1) v1 v2 v3 σ) v
        rw [if_pos rfl] at d1 d2
        refine ⟨a', ?_, d2, (g2.trans (b3.mono (by decide))).trans (d3.mono (by decide))⟩
        rw [X9_strings_l29, if_neg oneF, b1, Option.bind_some, if_neg (show ¬ (0 : Int32) ≤ -1 by decide), X9_strings_j55, if_pos (show (-1 : Int32) < 0 by decide), d1, X9_strings_l29, if_pos rfl]
      · have eq : 3 * (q / 3) + 1 = q := by omega
        have t0 := tg (3 * (q / 3)) (by omega) (q2 _ (by omega))
        have y0 := thingBut_yes N g1.1 hl hx hn' h8 hr' (by omega) t0 (v := -1) (nIm1 (by have := tgP_t t0; omega))
        have f1 : Fr [3012, 156, 3016] a (wi a 149 12 (nI (3 * (q / 3)) + 1)) := (Fr.refl _ _).wi (by simp [pl])
        have g3 := g1.1.next
        rw [eq] at g3
        obtain ⟨a1, b1, b2, b3⟩ := thingBut_no N g3 hl hx ((f1.g (k := 149) (j := 3) (by decide)).trans hn') h8 ((rR_congr (f1.r (by simp [pl]))).trans hr') (by omega) (v := nI (t.getD (3 * (q / 3)) 0 - 48)) (fun u1 u2 => by
          have := (hf u1 u2).2
          rw [← this, show q - 1 = 3 * (q / 3) by omega])
        have f2 := f1.trans (b3.mono (l' := [3012, 156, 3016]) (by decide))
        have s2 : sR t a1 (min t.length 35) (q / 3) q := ⟨b2, by rw [b3.g (k := 149) (j := 16) (by decide), giw, if_neg (by omega)]; exact g1.2.1, fun j hj => by rw [b3.g (k := 156) (by simp [pl]), b3.g (k := 156) (by simp [pl]), gi_wi_ne (by omega)]; exact g1.2.2 j hj⟩
        obtain ⟨a', d1, d2, d3⟩ := strings_j67 (N := N) s2 (by omega) (nI (t.getD (3 * (q / 3)) 0 - 48)) (-1) 0 (Or.inl rfl) (fun v1 v2 v3 σ => X9_strings_l29 N K (m + 1) v1 v2 v3 σ) v
        rw [if_pos rfl] at d1 d2
        refine ⟨a', ?_, d2, (g2.trans f2).trans (d3.mono (by decide))⟩
        rw [X9_strings_l29, if_neg oneF, y0, Option.bind_some, if_pos (nI_pos' (by have := tgP_t t0; omega)), b1, Option.bind_some, X9_strings_j55, if_pos (show (-1 : Int32) < 0 by decide), d1, X9_strings_l29, if_pos rfl]
