/-! ===== night: acts ===== -/
def acS (L : Ld) (r : Nat → Int32) (x a b : Nat) : Int32 × (Nat → Int32) :=
  if x = 103 then (if a < L.1 then backS r a (nI b) else (-1, r))
  else if x = 108 then (if a < L.1 then lendS r a (nI b) else (-1, r))
  else if x = 110 then (lsS L r a, hrS L r a)
  else if x = 116 then (if a < L.1 ∧ b < L.1 ∧ a ≠ b then tieS r a b else (-1, r))
  else (if a < L.1 then payS r a else (-1, r))
def acOk (x a b : Nat) : Prop := 0 < dgB x ∧ a ≤ 9 ∧ (dgB x = 2 → b ≤ 9 ∧ (x = 116 ∨ 1 ≤ b))
theorem dgB_x {x : Nat} (h : 0 < dgB x) : x = 103 ∨ x = 108 ∨ x = 110 ∨ x = 116 ∨ x = 112 := by
  unfold dgB at h
  by_cases z : x = 103 ∨ x = 108 ∨ x = 116
  · omega
  · rw [if_neg z] at h
    by_cases y : x = 110 ∨ x = 112
    · omega
    · rw [if_neg y] at h; omega
theorem noT' {n a : Nat} (h : ¬ a < n) (ha : a < 2147483648) : noThing n (nI a) := Or.inr (nI_le (by omega) (by omega))
theorem sumB_n {f : Nat → Bool} {g : Nat → Int32} {S : Nat} (n : Nat) (h : ∀ i, i < n → ∃ s, s ≤ S ∧ g i = nI s) : ∃ s, s ≤ S * n ∧ sumB f g n = nI s := by
  induction n with
  | zero => exact ⟨0, Nat.le_refl _, rfl⟩
  | succ n ih =>
    obtain ⟨s, h1, h2⟩ := ih (fun i hi => h i (by omega))
    obtain ⟨u, h3, h4⟩ := h n (by omega)
    rw [sumB, h2]
    split
    · exact ⟨s + u, by rw [Nat.mul_succ]; omega, by rw [h4, nI_add]⟩
    · exact ⟨s, by rw [Nat.mul_succ]; omega, nI_add s 0⟩
theorem lsS_n {L : Ld} {r : Nat → Int32} {H : Nat} (hW : WF L.1 9 H r) (q : Nat) : ∃ s, s ≤ 72 * q ∧ lsS L r q = nI s := by
  have h8 : L.1 ≤ 8 := hW.1.2.2.2.2
  induction q with
  | zero => exact ⟨0, Nat.le_refl _, rfl⟩
  | succ q ih =>
    obtain ⟨s, h1, h2⟩ := ih
    have hq := hrS_wf (by omega) hW q
    obtain ⟨u, h3, h4⟩ := sumB_n (f := diesS L (hrS L r q)) (g := hrS L r q) (S := 9) L.1 (fun i hi => (hq.2.2.1 i (by omega)).1)
    exact ⟨s + u, by omega, by rw [lsS, h2, h4, nI_add]⟩
theorem dig_any (N : Nat) {σ : Sg} {t : List Nat} (h : TxC σ t) (hl : t.length ≤ 80) (hx : ∀ x ∈ t, x < 256) (i : Nat) (hi : i < 2147483648) : ∃ y, X6_digitAt N (nI i) σ = some y := by
  by_cases z : i < t.length
  · exact ⟨_, dig_c N h hl hx z⟩
  · refine ⟨-1, ?_⟩
    unfold X6_digitAt X6_at
    rw [if_neg (nI_pos (by omega)), h.1, if_pos (nI_le (by omega) (by omega)), Option.bind_some, if_pos (by decide)]
theorem b19 {b : Nat} (h1 : 1 ≤ b) (h2 : b ≤ 9) : ¬ nI b < 1 ∧ nI b ≤ 9 := ⟨nI_nlt (b := 1) (by omega) (by omega), nI_le (b := 9) h2 (by decide)⟩
theorem act_c {N : Nat} (hN : 555 < N) {σ : Sg} {L : Ld} {r : Nat → Int32} {H : Nat} {t : List Nat} (h : TxC σ t) (hl : t.length ≤ 80) (hx : ∀ x ∈ t, x < 256) (hR : RuC σ L) (hr : rC σ 19 = r) (hW : WF L.1 9 H r) (hH : H < 2000000) {p : Nat} (hp : p + dgB (t.getD p 0) < t.length) (ok : acOk (t.getD p 0) (t.getD (p + 1) 0 - 48) (t.getD (p + 2) 0 - 48)) (d1 : isD (t.getD (p + 1) 0) = true) (d2 : dgB (t.getD p 0) = 2 → isD (t.getD (p + 2) 0) = true) : ∃ σ', X8_act N (nI p) σ = some ((acS L r (t.getD p 0) (t.getD (p + 1) 0 - 48) (t.getD (p + 2) 0 - 48)).1, σ') ∧ rC σ' 19 = (acS L r (t.getD p 0) (t.getD (p + 1) 0 - 48) (t.getD (p + 2) 0 - 48)).2 ∧ Fr (HK 19) σ σ' := by
  obtain ⟨o1, o2, o3⟩ := ok
  have hn := hR.n
  obtain ⟨y, hy⟩ := dig_any N h hl hx (p + 2) (by omega)
  unfold X8_act
  rw [nI1, show nI p + 2 = nI (p + 2) from nI_add p 2, dig_c N h hl hx (show p + 1 < t.length by omega), Option.bind_some, (dgI_pos d1).1, hy, Option.bind_some, at_c N h hl hx (by omega), Option.bind_some]
  have e := e108 _ (get256 hx p)
  have hb2 : dgB (t.getD p 0) = 2 → y = nI (t.getD (p + 2) 0 - 48) := by
    intro z
    rw [dig_c N h hl hx (show p + 2 < t.length by omega), (dgI_pos (d2 z)).1] at hy
    exact (Option.some.inj hy).symm
  generalize t.getD p 0 = x at *
  generalize t.getD (p + 1) 0 - 48 = a at *
  generalize t.getD (p + 2) 0 - 48 = b at *
  have wrap : ∀ (m : Option (Int32 × Sg)) (v : Int32) (r' : Nat → Int32), (∃ σ', m = some (v, σ') ∧ rC σ' 19 = r' ∧ Fr (HK 19) σ σ') → ∃ σ', (m.bind fun r8 => some (r8.1, r8.2)) = some (v, σ') ∧ rC σ' 19 = r' ∧ Fr (HK 19) σ σ' := by
    intro m v r' hm
    obtain ⟨σ', m1, m2, m3⟩ := hm
    exact ⟨σ', by rw [m1]; rfl, m2, m3⟩
  unfold acS
  rcases dgB_x o1 with z | z | z | z | z
  · have hb3 := b19 (b := b) (by have := (o3 (by rw [z]; rfl)).2; omega) (o3 (by rw [z]; rfl)).1
    rw [if_pos (e.2.1.mpr z), if_pos z, hb2 (by rw [z]; rfl)]
    apply wrap
    by_cases w : a < L.1
    · rw [if_pos w, ← hr]; exact back_yes (Or.inl rfl) hn.1 hn.2 w hb3.1 hb3.2
    · rw [if_neg w]; exact ⟨σ, back_no hn.1 hn.2 (Or.inl (noT' w (by omega))), hr, Fr.refl _ _⟩
  · have hb3 := b19 (b := b) (by have := (o3 (by rw [z]; rfl)).2; omega) (o3 (by rw [z]; rfl)).1
    rw [if_neg (fun u => by have := e.2.1.mp u; omega), if_pos (e.1.mpr z), if_neg (show ¬ x = 103 by omega), if_pos z, hb2 (by rw [z]; rfl)]
    apply wrap
    by_cases w : a < L.1
    · rw [if_pos w, ← hr]; exact lend_yes (Or.inl rfl) hn.1 hn.2 w hb3.1 hb3.2
    · rw [if_neg w]; exact ⟨σ, lend_no hn.1 hn.2 (Or.inl (noT' w (by omega))), hr, Fr.refl _ _⟩
  · rw [if_neg (fun u => by have := e.2.1.mp u; omega), if_neg (fun u => by have := e.1.mp u; omega), if_pos (e.2.2.1.mpr z), if_neg (show ¬ x = 103 by omega), if_neg (show ¬ x = 108 by omega), if_pos z]
    apply wrap
    obtain ⟨k2, e2, e3, hL⟩ := hR
    rw [← hr] at hW ⊢
    exact passHours_c (by omega) (Or.inl rfl) hL e2 (by omega) hW (by omega) (by omega)
  · rw [if_neg (fun u => by have := e.2.1.mp u; omega), if_neg (fun u => by have := e.1.mp u; omega), if_neg (fun u => by have := e.2.2.1.mp u; omega), if_pos (e.2.2.2.1.mpr z), if_neg (show ¬ x = 103 by omega), if_neg (show ¬ x = 108 by omega), if_neg (show ¬ x = 110 by omega), if_pos z, hb2 (by rw [z]; rfl)]
    apply wrap
    have hb3 := (o3 (by rw [z]; rfl)).1
    by_cases w : a < L.1 ∧ b < L.1 ∧ a ≠ b
    · rw [if_pos w, ← hr]; exact tie_yes (by omega) (Or.inl rfl) hn.1 hn.2 w.1 w.2.1 w.2.2
    · rw [if_neg w]
      refine ⟨σ, tie_no hn.1 hn.2 ?_, hr, Fr.refl _ _⟩
      by_cases w1 : a < L.1
      · by_cases w2 : b < L.1
        · exact Or.inr (Or.inr (by rw [show a = b from Decidable.byContradiction (fun w3 => w ⟨w1, w2, w3⟩)]))
        · exact Or.inr (Or.inl (noT' w2 (by omega)))
      · exact Or.inl (noT' w1 (by omega))
  · rw [if_neg (fun u => by have := e.2.1.mp u; omega), if_neg (fun u => by have := e.1.mp u; omega), if_neg (fun u => by have := e.2.2.1.mp u; omega), if_neg (fun u => by have := e.2.2.2.1.mp u; omega), if_neg (show ¬ x = 103 by omega), if_neg (show ¬ x = 108 by omega), if_neg (show ¬ x = 110 by omega), if_neg (show ¬ x = 116 by omega)]
    apply wrap
    by_cases w : a < L.1
    · rw [if_pos w, ← hr]; exact pay_yes (Or.inl rfl) hn.1 hn.2 w
    · rw [if_neg w]; exact ⟨σ, pay_no hn.1 (noT' w (by omega)), hr, Fr.refl _ _⟩
theorem does_l46 {N : Nat} (hN : 100 < N) {σ : Sg} {L : Ld} (hL : LR σ L) {H : Nat} (hW : WF L.1 9 H (rR σ 153)) (hH : H < 2000000) {q : Nat} (hq : q ≤ 9) : ∃ σ', X9_does_l46 N N (nI q) 0 σ = some (1, σ') ∧ rR σ' 153 = hrS L (rR σ 153) q ∧ Fr (HR' 153) σ σ' := by
  refine forL0 (L := fun m i a => X9_does_l46 N m (nI q) (nI i) a) (m := q) (a := σ) (fun i a => rR a 153 = hrS L (rR σ 153) i ∧ Fr (HR' 153) σ a) (o := fun x => ∃ σ', x = some (1, σ') ∧ rR σ' 153 = hrS L (rR σ 153) q ∧ Fr (HR' 153) σ σ') (by omega) ⟨rfl, Fr.refl _ _⟩ ?_ ?_
  · intro m i a hi hI
    obtain ⟨g1, g2⟩ := hI
    left
    have hWi : WF L.1 9 (H + i) (rR a 153) := by rw [g1]; exact hrS_wf (by omega) hW i
    obtain ⟨a', b1, b2, b3, b4, b5⟩ := hourGoes_b (N := N) (by omega) (Or.inl rfl) (hL.fr g2 (by decide)) (by omega) hWi
    exact ⟨a', ⟨by rw [b2, g1]; rfl, g2.trans b5⟩, by rw [X9_does_l46, if_neg (nI_ge hi (by omega)), b1, Option.bind_some, nI1]⟩
  · intro m a hI
    obtain ⟨g1, g2⟩ := hI
    exact ⟨a, by rw [X9_does_l46, if_pos (nI_le (Nat.le_refl _) (by omega))], g1, g2⟩
theorem does_r {N : Nat} (hN : 555 < N) {σ : Sg} {L : Ld} {r : Nat → Int32} {H : Nat} (hL : LR σ L) (hr : rR σ 153 = r) (hW : WF L.1 9 H r) (hH : H < 2000000) {k x a b : Nat} (hk : k < 60) (ok : acOk x a b) (e1 : gi σ 162 k = nI (knd x)) (e2 : gi σ 163 k = nI a) (e3 : dgB x = 2 → gi σ 164 k = nI b) : ∃ σ', X9_does N (nI k) σ = some (if (acS L r x a b).1 < 0 then 0 else 1, σ') ∧ rR σ' 153 = (acS L r x a b).2 ∧ Fr (HR' 153) σ σ' := by
  obtain ⟨o1, o2, o3⟩ := ok
  have hn := hL.1
  have h8 : L.1 ≤ 8 := hL.2.1
  unfold X9_does
  rw [inbI hk (by omega), if_pos rfl, if_pos rfl, clI (by omega), e1, e2]
  have wrap : ∀ (m : Option (Int32 × Sg)) (v : Int32) (r' : Nat → Int32), (∃ σ', m = some (v, σ') ∧ rR σ' 153 = r' ∧ Fr [153] σ σ') → ∃ σ', (m.bind fun r8 => if r8.1 < 0 then (some ((0 : Int32), r8.2)) else (some (1, r8.2))) = some (if v < 0 then 0 else 1, σ') ∧ rR σ' 153 = r' ∧ Fr (HR' 153) σ σ' := by
    intro m v r' hm
    obtain ⟨σ', m1, m2, m3⟩ := hm
    refine ⟨σ', ?_, m2, m3.mono (by decide)⟩
    rw [m1, Option.bind_some]
    by_cases y : v < 0
    · rw [if_pos y, if_pos y]
    · rw [if_neg y, if_neg y]
  unfold acS
  rcases dgB_x o1 with z | z | z | z | z
  · have hb3 := b19 (b := b) (by have := (o3 (by rw [z]; rfl)).2; omega) (o3 (by rw [z]; rfl)).1
    rw [e3 (by rw [z]; rfl), if_pos z, z, if_neg (by decide), if_neg (by decide), if_neg (by decide), if_neg (by decide), if_pos rfl]
    apply wrap
    by_cases w : a < L.1
    · rw [if_pos w, ← hr]; exact backR_yes hn h8 w hb3.1 hb3.2
    · rw [if_neg w]; exact ⟨σ, backR_no hn h8 (Or.inl (noT' w (by omega))), hr, Fr.refl _ _⟩
  · have hb3 := b19 (b := b) (by have := (o3 (by rw [z]; rfl)).2; omega) (o3 (by rw [z]; rfl)).1
    rw [e3 (by rw [z]; rfl), if_neg (show ¬ x = 103 by omega), if_pos z, z, if_neg (by decide), if_neg (by decide), if_neg (by decide), if_pos (by decide), if_pos rfl]
    apply wrap
    by_cases w : a < L.1
    · rw [if_pos w, ← hr]; exact lendR_yes (Or.inl rfl) hn h8 w hb3.1 hb3.2
    · rw [if_neg w]; exact ⟨σ, lendR_no hn h8 (Or.inl (noT' w (by omega))), hr, Fr.refl _ _⟩
  · rw [if_neg (show ¬ x = 103 by omega), if_neg (show ¬ x = 108 by omega), if_pos z, z, if_pos (by decide)]
    obtain ⟨s, s1, s2⟩ := lsS_n hW a
    dsimp only
    rw [s2, if_neg (nI_pos (by omega)), ← hr]
    rw [← hr] at hW
    exact does_l46 (by omega) hL hW hH o2
  · have hb3 := (o3 (by rw [z]; rfl)).1
    rw [e3 (by rw [z]; rfl), if_neg (show ¬ x = 103 by omega), if_neg (show ¬ x = 108 by omega), if_neg (show ¬ x = 110 by omega), if_pos z, z, if_neg (by decide), if_neg (by decide), if_pos (by decide), if_pos rfl]
    apply wrap
    by_cases w : a < L.1 ∧ b < L.1 ∧ a ≠ b
    · rw [if_pos w, ← hr]
      rw [← hr] at hW
      exact tieR_yes (by omega) (Or.inl rfl) hn hW w.1 w.2.1 w.2.2
    · rw [if_neg w]
      refine ⟨σ, tieR_no hn h8 ?_, hr, Fr.refl _ _⟩
      by_cases w1 : a < L.1
      · by_cases w2 : b < L.1
        · exact Or.inr (Or.inr (by rw [show a = b from Decidable.byContradiction (fun w3 => w ⟨w1, w2, w3⟩)]))
        · exact Or.inr (Or.inl (noT' w2 (by omega)))
      · exact Or.inl (noT' w1 (by omega))
  · rw [if_neg (show ¬ x = 103 by omega), if_neg (show ¬ x = 108 by omega), if_neg (show ¬ x = 110 by omega), if_neg (show ¬ x = 116 by omega), z, if_neg (by decide), if_pos (by decide)]
    apply wrap
    by_cases w : a < L.1
    · obtain ⟨ta, t1, t2⟩ := hW.2.2.2.2.2.2.1
      rw [if_pos w, ← hr]; exact payR_yes hn h8 w t1 (by rw [hr]; exact t2)
    · rw [if_neg w]; exact ⟨σ, payR_no hn h8 (noT' w (by omega)), hr, Fr.refl _ _⟩
theorem acS_wf {L : Ld} {r : Nat → Int32} {H : Nat} (hW : WF L.1 9 H r) {x a b : Nat} (ok : acOk x a b) : WF L.1 9 (H + 9) (acS L r x a b).2 := by
  obtain ⟨o1, o2, o3⟩ := ok
  unfold acS
  rcases dgB_x o1 with z | z | z | z | z
  · have hb3 := b19 (b := b) (by have := (o3 (by rw [z]; rfl)).2; omega) (o3 (by rw [z]; rfl)).1
    rw [if_pos z]
    split
    · next w => exact (back_wf (by omega) hW w hb3.1 hb3.2).mono (by omega)
    · exact hW.mono (by omega)
  · have hb3 := b19 (b := b) (by have := (o3 (by rw [z]; rfl)).2; omega) (o3 (by rw [z]; rfl)).1
    rw [if_neg (show ¬ x = 103 by omega), if_pos z]
    split
    · next w => exact (lend_wf (by omega) (by omega) hW w hb3.1 hb3.2).mono (by omega)
    · exact hW.mono (by omega)
  · rw [if_neg (show ¬ x = 103 by omega), if_neg (show ¬ x = 108 by omega), if_pos z]
    exact (hrS_wf (by omega) hW a).mono (by omega)
  · rw [if_neg (show ¬ x = 103 by omega), if_neg (show ¬ x = 108 by omega), if_neg (show ¬ x = 110 by omega), if_pos z]
    split
    · next w => exact (tie_wf hW w.1 w.2.1 w.2.2).mono (by omega)
    · exact hW.mono (by omega)
  · rw [if_neg (show ¬ x = 103 by omega), if_neg (show ¬ x = 108 by omega), if_neg (show ¬ x = 110 by omega), if_neg (show ¬ x = 116 by omega)]
    split
    · next w => exact (pay_wf hW w).mono (by omega)
    · exact hW.mono (by omega)
