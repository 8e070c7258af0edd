/-! ===== binds: parted into groups that stay down ===== -/
def zI (z : Int) : Int32 := Int32.ofInt z
theorem zI_n (c : Nat) : nI c = zI c := (Int32.ofInt_eq_ofNat).symm
theorem zI_add (a b : Int) : zI a + zI b = zI (a + b) := (Int32.ofInt_add a b).symm
theorem zI_one : (1 : Int32) = zI 1 := by decide
theorem zI_zero : (0 : Int32) = zI 0 := by decide
theorem zI_1 (a : Int) : zI a + 1 = zI (a + 1) := by rw [zI_one, zI_add]
theorem zI_toInt {a : Int} (h : -1000000000 ≤ a) (h2 : a ≤ 1000000000) : (zI a).toInt = a := Int32.toInt_ofInt_of_le (by omega) (by omega)
theorem zI_lt {a b : Int} (h : -1000000000 ≤ a) (h2 : a ≤ 1000000000) (h3 : -1000000000 ≤ b) (h4 : b ≤ 1000000000) : zI a < zI b ↔ a < b := by rw [Int32.lt_iff_toInt_lt, zI_toInt h h2, zI_toInt h3 h4]
theorem zI_neg {a : Int} (h : -1000000000 ≤ a) (h2 : a ≤ 1000000000) : zI a < 0 ↔ a < 0 := by rw [zI_zero]; exact zI_lt h h2 (by omega) (by omega)
theorem zI_max {a b : Int} (h : -1000000000 ≤ a) (h2 : a ≤ 1000000000) (h3 : -1000000000 ≤ b) (h4 : b ≤ 1000000000) : (if zI a < zI b then zI b else zI a) = zI (if a < b then b else a) := by
  by_cases z : a < b
  · rw [if_pos z, if_pos ((zI_lt h h2 h3 h4).mpr z)]
  · rw [if_neg z, if_neg (fun y => z ((zI_lt h h2 h3 h4).mp y))]
def smZ (e : Nat → Int) (S : Nat → Bool) : Nat → Int
  | 0 => 0
  | n + 1 => smZ e S n + (if S n = true then e n else 0)
theorem smZ_part {e : Nat → Int} {S G : Nat → Bool} (h : ∀ k, G k = true → S k = true) (n : Nat) : smZ e S n = smZ e G n + smZ e (fun k => S k && !G k) n := by
  induction n with
  | zero => rfl
  | succ n ih =>
    unfold smZ
    rw [ih]
    have := h n
    cases hG : G n <;> cases hS : S n
    · simp
    · simp; omega
    · rw [hG, hS] at this; exact Bool.noConfusion (this rfl)
    · simp; omega
theorem smZ_0 {e : Nat → Int} {S : Nat → Bool} (h : ∀ k, S k = false) (n : Nat) : smZ e S n = 0 := by
  induction n with
  | zero => rfl
  | succ n ih => unfold smZ; rw [ih, h n]; rfl
theorem smZ_bd {e : Nat → Int} {S : Nat → Bool} (n : Nat) (h : ∀ k, k < n → -200 ≤ e k ∧ e k ≤ 200) : -(200 * (n : Int)) ≤ smZ e S n ∧ smZ e S n ≤ 200 * (n : Int) := by
  induction n with
  | zero => exact ⟨by simp [smZ], by simp [smZ]⟩
  | succ n ih =>
    have h1 := ih (fun k hk => h k (by omega))
    have h2 := h n (by omega)
    unfold smZ
    constructor <;> (split <;> omega)
theorem sumB_zI {S : Nat → Bool} {g : Nat → Int32} {e : Nat → Int} (n : Nat) (h : ∀ k, k < n → S k = true → g k = zI (e k)) : sumB S g n = zI (smZ e S n) := by
  induction n with
  | zero => rfl
  | succ n ih =>
    unfold sumB smZ
    rw [ih (fun k hk => h k (by omega))]
    by_cases z : S n = true
    · rw [if_pos z, if_pos z, h n (by omega) z, zI_add]
    · rw [if_neg z, if_neg z, zI_zero, zI_add]
def Pt (e : Nat → Int) (n : Nat) : Nat → (Nat → Bool) → Prop
  | 0, S => ∀ k, S k = false
  | c + 1, S => ∃ G : Nat → Bool, (∀ k, G k = true → S k = true) ∧ (∃ k, G k = true) ∧ 0 ≤ smZ e G n ∧ Pt e n c (fun k => S k && !G k)
theorem Pt.has {e : Nat → Int} {n : Nat} : ∀ (c : Nat) (S : Nat → Bool) (x : Nat), Pt e n (c + 1) S → S x = true → ∃ G : Nat → Bool, (∀ k, G k = true → S k = true) ∧ G x = true ∧ 0 ≤ smZ e G n ∧ Pt e n c (fun k => S k && !G k) := by
  intro c
  induction c with
  | zero =>
    rintro S x ⟨G, g1, g2, g3, g4⟩ hx
    refine ⟨G, g1, ?_, g3, g4⟩
    have : (S x && !G x) = false := g4 x
    rw [hx] at this
    simpa using this
  | succ c ih =>
    rintro S x ⟨G, g1, g2, g3, g4⟩ hx
    by_cases z : G x = true
    · exact ⟨G, g1, z, g3, g4⟩
    · obtain ⟨F, f1, f2, f3, f4⟩ := ih _ x g4 (by simp [hx, z])
      have f1' : ∀ k, F k = true → S k = true ∧ G k = false := fun k hk => by have := f1 k hk; simpa using this
      refine ⟨F, fun k hk => (f1' k hk).1, f2, f3, G, fun k hk => ?_, g2, g3, ?_⟩
      · have := g1 k hk
        cases y : F k
        · simp [this, y]
        · have := (f1' k y).2; rw [hk] at this; exact Bool.noConfusion this
      · have : (fun k => (fun k => S k && !F k) k && !G k) = (fun k => (fun k => S k && !G k) k && !F k) := by
          funext k
          show (S k && !F k && !G k) = (S k && !G k && !F k)
          cases S k <;> cases F k <;> cases G k <;> rfl
        rw [this]; exact f4
theorem Pt.pos {e : Nat → Int} {n : Nat} : ∀ (c : Nat) (S : Nat → Bool), Pt e n c S → 0 ≤ smZ e S n := by
  intro c
  induction c with
  | zero => intro S h; rw [smZ_0 h]; exact Int.le_refl _
  | succ c ih =>
    rintro S ⟨G, g1, g2, g3, g4⟩
    have := ih _ g4
    rw [smZ_part g1]
    omega
theorem Pt.le {e : Nat → Int} {n : Nat} : ∀ (c : Nat) (S : Nat → Bool) (m : Nat), Pt e n c S → (∀ k, S k = true → k < m) → c ≤ cntB S m := by
  intro c
  induction c with
  | zero => intro S m _ _; exact Nat.zero_le _
  | succ c ih =>
    rintro S m ⟨G, g1, ⟨x, gx⟩, g3, g4⟩ hm
    have h1 := ih _ m g4 (fun k hk => hm k (by simp at hk; exact hk.1))
    have hx := hm x (g1 x gx)
    have := cntB_lt (f := fun k => S k && !G k) (g := S) m (fun i _ hi => by simp at hi; exact hi.1) hx (g1 x gx) (by simp [gx])
    omega
def BV (e : Nat → Int) (n : Nat) (S : Nat → Bool) (bad : Int → Prop) (z : Int) : Prop := (∃ c : Nat, z = c ∧ Pt e n c S ∧ ∀ c', Pt e n c' S → c' ≤ c) ∨ (bad z ∧ ∀ c, ¬ Pt e n c S)
def Jz (e : Nat → Int) (n : Nat) (S : Nat → Bool) (bad : Int → Prop) (Q : Nat → Prop) (G : Nat → Nat → Bool) (i : Nat) (z : Int) : Prop :=
  (bad z ∨ ∃ c : Nat, z = c ∧ Pt e n c S) ∧ ∀ g, 1 ≤ g → g < i → Q g → ∀ c', Pt e n c' (fun k => S k && !G g k) → ∃ c : Nat, z = c ∧ c' + 1 ≤ c
section JZ
variable {e : Nat → Int} {n : Nat} {S : Nat → Bool} {bad : Int → Prop} {Q : Nat → Prop} {G : Nat → Nat → Bool} {i : Nat} {z : Int}
theorem Jz.skip (h : Jz e n S bad Q G i z) (hn : Q i → ∀ c', ¬ Pt e n c' (fun k => S k && !G i k)) : Jz e n S bad Q G (i + 1) z := by
  refine ⟨h.1, fun g g1 g2 g3 c' hc => ?_⟩
  by_cases y : g = i
  · subst y; exact absurd hc (hn g3 c')
  · exact h.2 g g1 (by omega) g3 c' hc
theorem Jz.take (h : Jz e n S bad Q G i z) (hbad : ∀ z, bad z → z < 0) (q1 : ∀ k, G i k = true → S k = true) (q2 : ∃ k, G i k = true) (q3 : 0 ≤ smZ e (G i) n) {c0 : Nat} (p1 : Pt e n c0 (fun k => S k && !G i k)) (p2 : ∀ c', Pt e n c' (fun k => S k && !G i k) → c' ≤ c0) : Jz e n S bad Q G (i + 1) (if z < (c0 : Int) + 1 then (c0 : Int) + 1 else z) := by
  have new : Pt e n (c0 + 1) S := ⟨G i, q1, q2, q3, p1⟩
  by_cases y : z < (c0 : Int) + 1
  · rw [if_pos y]
    refine ⟨Or.inr ⟨c0 + 1, by omega, new⟩, fun g g1 g2 g3 c' hc => ?_⟩
    by_cases w : g = i
    · subst w
      have := p2 c' hc
      exact ⟨c0 + 1, by omega, by omega⟩
    · obtain ⟨c, c1, c2⟩ := h.2 g g1 (by omega) g3 c' hc
      exact ⟨c0 + 1, by omega, by omega⟩
  · rw [if_neg y]
    refine ⟨h.1, fun g g1 g2 g3 c' hc => ?_⟩
    by_cases w : g = i
    · subst w
      have := p2 c' hc
      rcases h.1 with u | ⟨c, c1, _⟩
      · have := hbad z u; omega
      · exact ⟨c, c1, by omega⟩
    · exact h.2 g g1 (by omega) g3 c' hc
theorem Jz.done (h : Jz e n S bad Q G i z) {x : Nat} (hx : S x = true) (hm : ∀ F : Nat → Bool, (∀ k, F k = true → S k = true) → F x = true → 0 ≤ smZ e F n → ∃ g, 1 ≤ g ∧ g < i ∧ Q g ∧ G g = F) (hbad : ∀ z, bad z → z < 0) : BV e n S bad z := by
  have all : ∀ c', Pt e n c' S → ∃ c : Nat, z = c ∧ c' ≤ c := by
    intro c' hc
    cases c' with
    | zero => have := hc x; rw [hx] at this; exact Bool.noConfusion this
    | succ c' =>
      obtain ⟨F, f1, f2, f3, f4⟩ := Pt.has c' S x hc hx
      obtain ⟨g, g1, g2, g3, g4⟩ := hm F f1 f2 f3
      rw [← g4] at f4
      exact h.2 g g1 g2 g3 c' f4
  rcases h.1 with u | ⟨c, c1, c2⟩
  · refine Or.inr ⟨u, fun c hc => ?_⟩
    obtain ⟨c', h1, _⟩ := all c hc
    have := hbad z u
    omega
  · refine Or.inl ⟨c, c1, c2, fun c' hc => ?_⟩
    obtain ⟨c'', h1, h2⟩ := all c' hc
    omega
end JZ
theorem maskOf (G : Nat → Bool) (n : Nat) : ∃ g : Nat, ∀ b, g.testBit b = (decide (b < n) && G b) := by
  induction n with
  | zero => exact ⟨0, fun b => by simp⟩
  | succ n ih =>
    obtain ⟨g, hg⟩ := ih
    refine ⟨g ||| (if G n = true then 2 ^ n else 0), fun b => ?_⟩
    rw [Nat.testBit_or, hg b]
    by_cases y : G n = true
    · rw [if_pos y, Nat.testBit_two_pow]
      by_cases z : b = n
      · subst z; simp [y]
      · rw [decide_eq_false (fun u : n = b => z u.symm)]
        by_cases w : b < n
        · simp [w, Nat.lt_succ_of_lt w]
        · simp [w, show ¬ b < n + 1 by omega]
    · rw [if_neg y]
      by_cases z : b = n
      · subst z; simp [y]
      · by_cases w : b < n
        · simp [w, Nat.lt_succ_of_lt w]
        · simp [w, show ¬ b < n + 1 by omega]
theorem sub_le {g s : Nat} (h : ∀ b, g.testBit b = true → s.testBit b = true) : g ≤ s := by
  have : g = g &&& s := by
    apply Nat.eq_of_testBit_eq
    intro b
    rw [Nat.testBit_and]
    have := h b
    cases hg : g.testBit b
    · rfl
    · rw [this hg]; rfl
  rw [this]
  exact Nat.and_le_right
theorem cntB_at {p : Nat → Bool} {n b : Nat} (h : b < cntB p n) : ∃ k, k < n ∧ p k = true ∧ cntB p k = b := by
  induction n with
  | zero => exact absurd h (Nat.not_lt_zero _)
  | succ n ih =>
    by_cases z : b < cntB p n
    · obtain ⟨k, k1, k2⟩ := ih z
      exact ⟨k, by omega, k2⟩
    · unfold cntB at h
      by_cases y : p n = true
      · rw [if_pos y] at h
        exact ⟨n, by omega, y, by omega⟩
      · rw [if_neg y] at h; omega
theorem cntB_inj {p : Nat → Bool} {k j : Nat} (hk : p k = true) (hj : p j = true) (h : cntB p k = cntB p j) : k = j := by
  rcases Nat.lt_trichotomy k j with z | z | z
  · have := cntB_lt_of z hk; omega
  · exact z
  · have := cntB_lt_of z hj; omega
theorem max_of {P : Nat → Prop} : ∀ (B : Nat), (∀ c, P c → c ≤ B) → (∃ c, P c) → ∃ c, P c ∧ ∀ c', P c' → c' ≤ c := by
  intro B
  induction B with
  | zero => rintro hB ⟨c, hc⟩; exact ⟨c, hc, fun c' hc' => by have := hB c' hc'; omega⟩
  | succ B ih =>
    intro hB hc
    by_cases z : P (B + 1)
    · exact ⟨B + 1, z, hB⟩
    · exact ih (fun c h => by
        have := hB c h
        by_cases y : c = B + 1
        · subst y; exact absurd h z
        · omega) hc
/-- what a set of bundles stands for: their first things -/
def cG (n : Nat) (r : Nat → Int32) (s k : Nat) : Bool := decide (k < n) && isF r k && s.testBit (cntB (isF r) k)
theorem cG_iff {n : Nat} {r : Nat → Int32} {s k : Nat} : cG n r s k = true ↔ k < n ∧ isF r k = true ∧ s.testBit (cntB (isF r) k) = true := by unfold cG; simp [and_assoc]
def exZ (L : Ld) (r : Nat → Int32) (k : Nat) : Int := (exS L r (bun r k)).toInt
theorem exZ_z (L : Ld) (r : Nat → Int32) (k : Nat) : exS L r (bun r k) = zI (exZ L r k) := (Int32.ofInt_toInt _).symm
theorem clampS_nI (x : Int32) : ∃ y, y ≤ 9 ∧ clampS x = nI y := by
  unfold clampS
  by_cases h : x < 9
  · rw [if_pos h]
    by_cases h2 : 0 < x
    · rw [if_pos h2]
      exact nI_of2 (M := 9) (n := 9) rfl (fun q => absurd (Int32.lt_trans h2 q) Int32.lt_irrefl) (Int32.le_of_lt h)
    · rw [if_neg h2]; exact ⟨0, by omega, rfl⟩
  · rw [if_neg h]; exact ⟨9, by omega, rfl⟩
theorem needS_nI (L : Ld) (r : Nat → Int32) (k : Nat) : ∃ y, y ≤ 9 ∧ needS L r k = nI y := by
  unfold needS
  split
  · exact ⟨0, by omega, rfl⟩
  · exact clampS_nI _
theorem exS_bd {L : Ld} {r : Nat → Int32} {S H : Nat} (hW : WF L.1 S H r) (hS : S ≤ 10) (b : Int32) : -200 ≤ (exS L r b).toInt ∧ (exS L r b).toInt ≤ 200 := by
  have h8 := hW.1.2.2.2.2
  obtain ⟨x, x1, x2⟩ := sum_nI (f := hb b) (g := r) (S := 10) L.1 (fun i hi => by obtain ⟨s, s1, s2⟩ := (hW.2.2.1 i (by omega)).1; exact ⟨s, by omega, s2⟩)
  obtain ⟨y, y1, y2⟩ := sum_nI (f := hb b) (g := needS L r) (S := 9) L.1 (fun i _ => needS_nI L r i)
  unfold exS
  rw [x2, y2, pk_sub_toInt (by omega) (by omega)]
  omega
theorem exB_c {N : Nat} (hN : 8 < N) {σ : Sg} {L : Ld} {r : Nat → Int32} (hr : rC σ 19 = r) (hW : WL L.1 r) (en : ∀ i, i < L.1 → gi σ 15 i = needS L r i) (hP : PtC σ L.1 r) {s : Nat} (hs : s < 256) : X8_excessOfBundles N (nI s) σ = some (zI (smZ (exZ L r) (cG L.1 r s) L.1)) := by
  have h8 := hW.2.2.2.2
  have hc := cntB_le (isF r) L.1
  unfold X8_excessOfBundles
  refine forBI (L := fun m b a => X8_excessOfBundles_l4 N σ m (nI s) a (nI b)) (isF r) (n := L.1) (a0 := 0) (fun k a => a = zI (smZ (exZ L r) (cG L.1 r s) k)) (o := fun x => x = some (zI (smZ (exZ L r) (cG L.1 r s) L.1))) (by omega) rfl ?_ ?_ ?_
  · intro k a hk hp hI
    have : cG L.1 r s k = false := by unfold cG; rw [hp]; simp
    rw [hI]
    show _ = zI (smZ _ _ k + (if cG L.1 r s k = true then _ else 0))
    rw [this]; simp
  · intro m k a hk hp hI
    have hlt := cntB_lt_of hk hp
    have e1 : smZ (exZ L r) (cG L.1 r s) (k + 1) = smZ (exZ L r) (cG L.1 r s) k + (if cG L.1 r s k = true then exZ L r k else 0) := rfl
    rw [X8_excessOfBundles_l4, hP.1, if_neg (n_le hlt (by omega))]
    by_cases z : s.testBit (cntB (isF r) k) = true
    · refine ⟨_, rfl, ?_⟩
      rw [if_pos ((hasT (nI s) (by omega)).mpr (by rw [hb_nI (by omega)]; exact z)), inbI (show cntB (isF r) k < 8 by omega) (by omega), if_pos rfl, clI (by omega), hP.2 k hk hp, excess_s hN h8 hr en (bun_out hW hk), Option.bind_some, nI1, e1, if_pos (cG_iff.mpr ⟨hk, hp, z⟩), hI, exZ_z, zI_add]
    · refine ⟨_, rfl, ?_⟩
      rw [if_neg (fun y => z (by have := (hasT (nI s) (by omega)).mp y; rwa [hb_nI (by omega)] at this)), nI1, e1, if_neg (fun y => z (cG_iff.mp y).2.2), hI, Int.add_zero]
  · intro m a hI
    rw [X8_excessOfBundles_l4, hP.1, if_pos (nI_le (Nat.le_refl _) (by omega)), hI]
theorem low_256 : ∀ s, s < 256 → s ≠ 0 → ∃ t, t < 8 ∧ nI s &&& (-(nI s)) = nI (2 ^ t) ∧ s.testBit t = true := by decide +kernel
theorem and_t {g t : Nat} (ht : t < 32) : (nI g &&& nI (2 ^ t) = 0) ↔ g.testBit t = false := by
  constructor
  · intro h
    have h2 : hb (nI g &&& nI (2 ^ t)) t = hb 0 t := by rw [h]
    rw [hb_and, hb_nI ht, hb_nI ht, hb_0, Nat.testBit_two_pow] at h2
    simpa using h2
  · intro h
    apply hb_ext
    intro i hi
    rw [hb_and, hb_nI hi, hb_nI hi, hb_0, Nat.testBit_two_pow]
    by_cases z : t = i
    · subst z; rw [h]; rfl
    · rw [decide_eq_false z]; simp
theorem big_bit {g b : Nat} (hg : g < 256) (hb1 : 32 ≤ b) : g.testBit b = false := Nat.testBit_lt_two_pow (Nat.lt_of_lt_of_le hg (Nat.pow_le_pow_right (n := 2) (by omega) (show 8 ≤ b by omega)))
theorem sub_t {g s : Nat} (hg : g < 256) : (nI g &&& (nI s ^^^ (-1)) = 0) ↔ ∀ b, g.testBit b = true → s.testBit b = true := by
  constructor
  · intro h b hb1
    rcases Nat.lt_or_ge b 32 with z | z
    · have h2 : hb (nI g &&& (nI s ^^^ (-1))) b = hb 0 b := by rw [h]
      rw [hb_and, hb_not _ z, hb_nI z, hb_nI z, hb_0, hb1] at h2
      simpa using h2
    · rw [big_bit hg z] at hb1; exact Bool.noConfusion hb1
  · intro h
    apply hb_ext
    intro i hi
    rw [hb_and, hb_not _ hi, hb_nI hi, hb_nI hi, hb_0]
    have := h i
    cases hx : g.testBit i
    · rfl
    · rw [this hx]; rfl
