/-! ===== binds: the reference; both sides ===== -/
def bd2 (s : Nat) : Int → Prop := fun z => -1000000 ≤ z ∧ z ≤ -1000000 + s
theorem bd2_neg {s : Nat} (hs : s < 256) : ∀ z, bd2 s z → z < 0 := fun z h => by unfold bd2 at h; omega
def rG (s k : Nat) : Bool := s.testBit k
theorem rG_and {g s : Nat} (h : ∀ b, g.testBit b = true → s.testBit b = true) : rG (s ^^^ g) = fun k => rG s k && !rG g k := by
  funext k
  unfold rG
  rw [Nat.testBit_xor]
  have := h k
  cases hs : s.testBit k <;> cases hg : g.testBit k <;> simp_all
theorem and_xor {g s : Nat} (hs : s < 256) (hg : g < 256) (h : ∀ b, g.testBit b = true → s.testBit b = true) : nI s &&& (nI g ^^^ (-1)) = nI (s ^^^ g) := by
  apply hb_ext
  intro i hi
  rw [hb_and, hb_not _ hi, hb_nI hi, hb_nI hi, hb_nI hi, Nat.testBit_xor]
  have := h i
  cases hs : s.testBit i <;> cases hg : g.testBit i <;> simp_all
theorem spareOf_b {N : Nat} (hN : 8 < N) (s : Int32) (σ : Sg) : X9_spareOf N s σ = some (sumB (hb s) (gi σ 167) 8) := by
  unfold X9_spareOf
  refine forL0 (L := fun n i a => X9_spareOf_l4 N σ n s a (nI i)) (m := 8) (fun i a => a = sumB (hb s) (gi σ 167) i) (o := fun x => x = some (sumB (hb s) (gi σ 167) 8)) hN rfl ?_ ?_
  · intro n i a hi ha
    left
    refine ⟨_, rfl, ?_⟩
    show X9_spareOf_l4 N σ (n + 1) s a (nI i) = X9_spareOf_l4 N σ n s _ (nI (i + 1))
    rw [X9_spareOf_l4, if_neg (c8 hi), has_b N s (by omega), Option.bind_some, inbI hi (by omega), clI (by omega), nI1]
    subst ha
    cases h : hb s i <;> simp [sumB, h]
  · intro n a ha
    show X9_spareOf_l4 N σ (n + 1) s a (nI 8) = _
    rw [X9_spareOf_l4, if_pos c8', ha]
/-- the mask of first things, as a number -/
theorem firstM {n : Nat} (h8 : n ≤ 8) (r : Nat → Int32) : ∃ F, F < 256 ∧ mkB (isF r) n = nI F ∧ ∀ k, F.testBit k = fuG n r k := by
  obtain ⟨F, f1, f2⟩ := mask_nI (x := mkB (isF r) n) (n := 8) (fun i hi => by rw [hb_n _ h8, decide_eq_false (by omega)]; rfl)
  refine ⟨F, f1, f2, fun k => ?_⟩
  rcases Nat.lt_or_ge k 32 with z | z
  · rw [← hb_nI z, ← f2, hb_n _ h8]; rfl
  · rw [big_bit f1 z]
    unfold fuG
    rw [decide_eq_false (by omega)]; rfl
section BR
variable {N : Nat} {L : Ld} {r : Nat → Int32} {F : Nat}
theorem smZ_cut {e : Nat → Int} {S : Nat → Bool} {n : Nat} (h : ∀ k, S k = true → k < n) (m : Nat) : smZ e S (n + m) = smZ e S n := by
  induction m with
  | zero => rfl
  | succ m ih =>
    show smZ e S (n + m) + (if S (n + m) = true then e (n + m) else 0) = _
    rw [ih, if_neg (fun u => by have := h _ u; omega), Int.add_zero]
theorem spare_z (hN : 8 < N) (h8 : L.1 ≤ 8) {σ : Sg} (hF : ∀ k, F.testBit k = fuG L.1 r k) (hsp : ∀ k, k < 8 → fuG L.1 r k = true → gi σ 167 k = zI (exZ L r k)) {g : Nat} (hg : g < 256) (hgF : ∀ b, g.testBit b = true → F.testBit b = true) : X9_spareOf N (nI g) σ = some (zI (smZ (exZ L r) (rG g) L.1)) := by
  have hbe : ∀ k, hb (nI g) k = rG g k := by
    intro k
    rcases Nat.lt_or_ge k 32 with z | z
    · exact hb_nI z
    · rw [hb_big z]; exact (big_bit hg z).symm
  rw [spareOf_b hN, sumB_zI (e := exZ L r) 8 (fun k hk hS => by
    rw [hbe k] at hS
    exact hsp k hk (by rw [← hF]; exact hgF k hS))]
  have e : hb (nI g) = rG g := funext hbe
  rw [e]
  have := smZ_cut (e := exZ L r) (S := rG g) (n := L.1) (fun k hk => by
    have := hgF k hk
    rw [hF k] at this
    unfold fuG at this; simp at this; exact this.1) (8 - L.1)
  rw [show L.1 + (8 - L.1) = 8 by omega] at this
  rw [this]
theorem binds_l125 (hN : 555 < N) (h8 : L.1 ≤ 8) (hex : ∀ k, -200 ≤ exZ L r k ∧ exZ L r k ≤ 200) {σ : Sg} (hF1 : F < 256) (hF : ∀ k, F.testBit k = fuG L.1 r k) (hsp : ∀ k, k < 8 → fuG L.1 r k = true → gi σ 167 k = zI (exZ L r k)) {s : Nat} (hs0 : 1 ≤ s) (hsF : ∀ b, s.testBit b = true → F.testBit b = true) (hval : ∀ g, g < s → (∀ b, g.testBit b = true → F.testBit b = true) → ∃ z, gi σ 166 g = zI z ∧ BV (exZ L r) L.1 (rG g) (bd2 g) z) (hst : gi σ 166 s = zI (-1000000)) (K : Int32 → Int32 → Sg → Option (Int32 × Sg)) (v1 : Int32) :
    ∃ σ' z, X9_binds_l125 N K N v1 (nI s) 1 1 σ = K v1 (nI s) σ' ∧ gi σ' 166 s = zI z ∧ BV (exZ L r) L.1 (rG s) (bd2 s) z ∧ (∀ g, g ≠ s → gi σ' 166 g = gi σ 166 g) ∧ Fr [166] σ σ' := by
  have hs : s < 256 := Nat.lt_of_le_of_lt (sub_le hsF) hF1
  have hsup : ∀ g, (∀ b, g.testBit b = true → F.testBit b = true) → ∀ k, rG g k = true → k < 8 := fun g hg k hk => by
    have := hg k hk
    rw [hF k] at this
    unfold fuG at this; simp at this; omega
  have hle : ∀ g, (∀ b, g.testBit b = true → F.testBit b = true) → ∀ c, Pt (exZ L r) L.1 c (rG g) → c ≤ 8 := fun g hg c h => Nat.le_trans (Pt.le c _ 8 h (hsup g hg)) (cntB_le _ 8)
  have hx : ∃ x, s.testBit x = true := by
    apply Classical.byContradiction
    intro q
    have : s = 0 := Nat.eq_of_testBit_eq (fun b => by
      rw [Nat.zero_testBit]
      cases hb1 : s.testBit b
      · rfl
      · exact absurd ⟨b, hb1⟩ q)
    omega
  obtain ⟨x, hx⟩ := hx
  refine forL (L := fun f i a => X9_binds_l125 N K f v1 (nI s) 1 (nI i) a) (m := s + 1) (I := fun i a => 1 ≤ i ∧ ∃ z, Jz (exZ L r) L.1 (rG s) (bd2 s) (fun g => (∀ b, g.testBit b = true → s.testBit b = true) ∧ 0 ≤ smZ (exZ L r) (rG g) L.1) rG i z ∧ -1000000 ≤ z ∧ z ≤ 8 ∧ gi a 166 s = zI z ∧ (∀ g, g ≠ s → gi a 166 g = gi σ 166 g) ∧ Fr [166] σ a) (o := fun x => ∃ σ' z, x = K v1 (nI s) σ' ∧ gi σ' 166 s = zI z ∧ BV (exZ L r) L.1 (rG s) (bd2 s) z ∧ (∀ g, g ≠ s → gi σ' 166 g = gi σ 166 g) ∧ Fr [166] σ σ') ?_ ?_ s N 1 σ (by omega) (by omega) ⟨by omega, -1000000, ⟨Or.inl (by unfold bd2; omega), fun g g1 g2 => by omega⟩, by omega, by omega, hst, fun _ _ => rfl, Fr.refl _ _⟩
  · intro f i a hi hI
    obtain ⟨hi1, z, hJ, z1, z2, z3, z4, z5⟩ := hI
    left
    rw [X9_binds_l125, if_neg (nI_nlt (show i ≤ s by omega) (by omega)), if_neg oneF]
    by_cases q1 : ∀ b, i.testBit b = true → s.testBit b = true
    · have hiF : ∀ b, i.testBit b = true → F.testBit b = true := fun b hb1 => hsF b (q1 b hb1)
      rw [if_pos ((sub_t (by omega)).mpr q1), spare_z (by omega) h8 hF (fun k hk hf => (z5.g (k := 167) (by simp [pl])).trans (hsp k hk hf)) (by omega) hiF, Option.bind_some]
      have hbd := smZ_bd (e := exZ L r) (S := rG i) L.1 (fun k _ => hex k)
      by_cases q3 : 0 ≤ smZ (exZ L r) (rG i) L.1
      · rcases Nat.eq_zero_or_pos i with hi0 | hi0
        · subst hi0
          exfalso
          omega
        · have hlt := xor_lt q1 hi0
          have hxF : ∀ b, (s ^^^ i).testBit b = true → F.testBit b = true := fun b hb1 => by
            rw [Nat.testBit_xor] at hb1
            apply hsF
            have := q1 b
            cases hs1 : s.testBit b <;> cases hg1 : i.testBit b <;> simp_all
          obtain ⟨y, y1, y2⟩ := hval (s ^^^ i) hlt hxF
          have hne : s ^^^ i ≠ s := by omega
          have hyb : -1000000 ≤ y ∧ y ≤ 8 := by
            rcases y2 with ⟨c0, rfl, p1, p2⟩ | ⟨ub, un⟩
            · have := hle _ hxF c0 p1; omega
            · unfold bd2 at ub; omega
          rw [if_neg (fun u => by have := (zI_neg (by omega) (by omega)).mp u; omega), inbI hs (by omega), if_pos rfl, and_xor hs (by omega) q1, inbI (show s ^^^ i < 256 by omega) (by omega), if_pos rfl, clI (show s < 2147483648 by omega), clI (show s ^^^ i < 2147483648 by omega), z3, z4 _ hne, y1, zI_1, max_b, Option.bind_some, if_pos rfl, zI_max (by omega) (by omega) (by omega) (by omega), nI1]
          simp only [bnS]
          refine ⟨_, ⟨by omega, if z < y + 1 then y + 1 else z, ?_, ?_, ?_, by rw [giw, if_pos ⟨rfl, rfl⟩], fun g hg => by rw [giw, if_neg (fun u => hg u.2)]; exact z4 g hg, z5.wi (by simp [pl])⟩, rfl⟩
          · rw [rG_and q1] at y2
            rcases y2 with ⟨c0, rfl, p1, p2⟩ | ⟨ub, un⟩
            · have hne2 : ∃ k, rG i k = true := by
                apply Classical.byContradiction
                intro q
                have : i = 0 := Nat.eq_of_testBit_eq (fun b => by
                  rw [Nat.zero_testBit]
                  cases hb1 : i.testBit b
                  · rfl
                  · exact absurd ⟨b, hb1⟩ q)
                omega
              exact hJ.take (bd2_neg hs) q1 hne2 q3 p1 p2
            · have hJ2 := hJ.skip (fun _ => un)
              unfold bd2 at ub
              rcases hJ.1 with u | ⟨c, c1, c2⟩
              · unfold bd2 at u
                by_cases w : z < y + 1
                · rw [if_pos w]
                  refine ⟨Or.inl ⟨by omega, by omega⟩, fun g g1 g2 g3 c' hc => ?_⟩
                  obtain ⟨c, c1, c2⟩ := hJ2.2 g g1 g2 g3 c' hc
                  omega
                · rw [if_neg w]; exact hJ2
              · rw [if_neg (by omega)]; exact hJ2
          · split <;> omega
          · have : ∀ c0 : Nat, y = c0 → c0 + 1 ≤ 8 := by
              intro c0 hc0
              rcases y2 with ⟨c1, e1, p1, p2⟩ | ⟨ub, un⟩
              · have : c1 = c0 := by omega
                subst this
                rw [rG_and q1] at p1
                refine hle s hsF (c1 + 1) ⟨rG i, q1, ?_, q3, p1⟩
                apply Classical.byContradiction
                intro q
                have : i = 0 := Nat.eq_of_testBit_eq (fun b => by
                  rw [Nat.zero_testBit]
                  cases hb1 : i.testBit b
                  · rfl
                  · exact absurd ⟨b, hb1⟩ q)
                omega
              · unfold bd2 at ub; omega
            rcases Int.lt_or_le y 0 with w | w
            · split <;> omega
            · have := this y.toNat (by omega)
              split <;> omega
      · refine ⟨a, ⟨by omega, z, hJ.skip (fun q => absurd q.2 q3), z1, z2, z3, z4, z5⟩, ?_⟩
        rw [if_pos ((zI_neg (by omega) (by omega)).mpr (by omega)), nI1]
    · refine ⟨a, ⟨by omega, z, hJ.skip (fun q => absurd q.1 q1), z1, z2, z3, z4, z5⟩, ?_⟩
      rw [if_neg (fun u => q1 ((sub_t (by omega)).mp u)), nI1]
  · intro f a hI
    obtain ⟨_, z, hJ, z1, z2, z3, z4, z5⟩ := hI
    refine ⟨a, z, by rw [X9_binds_l125, if_pos (nI_lt (by omega) (by omega))], z3, hJ.done (x := x) hx (fun G f1 f2 f3 => ?_) (bd2_neg hs), z4, z5⟩
    obtain ⟨g, hg⟩ := maskOf G 8
    have heq : rG g = G := by
      funext k
      show g.testBit k = G k
      rw [hg k]
      cases hG : G k
      · simp
      · rw [decide_eq_true (hsup s hsF k (f1 k hG))]; rfl
    have hsb : ∀ b, g.testBit b = true → s.testBit b = true := fun b hb1 => f1 b (by rw [← heq]; exact hb1)
    refine ⟨g, ?_, by have := sub_le hsb; omega, ⟨hsb, by rw [heq]; exact f3⟩, heq⟩
    rcases Nat.eq_zero_or_pos g with z0 | z0
    · have : rG g x = true := by rw [heq]; exact f2
      rw [z0] at this; unfold rG at this; simp at this
    · exact z0
theorem binds_l94 (hN : 555 < N) (h8 : L.1 ≤ 8) (hex : ∀ k, -200 ≤ exZ L r k ∧ exZ L r k ≤ 200) {σ : Sg} (hF1 : F < 256) (hF : ∀ k, F.testBit k = fuG L.1 r k) (hsp : ∀ k, k < 8 → fuG L.1 r k = true → gi σ 167 k = zI (exZ L r k)) (h0 : gi σ 166 0 = 0) : ∃ σ' z, X9_binds_l94 N (fun v1 σ => X9_binds_j193 N v1 σ) N (nI F) 1 σ = X9_binds_j193 N (nI F) σ' ∧ gi σ' 166 F = zI z ∧ BV (exZ L r) L.1 (fuG L.1 r) (bd2 F) z ∧ Fr [166] σ σ' := by
  have e0 : BV (exZ L r) L.1 (rG 0) (bd2 0) 0 := Or.inl ⟨0, rfl, fun k => by unfold rG; simp, fun c' h => by
    cases c' with
    | zero => exact Nat.le_refl _
    | succ c' =>
      obtain ⟨G, g1, ⟨x, gx⟩, _⟩ := h
      have := g1 x gx
      unfold rG at this; simp at this⟩
  have eF : rG F = fuG L.1 r := funext hF
  refine forL (L := fun m s a => X9_binds_l94 N (fun v1 σ => X9_binds_j193 N v1 σ) m (nI F) (nI s) a) (m := F + 1) (I := fun s a => (∀ g, g < s → (∀ b, g.testBit b = true → F.testBit b = true) → ∃ z, gi a 166 g = zI z ∧ BV (exZ L r) L.1 (rG g) (bd2 g) z) ∧ Fr [166] σ a ∧ 1 ≤ s) (o := fun x => ∃ σ' z, x = X9_binds_j193 N (nI F) σ' ∧ gi σ' 166 F = zI z ∧ BV (exZ L r) L.1 (fuG L.1 r) (bd2 F) z ∧ Fr [166] σ σ') ?_ ?_ F N 1 σ (by omega) (by omega) ⟨fun g hg _ => ⟨0, by rw [show g = 0 by omega, h0]; rfl, by rw [show g = 0 by omega]; exact e0⟩, Fr.refl _ _, by omega⟩
  · intro m s a hs hI
    obtain ⟨i1, i2, i3⟩ := hI
    left
    rw [X9_binds_l94, if_neg (nI_nlt (show s ≤ F by omega) (by omega)), inbI (show s < 256 by omega) (by omega), if_pos rfl, clI (by omega)]
    simp only [bnS]
    have fa : Fr [166] a (wi a 166 s (-1000000)) := (Fr.refl _ _).wi (by simp [pl])
    have ga : ∀ g, g ≠ s → gi (wi a 166 s (-1000000)) 166 g = gi a 166 g := fun g hg => by rw [giw, if_neg (fun u => hg u.2)]
    by_cases q : ∀ b, s.testBit b = true → F.testBit b = true
    · obtain ⟨b, z, b1, b2, b3, b4, b5⟩ := binds_l125 hN h8 hex (σ := wi a 166 s (-1000000)) hF1 hF (fun k hk hf => ((i2.trans fa).g (k := 167) (by simp [pl])).trans (hsp k hk hf)) i3 q (fun g hg hgF => by rw [ga g (by omega)]; exact i1 g hg hgF) (by rw [giw, if_pos ⟨rfl, rfl⟩]; decide) (fun v1 v2 σ => X9_binds_j187 N (fun v1 v2 σ => X9_binds_l94 N (fun v1 σ => X9_binds_j193 N v1 σ) m v1 v2 σ) v1 v2 σ) (nI F)
      refine ⟨b, ⟨fun g hg hgF => ?_, (i2.trans fa).trans b5, by omega⟩, ?_⟩
      · by_cases w : g = s
        · rw [w]; exact ⟨z, b2, b3⟩
        · rw [b4 g w, ga g w]; exact i1 g (by omega) hgF
      · rw [if_pos ((sub_t (by omega)).mpr q), b1, X9_binds_j187, nI1]
    · refine ⟨wi a 166 s (-1000000), ⟨fun g hg hgF => ?_, i2.trans fa, by omega⟩, ?_⟩
      · by_cases w : g = s
        · rw [w] at hgF; exact absurd hgF q
        · rw [ga g w]; exact i1 g (by omega) hgF
      · obtain ⟨M, rfl⟩ : ∃ M, N = M + 1 := ⟨N - 1, by omega⟩
        rw [if_neg (fun u => q ((sub_t (by omega)).mp u)), X9_binds_l125, if_neg (show ¬ nI s < 1 from nI_nlt (b := 1) (show 1 ≤ s by omega) (by omega)), if_pos rfl, X9_binds_j187, nI1]
  · intro m a hI
    obtain ⟨i1, i2, i3⟩ := hI
    obtain ⟨z, z1, z2⟩ := i1 F (by omega) (fun _ h => h)
    rw [eF] at z2
    exact ⟨a, z, by rw [X9_binds_l94, if_pos (nI_lt (by omega) (by omega))], z1, z2, i2⟩
end BR
theorem sumB_or {f g : Nat → Bool} {v : Nat → Int32} (n : Nat) (h : ∀ i, i < n → f i = true → g i = false) : sumB (fun i => f i || g i) v n = sumB f v n + sumB g v n := by
  induction n with
  | zero => rfl
  | succ n ih =>
    unfold sumB
    rw [ih (fun i hi => h i (by omega))]
    have := h n (by omega)
    cases hf : f n <;> cases hg : g n
    · simp
    · simp [Int32.add_assoc]
    · simp
      rw [Int32.add_assoc, Int32.add_assoc, Int32.add_comm (v n)]
    · rw [hf, hg] at this; exact Bool.noConfusion (this rfl)
theorem sum_parts {n : Nat} {r : Nat → Int32} (hW : WL n r) (v : Nat → Int32) : ∀ K, K ≤ n → sumB (hb (orB (isF r) (bun r) K)) v n = sumB (isF r) (fun k => sumB (hb (bun r k)) v n) K := by
  intro K
  induction K with
  | zero =>
    intro h0
    show sumB (hb 0) v n = 0
    rw [sumB_congr (f' := fun _ => false) (g' := v) n (fun i _ => hb_0 i) (fun _ _ _ => rfl)]
    clear hW h0
    induction n with
    | zero => rfl
    | succ n ih => unfold sumB; rw [ih]; rfl
  | succ K ih =>
    intro hK
    show sumB (hb (orB (isF r) (bun r) K ||| (if isF r K then bun r K else 0))) v n = sumB (isF r) _ K + (if isF r K then sumB (hb (bun r K)) v n else 0)
    rw [← ih (by omega)]
    cases hF : isF r K
    · simp
    · rw [if_pos rfl, if_pos rfl, ← sumB_or n (fun i hi h1 => ?_)]
      · exact sumB_congr n (fun i _ => hb_or _ _ i) (fun _ _ _ => rfl)
      · obtain ⟨k, k1, k2, k3⟩ := (hb_orB _ _ _ _).mp h1
        cases hx : hb (bun r K) i
        · rfl
        · have := first_uniq hW (show k < n by omega) (show K < n by omega) k2 hF k3 hx
          omega
theorem sumB_sub {f : Nat → Bool} {v w : Nat → Int32} (n : Nat) : sumB f v n - sumB f w n = sumB f (fun k => v k - w k) n := by
  induction n with
  | zero => simp [sumB]
  | succ n ih =>
    unfold sumB
    rw [← ih]
    cases hf : f n
    · simp
    · simp only [if_true]
      simp only [Int32.sub_eq_add_neg, Int32.neg_add]
      ac_rfl
theorem ex_here {L : Ld} {r : Nat → Int32} (hW : WL L.1 r) : exS L r (hereS L r) = zI (smZ (exZ L r) (fuG L.1 r) L.1) := by
  have h8 := hW.2.2.2.2
  have hb1 : ∀ i, i < L.1 → hb (hereS L r) i = hb (orB (isF r) (bun r) L.1) i := by
    intro i hi
    apply Bool.eq_iff_iff.mpr
    rw [hb_here h8, hb_orB]
    constructor
    · rintro ⟨_, g⟩
      obtain ⟨k, k1, k2, k3, k4⟩ := first_of hW hi g
      exact ⟨k, by omega, k2, by rw [k4]; exact (bun_is hW (by omega)).1⟩
    · rintro ⟨k, k1, k2, k3⟩
      exact ⟨hi, bun_here hW k1 (isF_iff.mp k2).1 k3⟩
  unfold exS
  rw [sumB_congr (g' := r) L.1 hb1 (fun _ _ _ => rfl), sumB_congr (f := hb (hereS L r)) (g' := needS L r) L.1 hb1 (fun _ _ _ => rfl), sum_parts hW r L.1 (Nat.le_refl _), sum_parts hW (needS L r) L.1 (Nat.le_refl _), sumB_sub]
  show sumB (isF r) (fun k => exS L r (bun r k)) L.1 = _
  rw [sumB_congr (f := isF r) (f' := fuG L.1 r) (g' := fun k => zI (exZ L r k)) L.1 (fun i hi => by unfold fuG; rw [decide_eq_true hi]; rfl) (fun k _ _ => exZ_z L r k)]
  exact sumB_zI L.1 (fun _ _ _ => rfl)
theorem binds_r {N : Nat} (hN : 555 < N) {H : Nat} {A : Ab} (hA : OkA H A) (hH : H < 1000000) (σ : Sg) (hσ : InvR σ A) (c : Nat) (hc : (Pt (exZ A.1 A.2.1) A.1.1 c (fuG A.1.1 A.2.1) ∧ ∀ c', Pt (exZ A.1 A.2.1) A.1.1 c' (fuG A.1.1 A.2.1) → c' ≤ c)) : ∃ σ', X9_binds N σ = some (nI (cntB (isF A.2.1) A.1.1) - nI c, σ') ∧ ToR σ' [(nI c).toInt64] ∧ Fr scrR σ σ' := by
  have h8 := hA.1.1.2.2.2.2
  have hW := hA.1.1
  obtain ⟨h36, hh, e36⟩ := hA.1.h36
  have f0 := thrown_f σ 0
  have c1 := hσ.1.fr f0 (by decide)
  have r0' : rR (wi σ 149 0 0) 153 = A.2.1 := (rR_congr (f0.r (by simp [pl]))).trans hσ.2.1
  have hex : ∀ k, -200 ≤ exZ A.1 A.2.1 k ∧ exZ A.1 A.2.1 k ≤ 200 := fun k => exS_bd hA.1 (by omega) _
  obtain ⟨F, F1, F2, F3⟩ := firstM h8 A.2.1
  obtain ⟨σ1, a1, a2⟩ := above_r (N := N) (by omega) (Or.inl rfl : (153 : Nat) = 153 ∨ (153 : Nat) = 154) c1 (show h36 < 2147483648 by omega) (by rw [r0']; exact e36) (hereS A.1 (rR (wi σ 149 0 0) 153))
  have hpos : 0 ≤ smZ (exZ A.1 A.2.1) (fuG A.1.1 A.2.1) A.1.1 := Pt.pos c _ hc.1
  have hbd := smZ_bd (e := exZ A.1 A.2.1) (S := fuG A.1.1 A.2.1) A.1.1 (fun k _ => hex k)
  rw [r0', ex_here hW] at a1
  have f1 : Fr [3000, 159, 160] σ σ1 := (f0.mono (by decide)).trans (a2.mono (by decide))
  -- the spares
  have l38 : ∃ σ2, X9_binds_l38 N (fun v1 σ => X9_binds_j85 N v1 σ) N (nI F) 0 σ1 = X9_binds_j85 N (nI F) σ2 ∧ (∀ k, k < 8 → fuG A.1.1 A.2.1 k = true → gi σ2 167 k = zI (exZ A.1 A.2.1 k)) ∧ Fr [159, 160, 167] σ1 σ2 := by
    refine forL0 (L := fun m k a => X9_binds_l38 N (fun v1 σ => X9_binds_j85 N v1 σ) m (nI F) (nI k) a) (m := 8) (N := N) (a := σ1) (fun k a => (∀ j, j < k → fuG A.1.1 A.2.1 j = true → gi a 167 j = zI (exZ A.1 A.2.1 j)) ∧ Fr [159, 160, 167] σ1 a) (o := fun x => ∃ σ2, x = X9_binds_j85 N (nI F) σ2 ∧ (∀ k, k < 8 → fuG A.1.1 A.2.1 k = true → gi σ2 167 k = zI (exZ A.1 A.2.1 k)) ∧ Fr [159, 160, 167] σ1 σ2) (by omega) ⟨fun j hj => absurd hj (Nat.not_lt_zero _), Fr.refl _ _⟩ ?_ ?_
    · intro m k a hk hI
      obtain ⟨i1, i2⟩ := hI
      left
      have hbk : hb (nI F) k = fuG A.1.1 A.2.1 k := by rw [hb_nI (by omega), F3]
      by_cases q : fuG A.1.1 A.2.1 k = true
      · have q' := q
        unfold fuG at q'
        rw [Bool.and_eq_true, decide_eq_true_eq] at q'
        have fa : Fr [3000, 159, 160, 167] σ a := (f1.mono (by decide)).trans (i2.mono (by decide))
        have La := hσ.1.fr fa (by decide)
        have ra : rR a 153 = A.2.1 := (rR_congr (fa.r (by simp [pl]))).trans hσ.2.1
        obtain ⟨σ3, u1, u2⟩ := above_r (N := N) (by omega) (Or.inl rfl : (153 : Nat) = 153 ∨ (153 : Nat) = 154) La (show h36 < 2147483648 by omega) (by rw [ra]; exact e36) (bun A.2.1 k)
        rw [ra] at u1
        refine ⟨wi σ3 167 k (exS A.1 A.2.1 (bun A.2.1 k)), ⟨fun j hj hF => ?_, (i2.trans (u2.mono (by decide))).wi (by simp [pl])⟩, ?_⟩
        · rw [giw]
          by_cases y : j = k
          · rw [if_pos ⟨rfl, y⟩, y, exZ_z]
          · rw [if_neg (fun u => y u.2), u2.g (k := 167) (by simp [pl])]; exact i1 j (by omega) hF
        · rw [X9_binds_l38, if_neg (c8 hk), has_t N (by omega) (hbk.trans q), Option.bind_some, if_neg oneF, bundle_r (by omega) La.1 (by rw [ra]; exact hW) q'.1, Option.bind_some, ra, if_neg (by rw [(isF_iff.mp q'.2).1]; simp), u1, Option.bind_some, inbI hk (by omega), if_pos rfl, clI (by omega), nI1]
          rfl
      · refine ⟨wi a 167 k 0, ⟨fun j hj hF => ?_, i2.wi (by simp [pl])⟩, ?_⟩
        · rw [giw]
          by_cases y : j = k
          · rw [y] at hF; exact absurd hF q
          · rw [if_neg (fun u => y u.2)]; exact i1 j (by omega) hF
        · rw [X9_binds_l38, if_neg (c8 hk), has_f N (by omega) (hbk.trans (by simpa using q)), Option.bind_some, if_pos rfl, inbI hk (by omega), if_pos rfl, clI (by omega), nI1]
          rfl
    · intro m a hI
      exact ⟨a, by rw [X9_binds_l38, if_pos c8'], hI.1, hI.2⟩
  obtain ⟨σ2, l1, l2, l3⟩ := l38
  have fw : Fr [166] σ2 (wi σ2 166 0 0) := (Fr.refl _ _).wi (by simp [pl])
  obtain ⟨σ3, z, g1, g2, g3, g4⟩ := binds_l94 (N := N) hN h8 hex (σ := wi σ2 166 0 0) F1 F3 (fun k hk hf => (fw.g (k := 167) (by simp [pl])).trans (l2 k hk hf)) (by rw [giw, if_pos ⟨rfl, rfl⟩])
  have hz : z = (c : Int) := by
    rcases g3 with ⟨c', rfl, p1, p2⟩ | ⟨ub, un⟩
    · have := p2 c hc.1
      have := hc.2 c' p1
      omega
    · exact absurd hc.1 (un c)
  subst hz
  rw [← zI_n] at g2
  have hc8 : c ≤ 8 := by
    have := Pt.le c _ 8 hc.1 (fun k hk => by unfold fuG at hk; simp at hk; omega)
    have := cntB_le (fuG A.1.1 A.2.1) 8
    omega
  obtain ⟨σ4, t1, t2, t3⟩ := enters_r N (told0_r σ3) (by decide) (nI c).toInt64
  have ft := told0_f σ3
  refine ⟨σ4, ?_, t2, ((f1.mono (by decide)).trans ((l3.mono (by decide)).trans ((fw.mono (by decide)).trans (g4.mono (by decide))))).trans ((ft.trans t3).mono (by decide))⟩
  unfold X9_binds
  simp only [bnS]
  rw [firstOnes_r (by omega) c1.1 r0' hW, Option.bind_some, here_r N (L := A.1) c1.1, Option.bind_some, r0', a1, Option.bind_some, if_pos (Int32.not_lt.mp (fun u => by have := (zI_neg (by omega) (by omega)).mp u; omega)), F2, l1, X9_binds_j85, if_pos (by decide)]
  simp only [bnS]
  rw [show (0 : Int32).toNatClampNeg = 0 from cl0, g1, X9_binds_j193]
  simp only [bnS]
  rw [inbI (show F < 256 by omega) (by omega), if_pos rfl, clI (by omega), ft.g (k := 166) (by simp [pl]), g2, t1, Option.bind_some, bitCount_eq, Option.bind_some, if_pos rfl, ← F2, pop_mkB h8, (t3.g (k := 166) (by simp [pl])).trans (ft.g (k := 166) (by simp [pl])), g2]
theorem binds_op {N : Nat} (hN : 555 < N) {H : Nat} {A : Ab} (hA : OkA H A) (hH : H < 1000000) : OpB (X8_binds N) (X9_binds N) H A := by
  have hto : A.2.2.2.1.length ≤ 10 := hA.2.2.1
  have h8 := hA.1.1.2.2.2.2
  have hW := hA.1.1
  have hle : ∀ c, Pt (exZ A.1 A.2.1) A.1.1 c (fuG A.1.1 A.2.1) → c ≤ 8 := fun c h => Nat.le_trans (Pt.le c _ 8 h (fun k hk => by unfold fuG at hk; simp at hk; omega)) (cntB_le _ 8)
  by_cases q : ∃ c, Pt (exZ A.1 A.2.1) A.1.1 c (fuG A.1.1 A.2.1)
  · obtain ⟨c, c1, c2⟩ := max_of 8 hle q
    refine OpB.told hA (nI (cntB (isF A.2.1) A.1.1) - nI c) [(nI c).toInt64] (by simp) (fun σ hσ => ?_) (fun σ hσ => binds_r hN hA hH σ hσ c ⟨c1, c2⟩)
    obtain ⟨z, z1, z2, z3⟩ := binds_c hN hA hH σ hσ
    have hz : z = (c : Int) := by
      rcases z1 with ⟨c', rfl, p1, p2⟩ | ⟨ub, un⟩
      · have := p2 c c1
        have := c2 c' p1
        omega
      · exact absurd c1 (un c)
    subst hz
    have := z2 ⟨c, rfl⟩
    rw [← zI_n] at this
    exact this
  · refine OpB.told hA (-2) A.2.2.2.1 hto (fun σ hσ => ?_) (fun σ hσ => ?_)
    · obtain ⟨z, z1, z2, z3⟩ := binds_c hN hA hH σ hσ
      rcases z1 with ⟨c', rfl, p1, p2⟩ | ⟨ub, un⟩
      · exact absurd ⟨c', p1⟩ q
      · exact z3 ub
    · obtain ⟨h36, hh, e36⟩ := hA.1.h36
      have f0 := thrown_f σ 0
      have c1 := hσ.1.fr f0 (by decide)
      have r0' : rR (wi σ 149 0 0) 153 = A.2.1 := (rR_congr (f0.r (by simp [pl]))).trans hσ.2.1
      have hex : ∀ k, -200 ≤ exZ A.1 A.2.1 k ∧ exZ A.1 A.2.1 k ≤ 200 := fun k => exS_bd hA.1 (by omega) _
      have hbd := smZ_bd (e := exZ A.1 A.2.1) (S := fuG A.1.1 A.2.1) A.1.1 (fun k _ => hex k)
      obtain ⟨σ1, a1, a2⟩ := above_r (N := N) (by omega) (Or.inl rfl : (153 : Nat) = 153 ∨ (153 : Nat) = 154) c1 (show h36 < 2147483648 by omega) (by rw [r0']; exact e36) (hereS A.1 (rR (wi σ 149 0 0) 153))
      rw [r0', ex_here hW] at a1
      have f1 : Fr [3000, 159, 160] σ σ1 := (f0.mono (by decide)).trans (a2.mono (by decide))
      have hneg : smZ (exZ A.1 A.2.1) (fuG A.1.1 A.2.1) A.1.1 < 0 := by
        rcases Int.lt_or_le (smZ (exZ A.1 A.2.1) (fuG A.1.1 A.2.1) A.1.1) 0 with w | w
        · exact w
        · exfalso
          by_cases u : ∃ k, fuG A.1.1 A.2.1 k = true
          · exact q ⟨1, fuG A.1.1 A.2.1, fun _ h => h, u, w, fun k => by show (_ && !_) = false; cases fuG A.1.1 A.2.1 k <;> rfl⟩
          · exact q ⟨0, fun k => by
              cases hx : fuG A.1.1 A.2.1 k
              · rfl
              · exact absurd ⟨k, hx⟩ u⟩
      refine ⟨σ1, ?_, hσ.2.2.2.1.fr f1 (by decide), f1.mono (by decide)⟩
      unfold X9_binds
      simp only [bnS]
      rw [firstOnes_r (by omega) c1.1 r0' hW, Option.bind_some, here_r N (L := A.1) c1.1, Option.bind_some, r0', a1, Option.bind_some, if_neg (Int32.not_le.mpr ((zI_neg (by omega) (by omega)).mpr hneg))]
