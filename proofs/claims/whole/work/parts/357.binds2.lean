/-! ===== binds: the class ===== -/
def bd1 : Int → Prop := fun z => z = -1
theorem bd1_neg : ∀ z, bd1 z → z < 0 := fun z h => by unfold bd1 at h; omega
theorem cG_sub {n : Nat} {r : Nat → Int32} {g s : Nat} (h : ∀ b, g.testBit b = true → s.testBit b = true) (k : Nat) (hk : cG n r g k = true) : cG n r s k = true := by
  obtain ⟨h1, h2, h3⟩ := cG_iff.mp hk
  exact cG_iff.mpr ⟨h1, h2, h _ h3⟩
theorem cG_xor {n : Nat} {r : Nat → Int32} {g s : Nat} (h : ∀ b, g.testBit b = true → s.testBit b = true) : cG n r (s ^^^ g) = fun k => cG n r s k && !cG n r g k := by
  funext k
  unfold cG
  rw [Nat.testBit_xor]
  have := h (cntB (isF r) k)
  cases decide (k < n) <;> cases isF r k <;> cases hs : s.testBit (cntB (isF r) k) <;> cases hg : g.testBit (cntB (isF r) k) <;> simp_all
theorem xor_lt {g s : Nat} (h : ∀ b, g.testBit b = true → s.testBit b = true) (hg : 1 ≤ g) : s ^^^ g < s := by
  have h1 : s ^^^ g ≤ s := sub_le (fun b hb1 => by
    rw [Nat.testBit_xor] at hb1
    have := h b
    cases hs : s.testBit b
    · cases hg2 : g.testBit b
      · rw [hs, hg2] at hb1; exact Bool.noConfusion hb1
      · rw [← hs]; exact this hg2
    · rfl)
  have h2 : s ^^^ g ≠ s := fun q => by
    have : s ^^^ (s ^^^ g) = s ^^^ s := by rw [q]
    rw [← Nat.xor_assoc, Nat.xor_self, Nat.zero_xor] at this
    omega
  omega
theorem mostG_c {N : Nat} (hN : 300 < N) {σ : Sg} {L : Ld} {r : Nat → Int32} (h8 : L.1 ≤ 8) (hex : ∀ k, -200 ≤ exZ L r k ∧ exZ L r k ≤ 200) {s : Nat} (hs : s < 2 ^ cntB (isF r) L.1) (hsum : ∀ g, g ≤ s → gi σ 143 g = zI (smZ (exZ L r) (cG L.1 r g) L.1)) (hbest : ∀ g, g < s → ∃ z, gi σ 144 g = zI z ∧ BV (exZ L r) L.1 (cG L.1 r g) bd1 z) : ∃ z, X8_mostGroups N (nI s) σ = some (zI z) ∧ BV (exZ L r) L.1 (cG L.1 r s) bd1 z := by
  have hc := cntB_le (isF r) L.1
  have hs256 : s < 256 := Nat.lt_of_lt_of_le hs (pow8 (show cntB (isF r) L.1 ≤ 8 by omega)).2
  have hsup : ∀ g k, cG L.1 r g k = true → k < 8 := fun g k hk => by have := (cG_iff.mp hk).1; omega
  have hle : ∀ g c, Pt (exZ L r) L.1 c (cG L.1 r g) → c ≤ 8 := fun g c h => Nat.le_trans (Pt.le c _ 8 h (hsup g)) (cntB_le _ 8)
  unfold X8_mostGroups
  by_cases h0 : s = 0
  · subst h0
    refine ⟨0, if_pos rfl, Or.inl ⟨0, rfl, fun k => by unfold cG; simp, fun c' h => ?_⟩⟩
    cases c' with
    | zero => exact Nat.le_refl _
    | succ c' =>
      obtain ⟨G, g1, ⟨x, gx⟩, _⟩ := h
      have := g1 x gx
      unfold cG at this; simp at this
  · obtain ⟨t, t1, t2, t3⟩ := low_256 s hs256 h0
    rw [if_neg (nI_ne0 (by omega) (by omega)), t2]
    have htm : t < cntB (isF r) L.1 := by
      rcases Nat.lt_or_ge t (cntB (isF r) L.1) with z | z
      · exact z
      · rw [Nat.testBit_lt_two_pow (Nat.lt_of_lt_of_le hs (Nat.pow_le_pow_right (n := 2) (by omega) z))] at t3; exact Bool.noConfusion t3
    obtain ⟨x, x1, x2, x3⟩ := cntB_at htm
    have hSx : cG L.1 r s x = true := cG_iff.mpr ⟨x1, x2, by rw [x3]; exact t3⟩
    refine forL (L := fun f i z => X8_mostGroups_l16 N σ f (nI s) (zI z) (nI (2 ^ t)) (nI i)) (m := s + 1) (I := fun i z => Jz (exZ L r) L.1 (cG L.1 r s) bd1 (fun g => (∀ b, g.testBit b = true → s.testBit b = true) ∧ g.testBit t = true ∧ 0 ≤ smZ (exZ L r) (cG L.1 r g) L.1) (cG L.1 r) i z ∧ -1 ≤ z ∧ z ≤ 8) (o := fun x => ∃ z, x = some (zI z) ∧ BV (exZ L r) L.1 (cG L.1 r s) bd1 z) ?_ ?_ s N 1 (-1) (by omega) (by omega) ⟨⟨Or.inl rfl, fun g g1 g2 => by omega⟩, by omega, by omega⟩
    · intro f i z hi hI
      obtain ⟨hJ, z1, z2⟩ := hI
      left
      rw [X8_mostGroups_l16, if_neg (nI_nlt (show i ≤ s by omega) (by omega))]
      rcases Nat.eq_zero_or_pos i with hi0 | hi0
      · subst hi0
        refine ⟨z, ⟨hJ.skip (fun q => by have := q.2.1; simp at this), z1, z2⟩, ?_⟩
        rw [if_pos (by simp [nI_0]), if_pos (by simp [nI_0]), X8_mostGroups_j43, if_pos rfl, nI1]
      · by_cases q1 : ∀ b, i.testBit b = true → s.testBit b = true
        · rw [if_pos ((sub_t (by omega)).mpr q1)]
          by_cases q2 : i.testBit t = true
          · rw [if_neg (fun y => by rw [(and_t (by omega)).mp y] at q2; exact Bool.noConfusion q2), X8_mostGroups_j43, if_neg oneF, inbI (show i < 256 by omega) (by omega), if_pos rfl, clI (by omega), hsum i (by omega)]
            have hbd := smZ_bd (e := exZ L r) (S := cG L.1 r i) L.1 (fun k _ => hex k)
            by_cases q3 : 0 ≤ smZ (exZ L r) (cG L.1 r i) L.1
            · have hlt := xor_lt q1 hi0
              obtain ⟨y, y1, y2⟩ := hbest (s ^^^ i) hlt
              rw [if_neg (fun u => by have := (zI_neg (by omega) (by omega)).mp u; omega), nx_xor, inbI (show s ^^^ i < 256 by omega) (by omega), if_pos rfl, clI (by omega), y1]
              rw [cG_xor q1] at y2
              rcases y2 with ⟨c0, rfl, p1, p2⟩ | ⟨ub, un⟩
              · have hc0 : c0 ≤ 8 := hle (s ^^^ i) c0 (by rw [cG_xor q1]; exact p1)
                have hnew := hle s (c0 + 1) ⟨cG L.1 r i, cG_sub q1, ⟨x, cG_iff.mpr ⟨x1, x2, by rw [x3]; exact q2⟩⟩, q3, p1⟩
                refine ⟨_, ⟨hJ.take bd1_neg (cG_sub q1) ⟨x, cG_iff.mpr ⟨x1, x2, by rw [x3]; exact q2⟩⟩ q3 p1 p2, by split <;> omega, by split <;> omega⟩, ?_⟩
                rw [if_neg (fun u => by have := (zI_neg (by omega) (by omega)).mp u; omega), if_pos rfl, zI_1, max_b, Option.bind_some, zI_max (by omega) (by omega) (by omega) (by omega), nI1]
              · refine ⟨z, ⟨hJ.skip (fun _ => un), z1, z2⟩, ?_⟩
                have : y = -1 := ub
                rw [if_pos ((zI_neg (by omega) (by omega)).mpr (by omega)), nI1]
            · refine ⟨z, ⟨hJ.skip (fun q => absurd q.2.2 q3), z1, z2⟩, ?_⟩
              rw [if_pos ((zI_neg (by omega) (by omega)).mpr (by omega)), nI1]
          · refine ⟨z, ⟨hJ.skip (fun q => absurd q.2.1 q2), z1, z2⟩, ?_⟩
            rw [if_pos ((and_t (by omega)).mpr (by simpa using q2)), X8_mostGroups_j43, if_pos rfl, nI1]
        · refine ⟨z, ⟨hJ.skip (fun q => absurd q.1 q1), z1, z2⟩, ?_⟩
          rw [if_neg (fun u => q1 ((sub_t (by omega)).mp u)), X8_mostGroups_j43, if_pos rfl, nI1]
    · intro f z hI
      refine ⟨z, by rw [X8_mostGroups_l16, if_pos (nI_lt (by omega) (by omega))], hI.1.done hSx (fun F f1 f2 f3 => ?_) bd1_neg⟩
      obtain ⟨g, hg⟩ := maskOf (fun b => @decide (∃ k, k < L.1 ∧ isF r k = true ∧ cntB (isF r) k = b ∧ F k = true) (Classical.propDecidable _)) 8
      have hg2 : ∀ b, g.testBit b = true ↔ ∃ k, k < L.1 ∧ isF r k = true ∧ cntB (isF r) k = b ∧ F k = true := by
        intro b
        rw [hg b, Bool.and_eq_true, decide_eq_true_eq, @decide_eq_true_iff _ (Classical.propDecidable _)]
        constructor
        · exact fun h => h.2
        · rintro ⟨k, k1, k2, k3, k4⟩
          exact ⟨by have := cntB_le (isF r) k; omega, k, k1, k2, k3, k4⟩
      have hsb : ∀ b, g.testBit b = true → s.testBit b = true := by
        intro b hb1
        obtain ⟨k, k1, k2, k3, k4⟩ := (hg2 b).mp hb1
        have := (cG_iff.mp (f1 k k4)).2.2
        rwa [k3] at this
      have heq : cG L.1 r g = F := by
        funext k
        apply Bool.eq_iff_iff.mpr
        rw [cG_iff]
        constructor
        · rintro ⟨k1, k2, k3⟩
          obtain ⟨k', j1, j2, j3, j4⟩ := (hg2 _).mp k3
          rw [← cntB_inj j2 k2 j3]; exact j4
        · intro hk
          obtain ⟨k1, k2, k3⟩ := cG_iff.mp (f1 k hk)
          exact ⟨k1, k2, (hg2 _).mpr ⟨k, k1, k2, rfl, hk⟩⟩
      have hgt : g.testBit t = true := by
        rw [← x3]; exact (hg2 _).mpr ⟨x, x1, x2, rfl, f2⟩
      refine ⟨g, ?_, by have := sub_le hsb; omega, ⟨hsb, hgt, by rw [heq]; exact f3⟩, heq⟩
      rcases Nat.eq_zero_or_pos g with z0 | z0
      · rw [z0] at hgt; simp at hgt
      · exact z0
/-- all first things -/
def fuG (n : Nat) (r : Nat → Int32) (k : Nat) : Bool := decide (k < n) && isF r k
theorem cG_full {n : Nat} {r : Nat → Int32} : cG n r (2 ^ cntB (isF r) n - 1) = fuG n r := by
  funext k
  apply Bool.eq_iff_iff.mpr
  rw [cG_iff]
  unfold fuG
  rw [Bool.and_eq_true, decide_eq_true_eq, Nat.testBit_two_pow_sub_one, decide_eq_true_eq]
  exact ⟨fun h => ⟨h.1, h.2.1⟩, fun h => ⟨h.1, h.2, cntB_lt_of h.1 h.2⟩⟩
theorem binds_l41 {N : Nat} (hN : 555 < N) {σ : Sg} {L : Ld} {r : Nat → Int32} (hr : rC σ 19 = r) (hW : WL L.1 r) (hex : ∀ k, -200 ≤ exZ L r k ∧ exZ L r k ≤ 200) (en : ∀ i, i < L.1 → gi σ 15 i = needS L r i) (hP : PtC σ L.1 r) : ∃ σ' z, X8_binds_l41 N (fun v1 σ => X8_binds_j81 N v1 σ) N (nI (2 ^ cntB (isF r) L.1)) 0 σ = X8_binds_j81 N (nI (2 ^ cntB (isF r) L.1)) σ' ∧ gi σ' 144 (2 ^ cntB (isF r) L.1 - 1) = zI z ∧ BV (exZ L r) L.1 (fuG L.1 r) bd1 z ∧ Fr [143, 144] σ σ' := by
  have h8 := hW.2.2.2.2
  have hc := cntB_le (isF r) L.1
  have hp := pow8 (show cntB (isF r) L.1 ≤ 8 by omega)
  refine forL0 (L := fun m s a => X8_binds_l41 N (fun v1 σ => X8_binds_j81 N v1 σ) m (nI (2 ^ cntB (isF r) L.1)) (nI s) a) (m := 2 ^ cntB (isF r) L.1) (N := N) (a := σ) (fun s a => (∀ g, g < s → gi a 143 g = zI (smZ (exZ L r) (cG L.1 r g) L.1)) ∧ (∀ g, g < s → ∃ z, gi a 144 g = zI z ∧ BV (exZ L r) L.1 (cG L.1 r g) bd1 z) ∧ Fr [143, 144] σ a) (o := fun x => ∃ σ' z, x = X8_binds_j81 N (nI (2 ^ cntB (isF r) L.1)) σ' ∧ gi σ' 144 (2 ^ cntB (isF r) L.1 - 1) = zI z ∧ BV (exZ L r) L.1 (fuG L.1 r) bd1 z ∧ Fr [143, 144] σ σ') (by omega) ⟨fun g hg => absurd hg (Nat.not_lt_zero _), fun g hg => absurd hg (Nat.not_lt_zero _), Fr.refl _ _⟩ ?_ ?_
  · intro m s a hs hI
    obtain ⟨i1, i2, i3⟩ := hI
    left
    have ra : rC a 19 = r := (i3.row19 (by decide)).trans hr
    have ea : ∀ i, i < L.1 → gi a 15 i = needS L r i := fun i hi => (i3.g (k := 15) (by simp [pl])).trans (en i hi)
    have Pa : PtC a L.1 r := ⟨(i3.g (k := 5) (j := 6) (by decide)).trans hP.1, fun k hk hF => (i3.g (k := 16) (by simp [pl])).trans (hP.2 k hk hF)⟩
    have e1 := exB_c (N := N) (by omega) ra hW ea Pa (show s < 256 by omega)
    have hsum : ∀ g, g ≤ s → gi (wi a 143 s (zI (smZ (exZ L r) (cG L.1 r s) L.1))) 143 g = zI (smZ (exZ L r) (cG L.1 r g) L.1) := by
      intro g hg
      rw [giw]
      by_cases z : g = s
      · rw [if_pos ⟨rfl, z⟩, z]
      · rw [if_neg (fun u => z u.2)]; exact i1 g (by omega)
    obtain ⟨z, z1, z2⟩ := mostG_c (N := N) (by omega) (σ := wi a 143 s (zI (smZ (exZ L r) (cG L.1 r s) L.1))) h8 hex hs hsum (fun g hg => by rw [giw, if_neg (fun u => absurd u.1 (by decide))]; exact i2 g hg)
    refine ⟨wi (wi a 143 s (zI (smZ (exZ L r) (cG L.1 r s) L.1))) 144 s (zI z), ⟨fun g hg => ?_, fun g hg => ?_, (i3.wi (by simp [pl])).wi (by simp [pl])⟩, ?_⟩
    · rw [giw, if_neg (fun u => absurd u.1 (by decide))]; exact hsum g (by omega)
    · rw [giw]
      by_cases y : g = s
      · rw [if_pos ⟨rfl, y⟩, y]; exact ⟨z, rfl, z2⟩
      · rw [if_neg (fun u => y u.2), giw, if_neg (fun u => absurd u.1 (by decide))]; exact i2 g (by omega)
    · rw [X8_binds_l41, if_neg (nI_ge hs (by omega)), if_neg (show ¬ (256 : Int32) ≤ nI s from nI_ge (b := 256) (show s < 256 by omega) (by decide)), e1, Option.bind_some, inbI (show s < 256 by omega) (by omega), if_pos rfl, clI (by omega), nI1]
      simp only [bnS]
      rw [z1, Option.bind_some, if_pos trivial]
  · intro m a hI
    obtain ⟨i1, i2, i3⟩ := hI
    obtain ⟨z, z1, z2⟩ := i2 (2 ^ cntB (isF r) L.1 - 1) (by omega)
    rw [cG_full] at z2
    exact ⟨a, z, by rw [X8_binds_l41, if_pos (nI_le (Nat.le_refl _) (by omega))], z1, z2, i3⟩
theorem sh_pow : ∀ m, m < 9 → (1 : Int32) <<< (nI m &&& 31) = nI (2 ^ m) := by decide +kernel
theorem binds_c {N : Nat} (hN : 555 < N) {H : Nat} {A : Ab} (hA : OkA H A) (hH : H < 1000000) (σ : Sg) (hσ : InvC σ A) : ∃ z, BV (exZ A.1 A.2.1) A.1.1 (fuG A.1.1 A.2.1) bd1 z ∧ ((∃ c : Nat, z = c) → ∃ σ', X8_binds N σ = some (nI (cntB (isF A.2.1) A.1.1) - zI z, σ') ∧ ToC σ' [(zI z).toInt64] ∧ Fr scrC σ σ') ∧ (z = -1 → ∃ σ', X8_binds N σ = some (-2, σ') ∧ ToC σ' A.2.2.2.1 ∧ Fr scrC σ σ') := by
  have h8 := hA.1.1.2.2.2.2
  have hW := hA.1.1
  obtain ⟨h, hh, e36⟩ := hA.1.h36
  obtain ⟨k2, m1, m2, m3, m4⟩ := hσ.1.rule
  obtain ⟨σ1, e1, e2, e3⟩ := weigh_b (N := N) (by omega) (Or.inl rfl : (19 : Nat) = 19 ∨ (19 : Nat) = 24) m4 (show h < 2147483648 by omega) (by rw [hσ.2.1]; exact e36)
  rw [hσ.2.1] at e2
  have r1 : rC σ1 19 = A.2.1 := (e3.row19 (by decide)).trans hσ.2.1
  obtain ⟨σ2, p1, p2, p3, p4⟩ := part_b (N := N) (by omega) (Or.inl rfl : (19 : Nat) = 19 ∨ (19 : Nat) = 24) (σ := σ1) (n := A.1.1) ((e3.g (by simp [pl])).trans hσ.1.n.1) (by rw [r1]; exact hW)
  rw [r1] at p2 p3
  have r2 : rC σ2 19 = A.2.1 := (p4.row19 (by decide)).trans r1
  have hc := cntB_le (isF A.2.1) A.1.1
  have hp := pow8 (show cntB (isF A.2.1) A.1.1 ≤ 8 by omega)
  obtain ⟨σ3, z, g1, g2, g3, g4⟩ := binds_l41 hN r2 hW (fun k => exS_bd hA.1 (by omega) _) (fun i hi => (p4.g (k := 15) (by simp [pl])).trans (e2 i hi)) ⟨p2, p3⟩
  have f3 : Fr scrC σ σ3 := ((e3.mono (by decide)).trans (p4.mono (by decide))).trans (g4.mono (by decide))
  have code : X8_binds N σ = X8_binds_j81 N (nI (2 ^ cntB (isF A.2.1) A.1.1)) σ3 := by
    unfold X8_binds
    rw [m2, m3, if_pos rfl, e1, Option.bind_some, p1, Option.bind_some, p2, sh_pow _ (by omega), g1]
  have code2 : X8_binds N σ = if 0 ≤ zI z then ((X2_tell N ((zI z).toInt64) σ3).bind fun r22 => (some ((gi r22 5 6) - zI z, r22))) else (some ((-2), σ3)) := by
    rw [code, X8_binds_j81, min_b, Option.bind_some]
    have : (if (256 : Int32) < nI (2 ^ cntB (isF A.2.1) A.1.1) then (256 : Int32) else nI (2 ^ cntB (isF A.2.1) A.1.1)) = nI (2 ^ cntB (isF A.2.1) A.1.1) := if_neg (nI_nlt (b := 256) (a := 2 ^ cntB (isF A.2.1) A.1.1) |> fun f => fun q => absurd q (show ¬ nI 256 < nI (2 ^ cntB (isF A.2.1) A.1.1) from nI_nlt (by omega) (by omega)))
    rw [this, show nI (2 ^ cntB (isF A.2.1) A.1.1) - 1 = nI (2 ^ cntB (isF A.2.1) A.1.1 - 1) from pk_sub (b := 1) (by omega), inbI (show 2 ^ cntB (isF A.2.1) A.1.1 - 1 < 256 by omega) (by omega), if_pos rfl, clI (by omega), g2]
  refine ⟨z, g3, ?_, ?_⟩
  · rintro ⟨c, rfl⟩
    have hc8 : c ≤ 8 := by
      rcases g3 with ⟨c', h1, h2, h3⟩ | ⟨u, _⟩
      · have := Pt.le c' _ 8 h2 (fun k hk => by unfold fuG at hk; simp at hk; omega)
        have := cntB_le (fuG A.1.1 A.2.1) 8
        omega
      · unfold bd1 at u; omega
    obtain ⟨σ4, t1, t2, t3⟩ := tell1_c N (zI (c : Int)).toInt64 σ3
    refine ⟨σ4, ?_, t2, f3.trans (t3.mono (by decide))⟩
    rw [code2, ← zI_n, if_pos (nI_pos' (by omega)), zI_n, t1, Option.bind_some, (t3.g (k := 5) (j := 6) (by decide)).trans ((g4.g (k := 5) (j := 6) (by decide)).trans p2)]
  · rintro rfl
    refine ⟨σ3, ?_, hσ.2.2.2.1.fr (((e3.mono (by decide)).trans (p4.mono (by decide))).trans (g4.mono (by decide)) : Fr [15, 18, 9, 13, 16, 2006, 143, 144] σ σ3) (by decide), f3⟩
    rw [code2, if_neg (by decide)]
