/-! ===== sign, end ===== -/
theorem hb_ush (n : Nat) (hn : n < 32) (x : Int32) (i : Nat) : hb (ushr x (nI n)) i = hb x (n + i) := by
  show (x.toUInt32 >>> ((nI n).toUInt32 &&& Int32.toUInt32 31)).toBitVec.getLsbD i = x.toUInt32.toBitVec.getLsbD (n + i)
  rw [UInt32.toBitVec_shiftRight]
  show (x.toUInt32.toBitVec >>> (((nI n).toUInt32 &&& Int32.toUInt32 31).toBitVec % 32).toNat).getLsbD i = _
  rw [(by decide +kernel : ∀ n, n < 32 → (((nI n).toUInt32 &&& Int32.toUInt32 31).toBitVec % 32).toNat = n) n hn, BitVec.getLsbD_ushiftRight]
theorem hb_ssh (n : Nat) (hn : n < 32) (x : Int32) {i : Nat} (hi : n + i < 32) : hb (x >>> (nI n &&& 31)) i = hb x (n + i) := by
  show (BitVec.sshiftRight' x.toBitVec ((nI n &&& 31).toBitVec.smod 32)).getLsbD i = x.toBitVec.getLsbD (n + i)
  rw [BitVec.sshiftRight', smod31 n hn, BitVec.getLsbD_sshiftRight]
  simp [hi]
  omega
theorem hb_255 : ∀ i, i < 32 → hb 255 i = decide (i < 8) := by decide +kernel
def byS (v : Int32) (s : Nat) : Int32 := ushr v (nI s) &&& 255
theorem byS_r (v : Int32) {s : Nat} (hs : s ≤ 24) : (v >>> (nI s &&& 31)) &&& 255 = byS v s := by
  unfold byS
  apply hb_ext
  intro i hi
  rw [hb_and, hb_and, hb_255 i hi]
  by_cases q : i < 8
  · rw [hb_ush s (by omega), hb_ssh s (by omega) v (by omega)]
  · simp [q]
theorem byS_nI (v : Int32) (s : Nat) : ∃ x, x < 256 ∧ byS v s = nI x := by
  obtain ⟨m, hm, e⟩ := mask_nI (x := byS v s) (n := 8) (fun i hi => by
    unfold byS
    rcases Nat.lt_or_ge i 32 with q | q
    · rw [hb_and, hb_255 i q, decide_eq_false (by omega)]; simp
    · exact hb_big q)
  exact ⟨m, hm, e⟩
theorem byS_c (v : Int32) (s : Nat) : vp_nar .char (i2c_ (ushr v (nI s) &&& 255)) = byS v s := by
  unfold i2c_
  rw [sc_c2]
  unfold vp_nar
  rw [sc_nar]
  rfl
def byN (v : Int32) (s : Nat) : Nat := (byS v s).toNatClampNeg
theorem byN_e (v : Int32) (s : Nat) : byS v s = nI (byN v s) ∧ byN v s < 256 := by
  obtain ⟨x, hx, e⟩ := byS_nI v s
  unfold byN
  rw [e, clI (by omega)]
  exact ⟨rfl, hx⟩
theorem txAdd_c {σ : Sg} {t : List Nat} (h : TxC σ t) {x : Nat} : TxC (wi (wi σ 2 t.length (nI x)) 1 1 (nI t.length + 1)) (t ++ [x]) := by
  refine ⟨?_, fun i hi => ?_⟩
  · rw [giw, if_pos ⟨rfl, rfl⟩, nI1]; simp
  · have hi : i < t.length + 1 := by simpa using hi
    rw [giw, if_neg (by omega), giw, getD_app t x 0 i hi]
    by_cases q : i = t.length
    · rw [if_pos ⟨rfl, q⟩, if_pos q]
    · rw [if_neg (fun z => q z.2), if_neg q]; exact h.2 i (by omega)
theorem add_step {N m : Nat} {σ : Sg} {t : List Nat} (h : TxC σ t) (ht : t.length < 80) (v : Int32) {s : Nat} (hs : s ≤ 24) : ∃ σ', X6_add_l14 N (m + 1) v (nI s) σ = X6_add_l14 N m v (nI s + (-8)) σ' ∧ TxC σ' (t ++ [byN v s]) ∧ Fr [1, 2] σ σ' := by
  refine ⟨wi (wi σ 2 t.length (nI (byN v s))) 1 1 (nI t.length + 1), ?_, txAdd_c h, ((Fr.refl _ _).wi (by simp [pl])).wi (by simp [pl])⟩
  rw [X6_add_l14, if_neg (nI_pos (by omega)), h.1, inbI ht (by omega), clI (by omega), byS_c, (byN_e v s).1]
  simp only [if_true, bnS]
  rw [gi_wi_ne (show (1 : Nat) ≠ 2 by omega), h.1]
theorem get4 (t : List Nat) (a b c d : Nat) (i : Nat) (hi : i < t.length + 4) : (((t ++ [a]) ++ [b]) ++ [c] ++ [d]).getD i 0 = if i < t.length then t.getD i 0 else [a, b, c, d].getD (i - t.length) 0 := by
  rw [getD_app _ _ _ i (by simp; omega)]
  simp only [List.length_append, List.length_singleton]
  by_cases q3 : i = t.length + 1 + 1 + 1
  · rw [if_pos q3, if_neg (by omega), show i - t.length = 3 by omega]; rfl
  · rw [if_neg q3, getD_app _ _ _ i (by simp; omega)]
    simp only [List.length_append, List.length_singleton]
    by_cases q2 : i = t.length + 1 + 1
    · rw [if_pos q2, if_neg (by omega), show i - t.length = 2 by omega]; rfl
    · rw [if_neg q2, getD_app _ _ _ i (by simp; omega)]
      simp only [List.length_append, List.length_singleton]
      by_cases q1 : i = t.length + 1
      · rw [if_pos q1, if_neg (by omega), show i - t.length = 1 by omega]; rfl
      · rw [if_neg q1, getD_app _ _ _ i (by omega)]
        by_cases q0 : i = t.length
        · rw [if_pos q0, if_neg (by omega), show i - t.length = 0 by omega]; rfl
        · rw [if_neg q0, if_pos (by omega)]
theorem sign_op {N : Nat} (hN : 555 < N) {H : Nat} {A : Ab} (hA : OkA H A) (v : Int32) : OpB (X8_sign N v) (X9_sign N v) H A := by
  obtain ⟨L, now, t, to, p, s, w⟩ := A
  have hA0 := hA
  obtain ⟨k1, ⟨k2, k2'⟩, k3, ⟨k4, k4'⟩, k5, k6⟩ := hA
  dsimp only at k1 k2 k2' k3 k4 k4' k5 k6
  by_cases ht : t.length ≤ 76
  · refine ⟨nI (t.length + 4), (L, now, (((t ++ [byN v 24]) ++ [byN v 16]) ++ [byN v 8]) ++ [byN v 0], to, p, s, w), ?_, ?_, k1.mono (by omega), ⟨by simp; omega, fun x hx => ?_⟩, k3, ⟨k4, fun q hq => (k4' q hq).mono (by omega)⟩, fun i r hi hr => (k5 i r hi hr).mono (by omega), k6⟩
    · rintro σ ⟨c1, c2, c3, c4, c5, c6, c7⟩
      dsimp only at c1 c2 c3 c4 c5 c6 c7
      obtain ⟨m, rfl⟩ : ∃ k, N = k + 5 := ⟨N - 5, by omega⟩
      obtain ⟨σ1, a1, a2, a3⟩ := add_step (N := m + 5) (m := m + 4) c3 (by omega) v (s := 24) (by omega)
      obtain ⟨σ2, b1, b2, b3⟩ := add_step (N := m + 5) (m := m + 3) a2 (by simp; omega) v (s := 16) (by omega)
      obtain ⟨σ3, d1, d2, d3⟩ := add_step (N := m + 5) (m := m + 2) b2 (by simp; omega) v (s := 8) (by omega)
      obtain ⟨σ4, e1, e2, e3⟩ := add_step (N := m + 5) (m := m + 1) d2 (by simp; omega) v (s := 0) (by omega)
      have f : Fr [1, 2] σ σ4 := ((a3.trans b3).trans d3).trans e3
      refine ⟨σ4, ?_, ⟨c1.fr f (by decide), (f.row19 (by decide)).trans c2, e2, c4.fr f (by decide), c5.fr f (by decide +kernel), c6.fr f (by decide +kernel), c7.fr f (by decide)⟩, fun B hB => hB.fr f (by decide)⟩
      unfold X8_sign X6_add
      rw [c3.1, if_pos (show nI t.length ≤ 76 from nI_le (b := 76) ht (by decide)), show (24 : Int32) = nI 24 from rfl, a1, show nI 24 + (-8) = nI 16 by decide, b1, show nI 16 + (-8) = nI 8 by decide, d1, show nI 8 + (-8) = nI 0 by decide, e1, show nI 0 + (-8) = (-8 : Int32) by decide, X6_add_l14, if_pos (by decide), e2.1]
      simp
    · rintro σ ⟨c1, c2, c3, c4, c5, c6, c7⟩
      dsimp only at c1 c2 c3 c4 c5 c6 c7
      have f0 := thrown_f σ 0
      have n0 : gi (wi σ 149 0 0) 149 11 = nI t.length := by rw [giw, if_neg (by omega)]; exact c3.1
      have hsh : ∀ i, i < 4 → (24 : Int32) - 8 * nI i = nI (24 - 8 * i) := by decide
      unfold X9_sign
      simp only [bnS]
      rw [n0, if_pos (show nI t.length ≤ 76 from nI_le (b := 76) ht (by decide))]
      refine forL0 (L := fun m i a => X9_sign_l18 N (fun σ => X9_sign_j53 N σ) m v (nI i) a) (m := 4) (a := wi σ 149 0 0) (fun i a => Fr [3000, 155] σ a ∧ (∀ j, j < t.length → gi a 155 j = gi σ 155 j) ∧ ∀ j, j < i → gi a 155 (t.length + j) = nI (byN v (24 - 8 * j))) (o := fun x => ∃ σ', x = some (nI (t.length + 4), σ') ∧ InvR σ' (L, now, (((t ++ [byN v 24]) ++ [byN v 16]) ++ [byN v 8]) ++ [byN v 0], to, p, s, w) ∧ ∀ B, InvC σ B → InvC σ' B) (by omega) ⟨f0.mono (by decide), fun j _ => by rw [gi_wi_ne (by omega)], fun j hj => absurd hj (Nat.not_lt_zero _)⟩ ?_ ?_
      · intro m i a hi hI
        obtain ⟨g0, g1, g2⟩ := hI
        left
        refine ⟨wi a 155 (t.length + i) (nI (byN v (24 - 8 * i))), ⟨g0.wi (by simp [pl]), fun j hj => ?_, fun j hj => ?_⟩, ?_⟩
        · rw [giw, if_neg (by omega)]; exact g1 j hj
        · rw [giw]
          by_cases z : j = i
          · rw [if_pos ⟨rfl, by omega⟩, z]
          · rw [if_neg (by omega)]; exact g2 j (by omega)
        · rw [X9_sign_l18, if_neg (show ¬ (4 : Int32) ≤ nI i from nI_ge (b := 4) hi (by decide)), (g0.g (k := 149) (j := 11) (by decide)).trans c3.1, nI_add, inbI (show t.length + i < 80 by omega) (by omega), clI (by omega), hsh i hi, byS_r v (by omega), (byN_e v _).1, nI1]
          rfl
      · intro m a hI
        obtain ⟨g0, g1, g2⟩ := hI
        have f : Fr [3000, 155, 3011] σ (wi a 149 11 (nI t.length + 4)) := (g0.mono (l' := [3000, 155, 3011]) (by decide)).wi (by simp [pl])
        refine ⟨wi a 149 11 (nI t.length + 4), ?_, ⟨c1.fr f (by decide), (rR_congr (f.r (by simp [pl]))).trans c2, ⟨?_, fun i hi => ?_⟩, c4.fr f (by decide), c5.fr f (by decide), c6.fr f (by decide), c7.fr f (by decide)⟩, fun B hB => hB.fr f (by decide +kernel)⟩
        · rw [X9_sign_l18, if_pos (by decide), X9_sign_j53]
          simp only [bnS]
          rw [(g0.g (k := 149) (j := 11) (by decide)).trans c3.1, giw, if_pos ⟨rfl, rfl⟩, show nI t.length + 4 = nI (t.length + 4) from nI_add _ 4]
        · rw [giw, if_pos ⟨rfl, rfl⟩, show nI t.length + 4 = nI (t.length + 4) from nI_add _ 4]; simp
        · have hi : i < t.length + 4 := by simpa using hi
          rw [gi_wi_ne (by omega), get4 t _ _ _ _ i hi]
          by_cases z : i < t.length
          · rw [if_pos z, g1 i z]; exact c3.2 i z
          · rw [if_neg z]
            have := g2 (i - t.length) (by omega)
            rw [show t.length + (i - t.length) = i by omega] at this
            rw [this]
            have hj : i - t.length = 0 ∨ i - t.length = 1 ∨ i - t.length = 2 ∨ i - t.length = 3 := by omega
            rcases hj with y | y | y | y <;> rw [y] <;> rfl
    · simp only [List.mem_append, List.mem_singleton] at hx
      rcases hx with (((z | z) | z) | z) | z
      · exact k2' x z
      · rw [z]; exact (byN_e v _).2
      · rw [z]; exact (byN_e v _).2
      · rw [z]; exact (byN_e v _).2
      · rw [z]; exact (byN_e v _).2
  · refine OpB.no hA0 (-1) (fun σ hσ => ?_) (fun σ hσ => ?_)
    · have : gi σ 1 1 = nI t.length := hσ.2.2.1.1
      unfold X8_sign X6_add
      rw [this, if_neg (show ¬ nI t.length ≤ 76 from nI_ge (a := 76) (by omega) (by omega))]
      rfl
    · have : gi (wi σ 149 0 0) 149 11 = nI t.length := by rw [giw, if_neg (by omega)]; exact hσ.2.2.1.1
      unfold X9_sign
      simp only [bnS]
      rw [this, if_neg (show ¬ nI t.length ≤ 76 from nI_ge (a := 76) (by omega) (by omega))]
theorem end_op (N : Nat) {H : Nat} {A : Ab} (hA : OkA H A) (v : Int32) : OpB (X8_end N v) (X9_end N v) H A := by
  obtain ⟨L, now, t, to, p, s, w⟩ := A
  have hA0 := hA
  obtain ⟨k1, ⟨k2, k2'⟩, k3, ⟨k4, k4'⟩, k5, k6⟩ := hA
  dsimp only at k1 k2 k2' k3 k4 k4' k5 k6
  rcases upto t.length (by omega) v with ⟨q, hq, rfl⟩ | h
  · have hlen : (t.take q).length = q := by rw [List.length_take]; omega
    refine ⟨1, (L, now, t.take q, to, p, s, w), ?_, ?_, k1.mono (by omega), ⟨by show (t.take q).length ≤ 80; omega, fun x hx => k2' x (List.mem_of_mem_take hx)⟩, k3, ⟨k4, fun q hq => (k4' q hq).mono (by omega)⟩, fun i r hi hr => (k5 i r hi hr).mono (by omega), k6⟩
    · rintro σ ⟨c1, c2, c3, c4, c5, c6, c7⟩
      dsimp only at c1 c2 c3 c4 c5 c6 c7
      have f : Fr [1] σ (wi σ 1 1 (nI q)) := (Fr.refl _ _).wi (by simp [pl])
      refine ⟨wi σ 1 1 (nI q), ?_, ⟨c1.fr f (by decide), (f.row19 (by decide)).trans c2, ⟨?_, fun i hi => ?_⟩, c4.fr f (by decide), c5.fr f (by decide +kernel), c6.fr f (by decide +kernel), c7.fr f (by decide)⟩, fun B hB => hB.fr f (by decide)⟩
      · unfold X8_end X6_cut
        rw [if_neg (nI_pos (by omega)), c3.1, if_pos (nI_le hq (by omega))]
        rfl
      · dsimp only; rw [giw, if_pos ⟨rfl, rfl⟩, hlen]
      · dsimp only at hi ⊢
        rw [hlen] at hi
        rw [gi_wi_ne (by omega), getD_take _ _ _ _ hi]; exact c3.2 i (by omega)
    · rintro σ ⟨c1, c2, c3, c4, c5, c6, c7⟩
      dsimp only at c1 c2 c3 c4 c5 c6 c7
      have f : Fr [3000, 3011] σ (wi (wi σ 149 0 0) 149 11 (nI q)) := ((Fr.refl _ _).wi (by simp [pl])).wi (by simp [pl])
      refine ⟨wi (wi σ 149 0 0) 149 11 (nI q), ?_, ⟨c1.fr f (by decide), (rR_congr (f.r (by simp [pl]))).trans c2, ⟨?_, fun i hi => ?_⟩, c4.fr f (by decide), c5.fr f (by decide), c6.fr f (by decide), c7.fr f (by decide)⟩, fun B hB => hB.fr f (by decide +kernel)⟩
      · unfold X9_end
        simp only [bnS]
        rw [show gi (wi σ 149 0 0) 149 11 = nI t.length by rw [giw, if_neg (by omega)]; exact c3.1, in11 N (hi := nI t.length) rfl (nI_pos (by omega)) (nI_le hq (by omega)), Option.bind_some, if_neg oneF]
      · dsimp only; rw [giw, if_pos ⟨rfl, rfl⟩, hlen]
      · dsimp only at hi ⊢
        rw [hlen] at hi
        rw [f.g (k := 155) (by simp [pl]), getD_take _ _ _ _ hi]; exact c3.2 i (by omega)
  · refine OpB.no hA0 0 (fun σ hσ => ?_) (fun σ hσ => ?_)
    · have e : gi σ 1 1 = nI t.length := hσ.2.2.1.1
      unfold X8_end X6_cut
      by_cases z : v < 0
      · rw [if_pos z]; rfl
      · rw [if_neg z, e, if_neg (fun y => h.elim z (fun u => absurd u (Int32.not_lt.mpr y)))]; rfl
    · unfold X9_end
      simp only [bnS]
      rw [show gi (wi σ 149 0 0) 149 11 = nI t.length by rw [giw, if_neg (by omega)]; exact hσ.2.2.1.1, in01 N (hi := nI t.length) rfl h, Option.bind_some, if_pos rfl]
