/-! ===== storm ===== -/
theorem storm_l79 {N : Nat} (hN : 20 < N) {σ : Sg} {p m : Nat} (hp : p ≤ 10) (hm : m ≤ 12) {T : Nat → Nat} (hT : ∀ b, b ≤ m → gi σ 145 b = nI (T b) ∧ T b < 2147483648) (K : Int32 → Int64 → Sg → Option (Int32 × Sg)) : X8_storm_l79 N K N (nI p) (nI m) 0 0 σ = K (nI m) (lN (smN (fun b => T b * p ^ b * (10 - p) ^ (m - b)) (m + 1))) σ := by
  have e10 : (10 : Int32) - nI p = nI (10 - p) := pk_sub (a := 10) hp
  refine forL0 (L := fun f i a => X8_storm_l79 N K f (nI p) (nI m) a (nI i) σ) (m := m + 1) (a := (0 : Int64)) (fun i a => a = lN (smN (fun b => T b * p ^ b * (10 - p) ^ (m - b)) i)) (o := fun x => x = K (nI m) (lN (smN (fun b => T b * p ^ b * (10 - p) ^ (m - b)) (m + 1))) σ) (by omega) rfl ?_ ?_
  · intro f i a hi ha
    left
    refine ⟨_, rfl, ?_⟩
    obtain ⟨t1, t2⟩ := hT i (by omega)
    show _ = X8_storm_l79 N K f (nI p) (nI m) (lN (smN _ i + T i * p ^ i * (10 - p) ^ (m - i))) (nI (i + 1)) σ
    rw [X8_storm_l79, if_neg (nI_nlt (show i ≤ m by omega) (by omega)), inbI (show i < 13 by omega) (by omega), if_pos rfl, power_c p (by omega) (by omega) (by omega), Option.bind_some, e10, pk_sub (show i ≤ m by omega), power_c (10 - p) (by omega) (by omega) (by omega), Option.bind_some, clI (by omega), t1, nI_l t2, lN_mul, lN_mul, ha, lN_add, nI1]
  · intro f a ha
    rw [X8_storm_l79, if_pos (nI_lt (by omega) (by omega)), ha]
section SX
variable {L : Ld} {r : Nat → Int32} {k : Nat}
def stV (n : Nat) (r : Nat → Int32) : List (Nat × Nat) := prA (lsF (tyP r)) n [] n
def stC (r : Nat → Int32) (k : Nat) : List (Nat × Nat) := prA (lsF (fun a b => hb (bun r k) a && tyP r a b)) 8 [] 8
theorem stC_eq {n : Nat} (hW : WL n r) : stC r k = (stV n r).filter (fun e => hb (bun r k) e.1) := by
  have h8 := hW.2.2.2.2
  unfold stC stV
  rw [filter_prA (f := hb (bun r k)) n]
  exact prA_cut h8 (fun a ha b hb1 => by rw [show tyP r a b = false from hW.1 a ha b hb1]; simp)
theorem stV_mem {n : Nat} {e : Nat × Nat} : e ∈ stV n r ↔ e.1 < n ∧ e.1 < e.2 ∧ e.2 < n ∧ tyP r e.1 e.2 = true := mem_prA n
theorem stV_ok {n : Nat} : eOk n (stV n r) := fun e he => ⟨(stV_mem.mp he).2.1, (stV_mem.mp he).2.2.1⟩
theorem stV_nodup {n : Nat} : (stV n r).Nodup := nodup_prA n
def upU (L : Ld) (r : Nat → Int32) (k p : Nat) : Nat := RLg (10 - p) p (okG L r k) (stC r k).reverse []
theorem up_le {p : Nat} (hp : p ≤ 10) : upU L r k p ≤ 10 ^ (stC r k).length := by
  have := RLg_le (x := 10 - p) (y := p) (ok := okG L r k) okG_le (stC r k).reverse []
  rw [show 10 - p + p = 10 by omega, List.length_reverse] at this
  exact this
theorem up_c {p : Nat} : smN (fun b => tly (okW L r k (stC r k)) (brW (stC r k)) (2 ^ (stC r k).length) b * p ^ b * (10 - p) ^ ((stC r k).length - b)) ((stC r k).length + 1) = upU L r k p := by
  have e1 : (fun b => tly (okW L r k (stC r k)) (brW (stC r k)) (2 ^ (stC r k).length) b * p ^ b * (10 - p) ^ ((stC r k).length - b)) = fun b => tly (okW L r k (stC r k)) (brW (stC r k)) (2 ^ (stC r k).length) b * (p ^ b * (10 - p) ^ ((stC r k).length - b)) := by
    funext b; rw [Nat.mul_assoc]
  rw [e1, tly_sum (ok := okW L r k (stC r k)) (c := brW (stC r k)) (m := (stC r k).length) (fun b => p ^ b * (10 - p) ^ ((stC r k).length - b)) (fun w => okG_le _) (2 ^ (stC r k).length) (fun w _ => by unfold brW; omega)]
  have := mask_sum (10 - p) p (okG L r k) (fun i => (stC r k).getD i (0, 0)) (stC r k).length []
  rw [rvL_rev] at this
  unfold upU
  rw [← this]
  apply smN_congr
  intro w _
  have hc := cntB_le w.testBit (stC r k).length
  rw [wtI_pow, List.append_nil]
  unfold brW okW
  rw [show (stC r k).length - ((stC r k).length - cntB w.testBit (stC r k).length) = cntB w.testBit (stC r k).length by omega, Nat.mul_comm, Nat.mul_comm (p ^ _)]
theorem up_r {n S H p : Nat} (hW : WF n S H r) (hk : k < n) (hp : p ≤ 10) : smN (fun s => wtI p (10 - p) s (stV n r).length * okR L r k (selI (fun i => (stV n r).getD i (0, 0)) s (stV n r).length)) (2 ^ (stV n r).length) = 10 ^ ((stV n r).length - (stC r k).length) * upU L r k p := by
  have h8 := hW.1.2.2.2.2
  have o8 : eOk 8 (stV n r) := fun e he => ⟨(stV_ok e he).1, by have := (stV_ok e he).2; omega⟩
  have h1 := mask_sum p (10 - p) (okR L r k) (fun i => (stV n r).getD i (0, 0)) (stV n r).length []
  rw [rvL_rev] at h1
  have h2 : smN (fun s => wtI p (10 - p) s (stV n r).length * okR L r k (selI (fun i => (stV n r).getD i (0, 0)) s (stV n r).length)) (2 ^ (stV n r).length) = RLg p (10 - p) (okR L r k) (stV n r).reverse [] := by
    rw [← h1]
    apply smN_congr
    intro s _
    rw [List.append_nil]
  rw [h2]
  have h3 := conv (L := L) (r := r) (k := k) (show k < 8 by omega) p (10 - p) (stV n r).reverse [] [] (by rw [List.append_nil, List.append_nil]; exact (List.reverse_perm (stV n r)).nodup_iff.mpr stV_nodup) (fun e he => o8 e (by rw [List.append_nil, List.append_nil] at he; exact List.mem_reverse.mp he)) (fun i j hi => by
    rw [List.append_nil, List.append_nil]
    apply Bool.eq_iff_iff.mpr
    rw [mE_iff, List.mem_reverse, List.mem_reverse, stV_mem, stV_mem]
    dsimp only
    constructor
    · intro h
      have hj : j < n := by
        rcases Nat.lt_or_ge j n with z | z
        · exact z
        · have := hW.1.1 i hi j z
          rw [show lnk r i = r (24 + i) from rfl, this] at h; exact Bool.noConfusion h
      have hs : hb (lnk r j) i = true := by
        have := hW.1.2.1 i j hi (by omega)
        show hb (r (24 + j)) i = true
        rw [← this]; exact h
      have hin : i < n := by
        rcases Nat.lt_or_ge i n with z | z
        · exact z
        · have := hW.1.1 j (by omega) i z
          rw [show lnk r j = r (24 + j) from rfl, this] at hs; exact Bool.noConfusion hs
      have hne : i ≠ j := fun u => by
        subst u
        have := hW.2.2.2.2.2.1 i hi
        rw [show lnk r i = r (24 + i) from rfl, this] at h; exact Bool.noConfusion h
      rcases Nat.lt_or_ge i j with z | z
      · exact Or.inl ⟨hin, z, hj, h⟩
      · exact Or.inr ⟨hj, by omega, hin, hs⟩
    · rintro (h | h)
      · exact h.2.2.2
      · have := hW.1.2.1 j i (by omega) hi
        show hb (r (24 + i)) j = true
        rw [← this]; exact h.2.2.2)
  rw [h3]
  have h4 := RLg_filter (x := 10 - p) (y := p) (ok := okG L r k) (fun e => hb (bun r k) e.1) (fun T => ∀ e ∈ T, e.1 < e.2 ∧ e.2 < 8 ∧ hb (lnk r e.1) e.2 = true) (fun T hT => okG_in hW.1 hk hT) (stV n r).reverse [] [] rfl (fun S hS => by
    have : ∀ e ∈ S ++ [], e.1 < e.2 ∧ e.2 < 8 ∧ hb (lnk r e.1) e.2 = true := fun e he => by
      rw [List.append_nil] at he
      have := stV_mem.mp (List.mem_reverse.mp (hS e he))
      exact ⟨this.2.1, by omega, this.2.2.2⟩
    exact ⟨this, this⟩)
  rw [h4, List.filter_reverse, ← stC_eq hW.1, List.length_reverse, List.length_reverse, show 10 - p + p = 10 by omega]
  rfl
end SX
theorem storm_op {N : Nat} (hN : 5000 < N) {H : Nat} {A : Ab} (hA : OkA H A) (hH : H < 1000000) (a b : Int32) : OpB (X8_storm N a b) (X9_storm N a b) H A := by
  obtain ⟨L, now, t, to, p, s, w⟩ := A
  have hW : WF L.1 9 H now := hA.1
  have hto : to.length ≤ 10 := hA.2.2.1
  have h8 : L.1 ≤ 8 := hW.1.2.2.2.2
  rcases thing_or h8 a with ⟨k, hk, rfl⟩ | ha
  · rcases upto 10 (by omega) b with ⟨q, hq, rfl⟩ | hb1
    · obtain ⟨cl, clt⟩ := cntL_len hW
      have cl' : cntL now = nI (stV L.1 now).length := cl
      have clt' : (stV L.1 now).length < 100 := clt
      by_cases hno : hb (now 32) k = true ∨ 12 < (stV L.1 now).length
      · refine OpB.no hA (-2) (fun σ hσ => ?_) (fun σ hσ => ?_)
        · have hn : gi σ 5 1 = nI L.1 := hσ.1.n.1
          have e32 : gi σ 19 4 = now 32 := by rw [← rC_32, hσ.2.1]
          unfold X8_storm
          rw [isThing_t N hn h8 hk, Option.bind_some, if_neg oneF, if_neg (nI_pos (by omega)), if_pos (show nI q ≤ 10 from nI_le (b := 10) hq (by decide)), isGone_b N 19 (by omega), Option.bind_some, e32]
          by_cases z : hb (now 32) k = true
          · rw [if_pos z, if_neg oneF]
          · have z2 : 12 < (stV L.1 now).length := by rcases hno with u | u; exact absurd u z; exact u
            rw [if_neg z, if_pos rfl, stringCount_s (by omega), Option.bind_some, hσ.2.1, cl', if_neg (show ¬ nI (stV L.1 now).length ≤ 12 from nI_ge (a := 12) z2 (by omega))]
        · have f0 := thrown_f σ 0
          have c1 := hσ.1.fr f0 (by decide)
          have r0' : rR (wi σ 149 0 0) 153 = now := (rR_congr (f0.r (by simp [pl]))).trans hσ.2.1
          unfold X9_storm
          simp only [bnS]
          rw [isThingR_t N c1.1 h8 hk, Option.bind_some, if_neg oneF, in11 N (h64 := 10) (hi := 10) rfl (nI_pos (by omega)) (show nI q ≤ 10 from nI_le (b := 10) hq (by decide)), Option.bind_some, if_neg oneF, stringMany_s (by omega) c1.1 (by rw [r0']; exact hW.1), Option.bind_some, isHere_b N c1.1 h8 hk, Option.bind_some, r0', cl']
          by_cases z : hb (now 32) k = true
          · rw [if_pos z, if_pos rfl]
          · have z2 : 12 < (stV L.1 now).length := by rcases hno with u | u; exact absurd u z; exact u
            rw [if_neg z, if_neg oneF, if_neg (show ¬ nI (stV L.1 now).length ≤ 12 from nI_ge (a := 12) z2 (by omega))]
      · have hg : hb (now 32) k = false := by
          cases u : hb (now 32) k with
          | false => rfl
          | true => exact absurd (Or.inl u) hno
        have h12 : (stV L.1 now).length ≤ 12 := by
          rcases Nat.lt_or_ge 12 (stV L.1 now).length with z | z
          · exact absurd (Or.inr z) hno
          · exact z
        have hCl : (stC now k).length ≤ (stV L.1 now).length := by rw [stC_eq hW.1]; exact List.length_filter_le _ _
        have okC : eOk L.1 (stC now k) := fun e he => by rw [stC_eq hW.1] at he; exact stV_ok e (List.mem_filter.mp he).1
        have hU : upU L now k q ≤ 10 ^ (stC now k).length := up_le hq
        have p12 : 10 ^ (stC now k).length ≤ 10 ^ 12 := Nat.pow_le_pow_right (by omega) (by omega)
        have p12' : 10 ^ (stV L.1 now).length ≤ 10 ^ 12 := Nat.pow_le_pow_right (by omega) h12
        have ppos : 0 < 10 ^ (stC now k).length := Nat.pow_pos (by omega)
        have e12 : (10 : Nat) ^ 12 = 1000000000000 := by decide
        have dpos : 0 < Nat.gcd (upU L now k q) (10 ^ (stC now k).length) := Nat.gcd_pos_of_pos_right _ ppos
        have dle : Nat.gcd (upU L now k q) (10 ^ (stC now k).length) ≤ 10 ^ (stC now k).length := Nat.gcd_le_right _ ppos
        refine OpB.told hA 0 [lN (upU L now k q / Nat.gcd (upU L now k q) (10 ^ (stC now k).length)), lN (10 ^ (stC now k).length / Nat.gcd (upU L now k q) (10 ^ (stC now k).length))] (by simp) (fun σ hσ => ?_) (fun σ hσ => ?_)
        · have hn : gi σ 5 1 = nI L.1 := hσ.1.n.1
          have e32 : gi σ 19 4 = now 32 := by rw [← rC_32, hσ.2.1]
          obtain ⟨h, hh, e36⟩ := hW.h36
          obtain ⟨k2, m1, m2, m3, m4⟩ := hσ.1.rule
          have hr : rC σ 19 = now := hσ.2.1
          obtain ⟨σ1, e1, e2, e3⟩ := weigh_b (N := N) (by omega) (Or.inl rfl : (19 : Nat) = 19 ∨ (19 : Nat) = 24) m4 (show h < 2147483648 by omega) (by rw [hr]; exact e36)
          rw [hr] at e2
          obtain ⟨σ2, t1, t2, t3⟩ := tally_c (N := N) (L := L) hN ((e3.row19 (by decide)).trans hr) hW.1 hk e2 (V := stC now k) rfl (nodup_prA 8) okC (by omega)
          have l79 := storm_l79 (N := N) (by omega) hq (show (stC now k).length ≤ 12 by omega) (T := tly (okW L now k (stC now k)) (brW (stC now k)) (2 ^ (stC now k).length)) (σ := σ2) (fun b hb2 => ⟨t2 b hb2, by
            have := tly_le (okW L now k (stC now k)) (brW (stC now k)) (2 ^ (stC now k).length) b
            have : 2 ^ (stC now k).length ≤ 2 ^ 12 := Nat.pow_le_pow_right (by omega) (by omega)
            omega⟩) (fun v3 v4 σ => X8_storm_j123 N v3 v4 σ)
          rw [up_c] at l79
          obtain ⟨σ3, u1, u2, u3⟩ := tell2_c N (lN (upU L now k q / Nat.gcd (upU L now k q) (10 ^ (stC now k).length))) (lN (10 ^ (stC now k).length / Nat.gcd (upU L now k q) (10 ^ (stC now k).length))) σ2
          refine ⟨σ3, ?_, u2, ((e3.mono (by decide)).trans (t3.mono (by decide))).trans (u3.mono (by decide))⟩
          have gc : X8_commonDivisor N (lN (upU L now k q)) (lN (10 ^ (stC now k).length)) σ2 = some (lN (Nat.gcd (upU L now k q) (10 ^ (stC now k).length))) := gcd_c σ2 40 _ _ N 0 (by omega) (by omega) (by omega) (by omega) (by omega)
          unfold X8_storm
          rw [isThing_t N hn h8 hk, Option.bind_some, if_neg oneF, if_neg (nI_pos (by omega)), if_pos (show nI q ≤ 10 from nI_le (b := 10) hq (by decide)), isGone_b N 19 (by omega), Option.bind_some, e32, hg, if_neg (show ¬ false = true by decide), if_pos rfl, stringCount_s (by omega), Option.bind_some, hr, cl', if_pos (show nI (stV L.1 now).length ≤ 12 from nI_le (b := 12) h12 (by decide)), m2, m3, if_pos rfl, e1, Option.bind_some, t1, Option.bind_some, l79, X8_storm_j123, show (10 : Int32) = nI 10 from rfl, power_c 10 (by omega) (by omega) (by omega), Option.bind_some, gc, Option.bind_some, if_pos ((lg_cmp_ge _ 1).mpr (show (1 : Int64) ≤ lN (Nat.gcd (upU L now k q) (10 ^ (stC now k).length)) from (pk_lLE (a := 1) (by omega) (by omega)).mpr dpos)), X8_storm_j150, if_neg (lN_ne (by omega) (by omega)), if_neg (lN_ne (by omega) (by omega)), pk_lDiv (by omega) dpos (by omega), pk_lDiv (by omega) dpos (by omega), u1]
          rfl
        · have f0 := thrown_f σ 0
          have c1 := hσ.1.fr f0 (by decide)
          have r0' : rR (wi σ 149 0 0) 153 = now := (rR_congr (f0.r (by simp [pl]))).trans hσ.2.1
          obtain ⟨σ1, a1, a2, a3⟩ := storm_l63 (N := N) (by omega) c1.1 h8 r0' h12 (fun v1 v2 v3 σ => X9_storm_j138 N v1 v2 v3 σ) (nI k) (nI q) (nI (stV L.1 now).length)
          have f1 : Fr [3000, 173, 174] σ σ1 := (f0.mono (by decide)).trans (a3.mono (by decide))
          obtain ⟨σ2, b1, b2⟩ := storm_l170 (N := N) hN (hσ.1.fr f1 (by decide)) ((rR_congr (f1.r (by simp [pl]))).trans hσ.2.1) hW hH hk hg (V := stV L.1 now) stV_ok (fun e he => by
            have hm := stV_mem.mp he
            have hne : ∀ i j, i < 8 → hb (lnk now i) j = true → hb (now 32) i = false := fun i j hi hij => by
              cases hx : hb (now 32) i
              · rfl
              · have := hW.1.2.2.1 i hi hx
                rw [show lnk now i = now (24 + i) from rfl, this, hb_0] at hij; exact Bool.noConfusion hij
            refine ⟨hne e.1 e.2 (by omega) hm.2.2.2, hne e.2 e.1 (by omega) ?_⟩
            have := hW.1.2.1 e.1 e.2 (by omega) (by omega)
            show hb (now (24 + e.2)) e.1 = true
            rw [← this]; exact hm.2.2.2) h12 a2 hq (fun v5 v7 σ => X9_storm_j293 N v5 v7 σ) (lN (10 ^ (stV L.1 now).length))
          rw [up_r hW hk hq] at b1
          have e10 : 10 ^ (stV L.1 now).length = 10 ^ ((stV L.1 now).length - (stC now k).length) * 10 ^ (stC now k).length := by rw [← Nat.pow_add]; congr 1; omega
          have kpos : 0 < 10 ^ ((stV L.1 now).length - (stC now k).length) := Nat.pow_pos (by omega)
          have hup : 10 ^ ((stV L.1 now).length - (stC now k).length) * upU L now k q ≤ 10 ^ (stV L.1 now).length := by rw [e10]; exact Nat.mul_le_mul_left _ hU
          have gg : Nat.gcd (10 ^ ((stV L.1 now).length - (stC now k).length) * upU L now k q) (10 ^ (stV L.1 now).length) = 10 ^ ((stV L.1 now).length - (stC now k).length) * Nat.gcd (upU L now k q) (10 ^ (stC now k).length) := by rw [e10, Nat.gcd_mul_left]
          have gle : 10 ^ ((stV L.1 now).length - (stC now k).length) * Nat.gcd (upU L now k q) (10 ^ (stC now k).length) ≤ 10 ^ (stV L.1 now).length := by rw [e10]; exact Nat.mul_le_mul_left _ dle
          have gpos : 0 < 10 ^ ((stV L.1 now).length - (stC now k).length) * Nat.gcd (upU L now k q) (10 ^ (stC now k).length) := Nat.mul_pos kpos dpos
          have gc : X9_common N (lN (10 ^ ((stV L.1 now).length - (stC now k).length) * upU L now k q)) (lN (10 ^ (stV L.1 now).length)) σ2 = some (lN (10 ^ ((stV L.1 now).length - (stC now k).length) * Nat.gcd (upU L now k q) (10 ^ (stC now k).length))) := by
            rw [← gg]
            exact gcd_r σ2 40 _ _ 100 (by omega) (by omega) (by omega) (by omega)
          have q1 : 10 ^ ((stV L.1 now).length - (stC now k).length) * upU L now k q / (10 ^ ((stV L.1 now).length - (stC now k).length) * Nat.gcd (upU L now k q) (10 ^ (stC now k).length)) = upU L now k q / Nat.gcd (upU L now k q) (10 ^ (stC now k).length) := Nat.mul_div_mul_left _ _ kpos
          have q2 : 10 ^ (stV L.1 now).length / (10 ^ ((stV L.1 now).length - (stC now k).length) * Nat.gcd (upU L now k q) (10 ^ (stC now k).length)) = 10 ^ (stC now k).length / Nat.gcd (upU L now k q) (10 ^ (stC now k).length) := by rw [e10]; exact Nat.mul_div_mul_left _ _ kpos
          obtain ⟨σ3, u1, u2, u3⟩ := enters_r N (told0_r σ2) (by decide) (lN (upU L now k q / Nat.gcd (upU L now k q) (10 ^ (stC now k).length)))
          obtain ⟨σ4, v1, v2, v3⟩ := enters_r N u2 (by simp) (lN (10 ^ (stC now k).length / Nat.gcd (upU L now k q) (10 ^ (stC now k).length)))
          refine ⟨σ4, ?_, v2, ((f1.mono (by decide)).trans (b2.mono (by decide))).trans ((((told0_f σ2).trans u3).trans v3).mono (by decide))⟩
          unfold X9_storm
          simp only [bnS]
          rw [isThingR_t N c1.1 h8 hk, Option.bind_some, if_neg oneF, in11 N (h64 := 10) (hi := 10) rfl (nI_pos (by omega)) (show nI q ≤ 10 from nI_le (b := 10) hq (by decide)), Option.bind_some, if_neg oneF, stringMany_s (by omega) c1.1 (by rw [r0']; exact hW.1), Option.bind_some, isHere_b N c1.1 h8 hk, Option.bind_some, r0', cl', hg, if_neg (show ¬ false = true by decide), if_neg oneF, if_pos (show nI (stV L.1 now).length ≤ 12 from nI_le (b := 12) h12 (by decide)), a1, X9_storm_j138, storm_l147 (by omega) σ1 h12, X9_storm_j167, b1, X9_storm_j293, gc, Option.bind_some]
          simp only [bnS]
          rw [if_neg (lN_ne (by omega) (by omega)), pk_lDiv (by omega) gpos (by omega), q1, u1, Option.bind_some, if_neg (lN_ne (by omega) (by omega)), pk_lDiv (by omega) gpos (by omega), q2, v1]
          rfl
    · refine OpB.no hA (-1) (fun σ hσ => ?_) (fun σ hσ => ?_)
      · have hn : gi σ 5 1 = nI L.1 := hσ.1.n.1
        unfold X8_storm
        rw [isThing_t N hn h8 hk, Option.bind_some, if_neg oneF]
        by_cases z : b < 0
        · rw [if_pos z]
        · rcases hb1 with u | u
          · exact absurd u z
          · rw [if_neg z, if_neg (show ¬ b ≤ 10 from Int32.not_le.mpr u)]
      · have hn : gi (wi σ 149 0 0) 149 3 = nI L.1 := ((thrown_f σ 0).g (k := 149) (j := 3) (by decide)).trans hσ.1.1
        unfold X9_storm
        simp only [bnS]
        rw [isThingR_t N hn h8 hk, Option.bind_some, if_neg oneF, in01 N (h64 := 10) (hi := nI 10) rfl hb1, Option.bind_some, if_pos rfl]
  · refine OpB.no hA (-1) (fun σ hσ => ?_) (fun σ hσ => ?_)
    · have hn : gi σ 5 1 = nI L.1 := hσ.1.n.1
      unfold X8_storm
      rw [isThing_f N hn ha, Option.bind_some, if_pos rfl]
    · have hn : gi (wi σ 149 0 0) 149 3 = nI L.1 := ((thrown_f σ 0).g (k := 149) (j := 3) (by decide)).trans hσ.1.1
      unfold X9_storm
      simp only [bnS]
      rw [isThingR_f N hn h8 ha, Option.bind_some, if_pos rfl]
