/-! ===== the rule: things and ranks ===== -/
section SIM
variable {N k2 : Nat} {t : List Nat}
/-- digits: the class -/
theorem cls_num (hk : k2 = 7 ∨ k2 = 11) (hl : t.length ≤ 80) (hx : ∀ x ∈ t, x < 256) {q d : Nat} {k : Nat} (hk1 : 1 ≤ k) (hk3 : k ≤ 3) (hd : ∀ j, j < k → q + j < min t.length 40 ∧ isD (t.getD (q + j) 0) = true) {σ : Sg} {o w : List Nat} {c : Nat → Bool} (hC : CR k2 σ o w d c 0 true) (hT : TX t σ) (hb1 : o.length + w.length ≤ q) : ∃ σ', CRun N k2 t σ q σ' (q + k) ∧ CR k2 σ' (o ++ [nvT t q k]) w d c k false ∧ Fr (frK k2) σ σ' := by
  have hq := (hd 0 (by omega)).1
  obtain ⟨σ1, a1, a2, a3⟩ := want_digit (N := N) hk hC (by omega) (get256 hx (q + 0)) (hd 0 (by omega)).2
  have e1 : nvT t q 1 = t.getD (q + 0) 0 - 48 := by simp [nvT]
  rw [← e1] at a2
  have r1 : CRun N k2 t σ q σ1 (q + 1) := run_want hl hC hT hq a1
  have T1 := hT.fr hk a3
  have hk4 : k = 1 ∨ k = 2 ∨ k = 3 := by omega
  have n1 := nvT_lt (t := t) (q := q) (k := 1) (by omega) (fun j hj => (hd j (by omega)).2)
  rcases hk4 with rfl | rfl | rfl
  · exact ⟨σ1, r1, a2, a3⟩
  · obtain ⟨σ2, b1, b2, b3⟩ := beh_digit (N := N) hk a2 (by omega) (by omega) (by omega) (by have := n1.2 (by omega); omega) (get256 hx (q + 1)) (hd 1 (by omega)).2
    exact ⟨σ2, r1.trans (run_beh hl a2 T1 (hd 1 (by omega)).1 b1) (by omega) (by omega), b2, a3.trans b3⟩
  · have n2 := nvT_lt (t := t) (q := q) (k := 2) (by omega) (fun j hj => (hd j (by omega)).2)
    obtain ⟨σ2, b1, b2, b3⟩ := beh_digit (N := N) hk a2 (by omega) (by omega) (by omega) (by have := n1.2 (by omega); omega) (get256 hx (q + 1)) (hd 1 (by omega)).2
    have b2' : CR k2 σ2 (o ++ [nvT t q 2]) w d c 2 false := b2
    obtain ⟨σ3, e1, e2, e3⟩ := beh_digit (N := N) hk b2' (by omega) (by omega) (by omega) (by have := n2.2 (by omega); omega) (get256 hx (q + 2)) (hd 2 (by omega)).2
    exact ⟨σ3, (r1.trans (run_beh hl a2 T1 (hd 1 (by omega)).1 b1) (by omega) (by omega)).trans (run_beh hl b2' (T1.fr hk b3) (hd 2 (by omega)).1 e1) (by omega) (by omega), e2, (a3.trans b3).trans e3⟩
theorem ndig_out {x : Nat} (h : isD x = true) : nmK x = 8 ∧ x ≠ 45 ∧ x ≠ 40 := by
  unfold isD at h
  rw [Bool.and_eq_true, decide_eq_true_eq, decide_eq_true_eq] at h
  refine ⟨?_, by omega, by omega⟩
  unfold nmK
  rw [if_neg (by omega), if_neg (by omega), if_neg (by omega), if_neg (by omega), if_neg (by omega), if_neg (by omega), if_neg (by omega), if_neg (by omega)]
theorem simT (hN : 100 < N) (hl : t.length ≤ 80) (hx : ∀ x ∈ t, x < 256) {n q d : Nat} (hq : q ≤ min t.length 40) (hd : d ≤ 4) (I1 : q < min t.length 40 → OutT N t n (q + 1) d) (I2 : q < min t.length 40 → d < 4 → OutR N t n 0 (q + 1) (d + 1)) : OutT N t (n + 1) q d := by
  have h256 := get256 hx q
  have e0 : ∀ τ, X9_reads N (n + 1) true 0 τ = X9_readsThing_b N (fun v σ => X9_reads N n false v σ) (fun σ => X9_reads N n true 0 σ) τ := fun _ => rfl
  by_cases hA : q < min t.length 40 ∧ t.getD q 0 = 45
  · -- a minus
    obtain ⟨hqm, h45⟩ := hA
    have cls : ∀ k2, (k2 = 7 ∨ k2 = 11) → ∀ σ o w c, CR k2 σ o w d c 0 true → TX t σ → o.length + w.length ≤ q → ∃ σ1, CRun N k2 t σ q σ1 (q + 1) ∧ CR k2 σ1 o (w ++ [126]) d c 0 true ∧ TX t σ1 ∧ o.length + (w ++ [126]).length ≤ q + 1 ∧ Fr (frK k2) σ σ1 := by
      intro k2 hk σ o w c hC hT hb1
      obtain ⟨σ1, a1, a2, a3⟩ := want_neg (N := N) hk hC (by omega)
      rw [← h45] at a1
      exact ⟨σ1, run_want hl hC hT hqm a1, a2, hT.fr hk a3, by simp only [List.length_append, List.length_cons, List.length_nil]; omega, a3⟩
    rcases I1 hqm with ⟨q', x, y, p, i1, i2, i3, i4, i5, i6, i7, i8⟩ | ⟨q', i1, i2, i3, i4⟩
    · left
      refine ⟨q', x ++ [3000], y, 126 :: p, by omega, i2, i3.neg, ?_, ?_, ?_, ?_, ?_⟩
      · simp only [List.length_append, List.length_cons, List.length_nil]; omega
      · rw [rev_cons, i5, ← List.append_assoc]; rfl
      · intro s hs
        rcases List.mem_cons.mp hs with z | z
        · exact z
        · exact i6 s z
      · intro τ o hR ho
        obtain ⟨τ1, b1, b2, b3⟩ := i7 _ o hR.move (by omega)
        obtain ⟨τ2, c1, c2, c3⟩ := codes_r (N := N) b2 (by rw [List.length_append]; omega) 3000
        refine ⟨τ2, ?_, by rw [← List.append_assoc]; exact c2, (((Fr.refl _ _).wi (by decide)).trans b3).trans c3⟩
        dsimp only at b1 ⊢
        rw [e0, X9_readsThing_b, takes_yes N hR.1 hl (v := 45) hqm (by rw [h45]; rfl), Option.bind_some, if_neg oneF, b1, Option.bind_some, show (3000 : Int32) = nI 3000 from rfl, c1, Option.bind_some, if_pos (show isB 1 = true by decide)]
      · intro k2 hk σ o w c hC hT hb1
        obtain ⟨σ1, a1, a2, a3, a4, a5⟩ := cls k2 hk σ o w c hC hT hb1
        obtain ⟨σ2, c', g, b1, b2, b3, b4, b5⟩ := i8 k2 hk σ1 o _ c a2 a3 a4
        exact ⟨σ2, c', g, a1.trans b1 (by omega) (by omega), by rw [← app_cons]; exact b2, b3, b4, a5.trans b5⟩
    · right
      refine ⟨q', by omega, i2, ?_, ?_⟩
      · intro τ o hR ho
        obtain ⟨τ1, e, b1, b2, b3, b4, b5⟩ := i3 _ o hR.move (by omega)
        have fr : Fr [3020, 158] τ1 (wi (wi τ1 158 e (nI 3000)) 149 20 (gi (wi τ1 158 e (nI 3000)) 149 20 + 1)) := ((Fr.refl _ _).wi (by simp [pl])).wi (by decide)
        refine ⟨_, e + 1, ?_, b2.fr fr (by decide), ?_, by omega, (((Fr.refl _ _).wi (by decide)).trans b5).trans (fr.mono (by decide))⟩
        · dsimp only at b1 ⊢
          rw [e0, X9_readsThing_b, takes_yes N hR.1 hl (v := 45) hqm (by rw [h45]; rfl), Option.bind_some, if_neg oneF, b1, Option.bind_some]
          unfold X9_codes
          rw [b3, inbI (show e < 80 by omega) (by omega), if_pos rfl, clI (by omega)]
          rfl
        · rw [giw_s, gi_wi_ne (by omega), b3, nI1]
      · intro k2 hk σ o w c hC hT hb1
        obtain ⟨σ1, a1, a2, a3, a4, a5⟩ := cls k2 hk σ o w c hC hT hb1
        exact a1.fail (i4 k2 hk σ1 o _ c a2 a3 a4) (by omega) (by omega) a5
  · have n45 : q < min t.length 40 → ¬ nI (t.getD q 0) = 45 := fun u z => hA ⟨u, (nI_eq (b := 45) (by omega) (by decide)).mp z⟩
    -- no minus: the reader stands
    have pre : ∀ τ o, RR t (min t.length 40) τ q d o → X9_takes N 45 τ = some (0, wi τ 149 12 (nI q + 0)) ∧ RR t (min t.length 40) (wi τ 149 12 (nI q + 0)) q d o ∧ Fr rfL τ (wi τ 149 12 (nI q + 0)) := fun τ o hR => by
      have tk := takes_no N hR.1 hl (by omega) (v := 45) n45
      exact ⟨tk.1, hR.stay tk.2, (Fr.refl _ _).wi (by decide)⟩
    by_cases hB : q < min t.length 40 ∧ isD (t.getD q 0) = true
    · -- a number
      left
      obtain ⟨k, k1, k2', k3⟩ := upto_p (fun j => decide (q + j < min t.length 40) && isD (t.getD (q + j) 0)) 3
      have kd : ∀ j, j < k → q + j < min t.length 40 ∧ isD (t.getD (q + j) 0) = true := fun j hj => by have := k2' j hj; rw [Bool.and_eq_true, decide_eq_true_eq] at this; exact this
      have kpos : 1 ≤ k := by
        rcases Nat.eq_zero_or_pos k with z | z
        · have := k3 (by omega)
          rw [z, Nat.add_zero, decide_eq_true hB.1, hB.2] at this; exact Bool.noConfusion this
        · exact z
      have kend : k = 3 ∨ ¬ (q + k < min t.length 40 ∧ isD (t.getD (q + k) 0) = true) := by
        by_cases z : k = 3
        · exact Or.inl z
        · right
          intro u
          have := k3 (by omega)
          rw [decide_eq_true u.1, u.2] at this; exact Bool.noConfusion this
      have hlt := nvT_lt (t := t) (q := q) k1 (fun j hj => (kd j hj).2)
      have hlast := (kd (k - 1) (by omega)).1
      refine ⟨q + k, [nvT t q k], [nvT t q k], [], by omega, by omega, Bal.one (Or.inl hlt.1), by simp; omega, by simp, by simp, ?_, ?_⟩
      · intro τ o hR ho
        obtain ⟨t1, R1, f1⟩ := pre τ o hR
        obtain ⟨τ2, c1, c2, c3⟩ := num3_r (N := N) (by omega) R1 hl hx kpos k1 kd kend
        obtain ⟨τ3, d1, d2, d3⟩ := codes_r (N := N) c2 (by omega) (nvT t q k)
        refine ⟨τ3, ?_, d2, (f1.trans c3).trans d3⟩
        dsimp only
        rw [e0, X9_readsThing_b, t1, Option.bind_some, if_pos rfl, isDigit_r N R1.1 hl hx (by omega), if_pos (show q < min t.length 40 ∧ wdP t q = true from hB), Option.bind_some, if_neg oneF, c1, Option.bind_some, d1]
        rfl
      · intro k2 hk σ o w c hC hT hb1
        obtain ⟨σ1, a1, a2, a3⟩ := cls_num (N := N) hk hl hx kpos k1 kd hC hT hb1
        refine ⟨σ1, c, k, a1, by rw [List.append_nil]; exact a2, fun _ _ => rfl, fun u z => ?_, a3⟩
        rcases kend with y | y
        · exact Or.inr y
        · exact absurd ⟨u, z⟩ y
    · have nD : ∀ τ, RdR τ t (min t.length 40) q → X9_isDigit N τ = some 0 := fun τ hR => by rw [isDigit_r N hR hl hx (by omega), if_neg (show ¬ (q < min t.length 40 ∧ wdP t q = true) from hB)]
      by_cases hCn : q < min t.length 40 ∧ nmK (t.getD q 0) < 8
      · -- a name
        left
        obtain ⟨hqm, hn⟩ := hCn
        obtain ⟨z1, z2, z3, z4⟩ := nm_256 _ h256
        refine ⟨q + 1, [1000 + nmK (t.getD q 0)], [1000 + nmK (t.getD q 0)], [], by omega, by omega, Bal.one (Or.inr (by omega)), by simp, by simp, by simp, ?_, ?_⟩
        · intro τ o hR ho
          obtain ⟨t1, R1, f1⟩ := pre τ o hR
          have tk := takes_s0 (N := N) (by omega) R1.1 hl hn hqm (z3 hn) z2
          obtain ⟨τ3, d1, d2, d3⟩ := codes_r (N := N) R1.move (by omega) (1000 + nmK (t.getD q 0))
          refine ⟨τ3, ?_, d2, (f1.trans ((Fr.refl _ _).wi (by decide))).trans d3⟩
          dsimp only
          rw [e0, X9_readsThing_b, t1, Option.bind_some, if_pos rfl, nD _ R1.1, Option.bind_some, if_pos rfl, tk, Option.bind_some, if_neg (nI_pos (by omega)), show (1000 : Int32) + nI (nmK (t.getD q 0)) = nI (1000 + nmK (t.getD q 0)) from nI_add 1000 _, d1]
          rfl
        · intro k2 hk σ o w c hC hT hb1
          obtain ⟨σ1, a1, a2, a3⟩ := want_name (N := N) (by omega) hk hC (by omega) h256 hn
          exact ⟨σ1, c, 0, run_want hl hC hT hqm a1, by rw [List.append_nil]; exact a2, fun _ _ => rfl, fun _ _ => Or.inl rfl, a3⟩
      · have nN : q < min t.length 40 → ∀ j, j < 8 → ¬ sB0.getD j 0 = nI (t.getD q 0) := fun u j hj => by
          obtain ⟨z1, z2, z3, z4⟩ := nm_256 _ h256
          have : ¬ nmK (t.getD q 0) < 8 := fun y => hCn ⟨u, y⟩
          exact z2 j (by omega)
        by_cases hD : q < min t.length 40 ∧ t.getD q 0 = 40 ∧ d < 4
        · -- an opening
          obtain ⟨hqm, h40, hd4⟩ := hD
          have cls : ∀ k2, (k2 = 7 ∨ k2 = 11) → ∀ σ o w c, CR k2 σ o w d c 0 true → TX t σ → o.length + w.length ≤ q → ∃ σ1, CRun N k2 t σ q σ1 (q + 1) ∧ CR k2 σ1 o (w ++ [40]) (d + 1) (fun j => if j = d + 1 then false else c j) 0 true ∧ TX t σ1 ∧ o.length + (w ++ [40]).length ≤ q + 1 ∧ Fr (frK k2) σ σ1 := by
            intro k2 hk σ o w c hC hT hb1
            obtain ⟨σ1, a1, a2, a3⟩ := want_open (N := N) hk hC (by omega) hd4
            rw [← h40] at a1
            exact ⟨σ1, run_want hl hC hT hqm a1, a2, hT.fr hk a3, by simp only [List.length_append, List.length_cons, List.length_nil]; omega, a3⟩
          have ref : ∀ τ o, RR t (min t.length 40) τ q d o → ∃ τ1, X9_reads N (n + 1) true 0 τ = ((X9_reads N n false (nI 0) τ1).bind fun r16 => (if r16.1 = 0 then (some (0, r16.2)) else ((X9_takes N 41 r16.2).bind fun r19 => (if r19.1 = 0 then (some (0, r19.2)) else (bnS (wi r19.2 149 14 ((gi r19.2 149 14) - 1)) fun σ22 => some (1, σ22)))))) ∧ RR t (min t.length 40) τ1 (q + 1) (d + 1) o ∧ Fr rfL τ τ1 := by
            intro τ o hR
            obtain ⟨t1, R1, f1⟩ := pre τ o hR
            have tn := takesN_s0 (N := N) (by omega) R1.1 hl (by omega) nN
            have ty := takes_yes N R1.1 hl (v := 40) hqm (by rw [h40]; rfl)
            refine ⟨wi (wi (wi τ 149 12 (nI q + 0)) 149 12 (nI q + 1)) 149 14 (nI (d + 1)), ?_, R1.move.nest (d + 1), (f1.trans ((Fr.refl _ _).wi (by decide))).trans ((Fr.refl _ _).wi (by decide))⟩
            rw [e0, X9_readsThing_b, t1, Option.bind_some, if_pos rfl, nD _ R1.1, Option.bind_some, if_pos rfl, tn, Option.bind_some, if_pos (show (-1 : Int32) < 0 by decide), R1.2.1, if_neg (fun u => by have := (nI_eq (b := 4) (by omega) (by decide)).mp u; omega), ty, Option.bind_some, if_neg oneF]
            simp only [bnS]
            rw [R1.move.2.1, nI1 d]
            rfl
          rcases I2 hqm hd4 with ⟨q1, x, y, p, i1, i2, i3, i4, i5, i6, i7, i8, i9⟩ | ⟨q', i1, i2, i3, i4⟩
          · have hxl : x.length = y.length + p.length := by rw [i5]; simp
            have cls2 : ∀ k2, (k2 = 7 ∨ k2 = 11) → ∀ σ o w c, CR k2 σ o w d c 0 true → TX t σ → o.length + w.length ≤ q → ∃ σ2 c2 g2, CRun N k2 t σ q σ2 q1 ∧ CR k2 σ2 (o ++ y) (w ++ [40] ++ p) (d + 1) c2 g2 false ∧ (∀ j, j ≤ d → c2 j = c j) ∧ (q1 < min t.length 40 → stg (t.getD q1 0) = 1 → c2 (d + 1) = true) ∧ dgOk t q1 g2 ∧ TX t σ2 ∧ Fr (frK k2) σ σ2 := by
              intro k2 hk σ o w c hC hT hb1
              obtain ⟨σ1, a1, a2, a3, a4, a5⟩ := cls k2 hk σ o w c hC hT hb1
              obtain ⟨σ2, c2, g2, b1, b2, b3, b4, b5, b6, b7⟩ := i9 k2 hk σ1 o _ _ a2 a3 a4 (Wt.push (by decide) (by omega)) (fun _ => if_pos rfl)
              refine ⟨σ2, c2, g2, a1.trans b1 (by omega) (by omega), b2, fun j hj => ?_, b5 rfl, b6, a3.fr hk b7, a5.trans b7⟩
              rw [b3 j (by omega), if_neg (by omega)]
            by_cases hcl : q1 < min t.length 40 ∧ t.getD q1 0 = 41
            · left
              obtain ⟨hq1, h41⟩ := hcl
              refine ⟨q1 + 1, x, x, [], by omega, by omega, i3, by omega, by simp, by simp, ?_, ?_⟩
              · intro τ o hR ho
                obtain ⟨τ1, b1, b2, b3⟩ := ref τ o hR
                obtain ⟨τ2, c1, c2, c3⟩ := i8 τ1 o b2 (by omega)
                have ty := takes_yes N c2.1 hl (v := 41) hq1 (by rw [h41]; rfl)
                refine ⟨wi (wi τ2 149 12 (nI q1 + 1)) 149 14 (nI d), ?_, c2.move.nest d, ((b3.trans c3).trans ((Fr.refl _ _).wi (by decide))).trans ((Fr.refl _ _).wi (by decide))⟩
                dsimp only at c1 ⊢
                rw [b1, c1, Option.bind_some, if_neg oneF, ty, Option.bind_some, if_neg oneF]
                simp only [bnS]
                rw [c2.move.2.1, nI_pred]
              · intro k2 hk σ o w c hC hT hb1
                obtain ⟨σ2, c2, g2, b1, b2, b3, b4, b5, b6, b7⟩ := cls2 k2 hk σ o w c hC hT hb1
                obtain ⟨σ3, e1, e2, e3⟩ := beh_close (N := N) (by omega) hk hd4 b2 i6 (by simp only [List.length_append]; omega)
                rw [← h41] at e1
                refine ⟨σ3, c2, 0, b1.trans (run_beh hl b2 b6 hq1 e1) (by omega) (by omega), by rw [List.append_nil, i5, ← List.append_assoc]; exact e2, b3, fun _ _ => Or.inl rfl, b7.trans e3⟩
            · right
              refine ⟨q1, by omega, i2, ?_, ?_⟩
              · intro τ o hR ho
                obtain ⟨τ1, b1, b2, b3⟩ := ref τ o hR
                obtain ⟨τ2, c1, c2, c3⟩ := i8 τ1 o b2 (by omega)
                have tn := takes_no N c2.1 hl (by omega) (v := 41) (fun u z => hcl ⟨u, (nI_eq (b := 41) (by have := get256 hx q1; omega) (by decide)).mp z⟩)
                refine ⟨_, (o ++ x).length, ?_, tn.2, (by rw [giw, if_neg (by omega)]; exact c2.2.2.1), by rw [List.length_append]; omega, (b3.trans c3).trans ((Fr.refl _ _).wi (by decide))⟩
                dsimp only at c1 ⊢
                rw [b1, c1, Option.bind_some, if_neg oneF, tn.1, Option.bind_some, if_pos rfl]
              · intro k2 hk σ o w c hC hT hb1
                obtain ⟨σ2, c2, g2, b1, b2, b3, b4, b5, b6, b7⟩ := cls2 k2 hk σ o w c hC hT hb1
                refine b1.fail ?_ (by omega) i2 b7
                by_cases hq1 : q1 < min t.length 40
                · obtain ⟨σ3, e1, e2⟩ := beh_no (N := N) hk (by omega) b2 (get256 hx q1) (b5 hq1) (fun u => absurd ⟨hq1, u⟩ hcl) (by
                    rcases i7 hq1 with z | z | z | z
                    · exact Or.inl z
                    · exact Or.inr (Or.inl z)
                    · exact Or.inl (by omega)
                    · exact Or.inr (Or.inr ⟨z.2, b4 hq1 z.2⟩))
                  exact fail_beh hl b2 b6 hq1 e1 e2
                · have : q1 = min t.length 40 := by omega
                  rw [this]
                  exact fail_end hl b2 (by omega) (Or.inr (by omega))
          · right
            refine ⟨q', by omega, i2, ?_, ?_⟩
            · intro τ o hR ho
              obtain ⟨τ1, b1, b2, b3⟩ := ref τ o hR
              obtain ⟨τ2, e, c1, c2, c3, c4, c5⟩ := i3 τ1 o b2 (by omega)
              refine ⟨τ2, e, ?_, c2, c3, by omega, b3.trans c5⟩
              dsimp only at c1 ⊢
              rw [b1, c1, Option.bind_some, if_pos rfl]
            · intro k2 hk σ o w c hC hT hb1
              obtain ⟨σ1, a1, a2, a3, a4, a5⟩ := cls k2 hk σ o w c hC hT hb1
              exact a1.fail (i4 k2 hk σ1 o _ _ a2 a3 a4 (Wt.push (by decide) (by omega)) (fun _ => if_pos rfl)) (by omega) (by omega) a5
        · -- nothing that can stand
          right
          refine ⟨q, Nat.le_refl _, hq, ?_, ?_⟩
          · intro τ o hR ho
            obtain ⟨t1, R1, f1⟩ := pre τ o hR
            have tn := takesN_s0 (N := N) (by omega) R1.1 hl (by omega) nN
            by_cases hd4 : d = 4
            · refine ⟨_, o.length, ?_, R1.1, R1.2.2.1, by omega, f1⟩
              dsimp only
              rw [e0, X9_readsThing_b, t1, Option.bind_some, if_pos rfl, nD _ R1.1, Option.bind_some, if_pos rfl, tn, Option.bind_some, if_pos (show (-1 : Int32) < 0 by decide), R1.2.1, hd4, if_pos (show nI 4 = 4 from rfl)]
            · have tk := takes_no N R1.1 hl (by omega) (v := 40) (fun u z => hD ⟨u, (nI_eq (b := 40) (by omega) (by decide)).mp z, by omega⟩)
              refine ⟨_, o.length, ?_, tk.2, (R1.stay tk.2).2.2.1, by omega, f1.trans ((Fr.refl _ _).wi (by decide))⟩
              dsimp only
              rw [e0, X9_readsThing_b, t1, Option.bind_some, if_pos rfl, nD _ R1.1, Option.bind_some, if_pos rfl, tn, Option.bind_some, if_pos (show (-1 : Int32) < 0 by decide), R1.2.1, if_neg (fun u => by have := (nI_eq (b := 4) (by omega) (by decide)).mp u; omega), tk.1, Option.bind_some, if_pos rfl]
          · intro k2 hk σ o w c hC hT hb1
            by_cases hqm : q < min t.length 40
            · by_cases h40 : t.getD q 0 = 40
              · have hd4 : d = 4 := by
                  rcases Nat.lt_or_ge d 4 with z | z
                  · exact absurd ⟨hqm, h40, z⟩ hD
                  · omega
                subst hd4
                refine fail_want hl hC hT hqm (σ' := σ) ?_ (Fr.refl _ _)
                rw [h40]; exact want_open4 hC
              · refine fail_want hl hC hT hqm (σ' := σ) ?_ (Fr.refl _ _)
                exact want_no (by omega) h256 (by
                  cases hz : isD (t.getD q 0)
                  · rfl
                  · exact absurd ⟨hqm, hz⟩ hB) (fun u => hA ⟨hqm, u⟩) h40 (fun u => hCn ⟨hqm, u⟩)
            · have : q = min t.length 40 := by omega
              rw [this]
              exact fail_end hl hC hd (Or.inl rfl)
theorem simR3 {n q d : Nat} (I : OutT N t n q d) : OutR N t (n + 1) 3 q d := by
  have e0 : ∀ τ, X9_reads N (n + 1) false (nI 3) τ = ((X9_reads N n true 0 τ).bind fun r23 => (if isB r23.1 = true then some (r23.1, r23.2) else none)) := fun _ => rfl
  rcases I with ⟨q', x, y, p, i1, i2, i3, i4, i5, i6, i7, i8⟩ | ⟨q', i1, i2, i3, i4⟩
  · left
    refine ⟨q', x, y, p, i1, i2, i3, i4, i5, fun s hs => by rw [i6 s hs]; exact ⟨by decide, by omega⟩, fun _ => ?_, ?_, ?_⟩
    · have := stg_le (t.getD q' 0)
      rcases Nat.lt_or_ge (stg (t.getD q' 0)) 4 with z | z
      · exact Or.inr (Or.inr (Or.inl (by omega)))
      · exact Or.inr (Or.inl (by omega))
    · intro τ o hR ho
      obtain ⟨τ', b1, b2, b3⟩ := i7 τ o hR ho
      refine ⟨τ', ?_, b2, b3⟩
      dsimp only at b1 ⊢
      rw [e0, b1]
      rfl
    · intro k2 hk σ o w c hC hT hb1 _ _
      obtain ⟨σ', c', g, b1, b2, b3, b4, b5⟩ := i8 k2 hk σ o w c hC hT hb1
      exact ⟨σ', c', g, b1, b2, fun j hj => b3 j (by omega), fun _ => b3 d (Nat.le_refl _), fun u => by omega, b4, b5⟩
  · right
    refine ⟨q', i1, i2, ?_, fun k2 hk σ o w c hC hT hb1 _ _ => i4 k2 hk σ o w c hC hT hb1⟩
    intro τ o hR ho
    obtain ⟨τ', e, b1, b2, b3, b4, b5⟩ := i3 τ o hR ho
    refine ⟨τ', e, ?_, b2, b3, b4, b5⟩
    dsimp only at b1 ⊢
    rw [e0, b1]
    rfl
theorem simR (hN : 100 < N) (hl : t.length ≤ 80) (hx : ∀ x ∈ t, x < 256) {n v q d : Nat} (hv : v < 3) (hd : d ≤ 4) (hq : q ≤ min t.length 40) (I : ∀ q', q ≤ q' → q' ≤ min t.length 40 → OutR N t n (v + 1) q' d) : OutR N t (n + 1) v q d := by
  have e0 : ∀ τ, X9_reads N (n + 1) false (nI v) τ = ((X9_reads N n false (nI (v + 1)) τ).bind fun r2 => (if r2.1 = 0 then (some (0, r2.2)) else (X9_readsRank_b_l24 N (fun v σ => X9_reads N n false v σ) (fun σ => X9_reads N n true 0 σ) N (nI v) 1 r2.2))) := fun τ => by
    show X9_readsRank_b N (fun v σ => X9_reads N n false v σ) (fun σ => X9_reads N n true 0 σ) (nI v) τ = _
    rw [X9_readsRank_b, if_neg (fun u => by have := (nI_eq (b := 3) (by omega) (by decide)).mp u; omega), nI1]
  rcases I q (Nat.le_refl _) hq with ⟨q1, x1, y1, p1, i1, i2, i3, i4, i5, i6, i7, i8, i9⟩ | ⟨q', i1, i2, i3, i4⟩
  · have hxl : x1.length = y1.length + p1.length := by rw [i5]; simp
    rcases loopR hN hl hx hv hd (q0 := q) I _ q1 N p1 rfl (by omega) i2 (by omega) (fun s hs => ⟨by have := (i6 s hs).1; omega, (i6 s hs).2⟩) i7 with ⟨q2, x2, y2, p2, j1, j2, j3, j4, j5, j6, j7, j8, j9⟩ | ⟨q', j1, j2, j3, j4⟩
    · left
      refine ⟨q2, x1 ++ x2, y1 ++ y2, p2, by omega, j2, i3.app j3, by rw [List.length_append]; omega, ?_, j6, j7, ?_, ?_⟩
      · rw [i5, List.append_assoc, j5, List.append_assoc]
      · intro τ o hR ho
        obtain ⟨τ1, b1, b2, b3⟩ := i8 τ o hR ho
        obtain ⟨τ2, c1, c2, c3⟩ := j8 τ1 _ b2 (by rw [List.length_append]; omega)
        refine ⟨τ2, ?_, by rw [← List.append_assoc]; exact c2, b3.trans c3⟩
        dsimp only at b1 c1 ⊢
        rw [e0, b1, Option.bind_some, if_neg oneF]
        exact c1
      · intro k2 hk σ o w c hC hT hb1 hw hc
        obtain ⟨σ1, c1, g1, b1, b2, b3, b4, b5, b6, b7⟩ := i9 k2 hk σ o w c hC hT hb1 (hw.mono (by omega)) (fun u => by omega)
        obtain ⟨σ2, c2, g2, e1, e2, e3, e4, e5, e6, e7⟩ := j9 k2 hk σ1 _ w c1 g1 b2 (hT.fr hk b7) (by rw [List.length_append]; omega) hw (fun u => (b4 (by omega)).trans (hc u)) b6
        refine ⟨σ2, c2, g2, b1.trans e1 (by omega) j1, by rw [← List.append_assoc]; exact e2, fun j hj => (e3 j hj).trans (b3 j hj), fun u => (e4 u).trans (b4 (by omega)), e5, e6, b7.trans e7⟩
    · right
      refine ⟨q', by omega, j2, ?_, ?_⟩
      · intro τ o hR ho
        obtain ⟨τ1, b1, b2, b3⟩ := i8 τ o hR ho
        obtain ⟨τ2, e, c1, c2, c3, c4, c5⟩ := j3 τ1 _ b2 (by rw [List.length_append]; omega)
        refine ⟨τ2, e, ?_, c2, c3, by rw [List.length_append] at c4; omega, b3.trans c5⟩
        dsimp only at b1 c1 ⊢
        rw [e0, b1, Option.bind_some, if_neg oneF]
        exact c1
      · intro k2 hk σ o w c hC hT hb1 hw hc
        obtain ⟨σ1, c1, g1, b1, b2, b3, b4, b5, b6, b7⟩ := i9 k2 hk σ o w c hC hT hb1 (hw.mono (by omega)) (fun u => by omega)
        exact b1.fail (j4 k2 hk σ1 _ w c1 g1 b2 (hT.fr hk b7) (by rw [List.length_append]; omega) hw (fun u => (b4 (by omega)).trans (hc u)) b6) (by omega) i2 b7
  · right
    refine ⟨q', i1, i2, ?_, fun k2 hk σ o w c hC hT hb1 hw hc => i4 k2 hk σ o w c hC hT hb1 (hw.mono (by omega)) (fun u => by omega)⟩
    intro τ o hR ho
    obtain ⟨τ', e, b1, b2, b3, b4, b5⟩ := i3 τ o hR ho
    refine ⟨τ', e, ?_, b2, b3, b4, b5⟩
    dsimp only at b1 ⊢
    rw [e0, b1, Option.bind_some, if_pos rfl]
theorem sim (hN : 100 < N) (hl : t.length ≤ 80) (hx : ∀ x ∈ t, x < 256) : ∀ n, (∀ q d, q ≤ min t.length 40 → d ≤ 4 → (min t.length 40 - q) + 5 * (4 - d) + 1 ≤ n → OutT N t n q d) ∧ (∀ v q d, v ≤ 3 → q ≤ min t.length 40 → d ≤ 4 → (min t.length 40 - q) + 5 * (4 - d) + 1 + (4 - v) ≤ n → OutR N t n v q d) := by
  intro n
  induction n with
  | zero => exact ⟨fun q d _ _ h => by omega, fun v q d _ _ _ h => by omega⟩
  | succ n ih =>
    obtain ⟨ihT, ihR⟩ := ih
    refine ⟨fun q d hq hd hn => simT hN hl hx hq hd (fun u => ihT (q + 1) d (by omega) hd (by omega)) (fun u hd4 => ihR 0 (q + 1) (d + 1) (by omega) (by omega) (by omega) (by omega)), fun v q d hv hq hd hn => ?_⟩
    by_cases z : v = 3
    · subst z
      exact simR3 (ihT q d hq hd (by omega))
    · exact simR hN hl hx (by omega) hd hq (fun q' h1 h2 => ihR (v + 1) q' d (by omega) h2 hd (by omega))
end SIM
