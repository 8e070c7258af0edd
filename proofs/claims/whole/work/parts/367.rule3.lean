/-! ===== the rule: class and reference read alike ===== -/
section SIM
variable {N k2 : Nat} {t : List Nat}
def stopV (t : List Nat) (v q : Nat) : Prop := q < min t.length 40 → stg (t.getD q 0) = 0 ∨ stg (t.getD q 0) = 4 ∨ stg (t.getD q 0) < v + 1 ∨ (v = 0 ∧ stg (t.getD q 0) = 1)
def dgOk (t : List Nat) (q g : Nat) : Prop := q < min t.length 40 → isD (t.getD q 0) = true → g = 0 ∨ g = 3
def rdOk (N : Nat) (t : List Nat) (F : Sg → Option (Int32 × Sg)) (q d q' : Nat) (x : List Nat) : Prop := ∀ τ o, RR t (min t.length 40) τ q d o → o.length ≤ q → ∃ τ', F τ = some (1, τ') ∧ RR t (min t.length 40) τ' q' d (o ++ x) ∧ Fr rfL τ τ'
def rdNo (N : Nat) (t : List Nat) (F : Sg → Option (Int32 × Sg)) (q d q' : Nat) : Prop := ∀ τ o, RR t (min t.length 40) τ q d o → o.length ≤ q → ∃ τ' e, F τ = some (0, τ') ∧ RdR τ' t (min t.length 40) q' ∧ gi τ' 149 20 = nI e ∧ e ≤ o.length + (q' - q) ∧ Fr rfL τ τ'
def OutT (N : Nat) (t : List Nat) (n q d : Nat) : Prop :=
  (∃ q' x y p, q < q' ∧ q' ≤ min t.length 40 ∧ Bal x ∧ x.length ≤ q' - q ∧ x = y ++ p.reverse.map opT ∧ (∀ s ∈ p, s = 126) ∧
    rdOk N t (fun τ => X9_reads N n true 0 τ) q d q' x ∧
    (∀ k2, (k2 = 7 ∨ k2 = 11) → ∀ σ o w c, CR k2 σ o w d c 0 true → TX t σ → o.length + w.length ≤ q → ∃ σ' c' g, CRun N k2 t σ q σ' q' ∧ CR k2 σ' (o ++ y) (w ++ p) d c' g false ∧ (∀ j, j ≤ d → c' j = c j) ∧ dgOk t q' g ∧ Fr (frK k2) σ σ')) ∨
  (∃ q', q ≤ q' ∧ q' ≤ min t.length 40 ∧ rdNo N t (fun τ => X9_reads N n true 0 τ) q d q' ∧ (∀ k2, (k2 = 7 ∨ k2 = 11) → ∀ σ o w c, CR k2 σ o w d c 0 true → TX t σ → o.length + w.length ≤ q → CFail N k2 t σ q q'))
def OutR (N : Nat) (t : List Nat) (n v q d : Nat) : Prop :=
  (∃ q' x y p, q < q' ∧ q' ≤ min t.length 40 ∧ Bal x ∧ x.length ≤ q' - q ∧ x = y ++ p.reverse.map opT ∧ (∀ s ∈ p, v + 1 ≤ stg s ∧ s < 256) ∧ stopV t v q' ∧
    rdOk N t (fun τ => X9_reads N n false (nI v) τ) q d q' x ∧
    (∀ k2, (k2 = 7 ∨ k2 = 11) → ∀ σ o w c, CR k2 σ o w d c 0 true → TX t σ → o.length + w.length ≤ q → Wt (v + 1) w → (v = 0 → c d = false) → ∃ σ' c' g, CRun N k2 t σ q σ' q' ∧ CR k2 σ' (o ++ y) (w ++ p) d c' g false ∧ (∀ j, j < d → c' j = c j) ∧ (1 ≤ v → c' d = c d) ∧ (v = 0 → q' < min t.length 40 → stg (t.getD q' 0) = 1 → c' d = true) ∧ dgOk t q' g ∧ Fr (frK k2) σ σ')) ∨
  (∃ q', q ≤ q' ∧ q' ≤ min t.length 40 ∧ rdNo N t (fun τ => X9_reads N n false (nI v) τ) q d q' ∧ (∀ k2, (k2 = 7 ∨ k2 = 11) → ∀ σ o w c, CR k2 σ o w d c 0 true → TX t σ → o.length + w.length ≤ q → Wt (v + 1) w → (v = 0 → c d = false) → CFail N k2 t σ q q'))
def OutL (N : Nat) (t : List Nat) (n v f q d : Nat) (p1 : List Nat) : Prop :=
  (∃ q' x y p, q ≤ q' ∧ q' ≤ min t.length 40 ∧ BalX x ∧ x.length ≤ q' - q ∧ p1.reverse.map opT ++ x = y ++ p.reverse.map opT ∧ (∀ s ∈ p, v + 1 ≤ stg s ∧ s < 256) ∧ stopV t v q' ∧
    rdOk N t (fun τ => X9_readsRank_b_l24 N (fun v σ => X9_reads N n false v σ) (fun σ => X9_reads N n true 0 σ) f (nI v) 1 τ) q d q' x ∧
    (∀ k2, (k2 = 7 ∨ k2 = 11) → ∀ σ o w c g, CR k2 σ o (w ++ p1) d c g false → TX t σ → o.length + w.length + p1.length ≤ q → Wt (v + 1) w → (v = 0 → c d = false) → dgOk t q g → ∃ σ' c' g', CRun N k2 t σ q σ' q' ∧ CR k2 σ' (o ++ y) (w ++ p) d c' g' false ∧ (∀ j, j < d → c' j = c j) ∧ (1 ≤ v → c' d = c d) ∧ (v = 0 → q' < min t.length 40 → stg (t.getD q' 0) = 1 → c' d = true) ∧ dgOk t q' g' ∧ Fr (frK k2) σ σ')) ∨
  (∃ q', q ≤ q' ∧ q' ≤ min t.length 40 ∧ rdNo N t (fun τ => X9_readsRank_b_l24 N (fun v σ => X9_reads N n false v σ) (fun σ => X9_reads N n true 0 σ) f (nI v) 1 τ) q d q' ∧ (∀ k2, (k2 = 7 ∨ k2 = 11) → ∀ σ o w c g, CR k2 σ o (w ++ p1) d c g false → TX t σ → o.length + w.length + p1.length ≤ q → Wt (v + 1) w → (v = 0 → c d = false) → dgOk t q g → CFail N k2 t σ q q'))
theorem rev_cons (s : Nat) (p : List Nat) : (s :: p).reverse.map opT = p.reverse.map opT ++ [opT s] := by simp
theorem app_cons (w : List Nat) (s : Nat) (p : List Nat) : w ++ [s] ++ p = w ++ s :: p := by simp
theorem Wt.mono {q q' : Nat} {w : List Nat} (h : Wt q w) (hq : q ≤ q') : Wt q' w := fun u a e => ⟨by have := (h u a e).1; omega, (h u a e).2⟩
theorem Wt.push {q : Nat} {w : List Nat} {s : Nat} (h1 : stg s < q) (h2 : s < 256) : Wt q (w ++ [s]) := fun u a e => by
  have := (List.append_inj' e rfl).2
  rw [List.cons.injEq] at this
  rw [← this.1]; exact ⟨h1, h2⟩
theorem loopR (hN : 100 < N) (hl : t.length ≤ 80) (hx : ∀ x ∈ t, x < 256) {n v d : Nat} (hv : v < 3) (hd : d ≤ 4) {q0 : Nat} (IH : ∀ q, q0 ≤ q → q ≤ min t.length 40 → OutR N t n (v + 1) q d) : ∀ (e q f : Nat) (p1 : List Nat), e = min t.length 40 - q → q0 ≤ q → q ≤ min t.length 40 → e < f → (∀ s ∈ p1, v + 1 ≤ stg s ∧ s < 256) → stopV t (v + 1) q → OutL N t n v f q d p1 := by
  intro e
  induction e using Nat.strongRecOn with
  | _ e ih =>
    intro q f p1 he hq0 hq hf hp1 hst
    obtain ⟨f, rfl⟩ : ∃ z, f = z + 1 := ⟨f - 1, by omega⟩
    by_cases hop : q < min t.length 40 ∧ stg (t.getD q 0) = v + 1
    · obtain ⟨hqm, hs⟩ := hop
      have h256 := get256 hx q
      have hrng := opT_rng _ h256 (by omega) (by omega)
      -- the class takes the sign
      have take : ∀ k2, (k2 = 7 ∨ k2 = 11) → ∀ σ o w c g, CR k2 σ o (w ++ p1) d c g false → TX t σ → o.length + w.length + p1.length ≤ q → Wt (v + 1) w → (v = 0 → c d = false) → ∃ σ1, CRun N k2 t σ q σ1 (q + 1) ∧ CR k2 σ1 (o ++ p1.reverse.map opT) (w ++ [t.getD q 0]) d (fun j => if stg (t.getD q 0) = 1 ∧ j = d then true else c j) 0 true ∧ TX t σ1 ∧ (o ++ p1.reverse.map opT).length + (w ++ [t.getD q 0]).length ≤ q + 1 ∧ Fr (frK k2) σ σ1 := by
        intro k2 hk σ o w c g hC hT hb1 hw hc
        obtain ⟨σ1, a1, a2, a3⟩ := beh_op (N := N) (by omega) hk hd hC h256 (by omega) (by omega) (by rw [hs]; exact hw) (fun x hx2 => by rw [hs]; exact hp1 x hx2) (fun u => hc (by omega)) (by omega)
        refine ⟨σ1, run_beh hl hC hT hqm a1, a2, hT.fr hk a3, ?_, a3⟩
        simp only [List.length_append, List.length_map, List.length_reverse, List.length_cons, List.length_nil]
        omega
      rcases IH (q + 1) (by omega) (by omega) with ⟨q2, x2, y2, p2, i1, i2, i3, i4, i5, i6, i7, i8, i9⟩ | ⟨q', i1, i2, i3, i4⟩
      · -- the operand is read
        have ref1 : ∀ τ o, RR t (min t.length 40) τ q d o → o.length ≤ q → ∃ τ2, X9_readsRank_b_l24 N (fun v σ => X9_reads N n false v σ) (fun σ => X9_reads N n true 0 σ) (f + 1) (nI v) 1 τ = X9_readsRank_b_l24 N (fun v σ => X9_reads N n false v σ) (fun σ => X9_reads N n true 0 σ) f (nI v) (if v = 0 then 0 else 1) τ2 ∧ RR t (min t.length 40) τ2 q2 d (o ++ x2 ++ [opT (t.getD q 0)]) ∧ Fr rfL τ τ2 := by
          intro τ o hR ho
          obtain ⟨τ1, b1, b2, b3⟩ := i8 _ o hR.move (by omega)
          obtain ⟨τ2, c1, c2, c3⟩ := codes_r (N := N) b2 (by rw [List.length_append]; omega) (opT (t.getD q 0))
          refine ⟨τ2, ?_, c2, (((Fr.refl _ _).wi (by decide)).trans b3).trans c3⟩
          rw [rank_yes (by omega) hR.1 hl hx hv hqm hs]
          dsimp only at b1
          rw [b1, Option.bind_some, if_neg oneF, c1, Option.bind_some]
        have cls1 : ∀ k2, (k2 = 7 ∨ k2 = 11) → ∀ σ o w c g, CR k2 σ o (w ++ p1) d c g false → TX t σ → o.length + w.length + p1.length ≤ q → Wt (v + 1) w → (v = 0 → c d = false) → ∃ σ2 c2 g2, CRun N k2 t σ q σ2 q2 ∧ CR k2 σ2 (o ++ p1.reverse.map opT ++ y2) (w ++ (t.getD q 0 :: p2)) d c2 g2 false ∧ (∀ j, j < d → c2 j = c j) ∧ (c2 d = if stg (t.getD q 0) = 1 then true else c d) ∧ dgOk t q2 g2 ∧ TX t σ2 ∧ Fr (frK k2) σ σ2 := by
          intro k2 hk σ o w c g hC hT hb1 hw hc
          obtain ⟨σ1, a1, a2, a3, a4, a5⟩ := take k2 hk σ o w c g hC hT hb1 hw hc
          obtain ⟨σ2, c2, g2, b1, b2, b3, b4, b5, b6, b7⟩ := i9 k2 hk σ1 _ _ _ a2 a3 a4 (Wt.push (by omega) h256) (fun u => by omega)
          refine ⟨σ2, c2, g2, a1.trans b1 (by omega) (by omega), by rw [← app_cons]; exact b2, fun j hj => ?_, ?_, b6, a3.fr hk b7, a5.trans b7⟩
          · rw [b3 j hj, if_neg (by omega)]
          · rw [b4 (by omega)]
            by_cases z : stg (t.getD q 0) = 1
            · rw [if_pos ⟨z, rfl⟩, if_pos z]
            · rw [if_neg (fun u => z u.1), if_neg z]
        have hx2 : x2.length = y2.length + p2.length := by rw [i5]; simp
        by_cases hv0 : v = 0
        · left
          subst hv0
          refine ⟨q2, x2 ++ [opT (t.getD q 0)], p1.reverse.map opT ++ y2, t.getD q 0 :: p2, by omega, i2, ?_, ?_, ?_, ?_, ?_, ?_, ?_⟩
          · have := BalX.op i3 hrng BalX.nil
            rwa [List.append_nil] at this
          · rw [List.length_append]; simp only [List.length_cons, List.length_nil]; omega
          · rw [rev_cons, i5]; simp
          · intro s hs2
            rcases List.mem_cons.mp hs2 with z | z
            · rw [z]; exact ⟨by omega, h256⟩
            · have := i6 s z; exact ⟨by omega, this.2⟩
          · intro z
            rcases i7 z with y | y | y | y
            · exact Or.inl y
            · exact Or.inr (Or.inl y)
            · rcases Nat.lt_or_ge (stg (t.getD q2 0)) 1 with u | u
              · exact Or.inr (Or.inr (Or.inl u))
              · exact Or.inr (Or.inr (Or.inr ⟨rfl, by omega⟩))
            · omega
          · intro τ o hR ho
            obtain ⟨τ2, b1, b2, b3⟩ := ref1 τ o hR ho
            obtain ⟨f, rfl⟩ : ∃ z, f = z + 1 := ⟨f - 1, by omega⟩
            refine ⟨τ2, ?_, by rw [← List.append_assoc]; exact b2, b3⟩
            dsimp only
            rw [b1, if_pos rfl, X9_readsRank_b_l24, if_pos rfl]
          · intro k2 hk σ o w c g hC hT hb1 hw hc hg
            obtain ⟨σ2, c2, g2, b1, b2, b3, b4, b5, b6, b7⟩ := cls1 k2 hk σ o w c g hC hT hb1 hw hc
            refine ⟨σ2, c2, g2, b1, by rw [← List.append_assoc]; exact b2, b3, fun u => by omega, fun _ _ _ => ?_, b5, b7⟩
            rw [b4, if_pos (by omega)]
        · rcases ih (min t.length 40 - q2) (by omega) q2 f (t.getD q 0 :: p2) rfl (by omega) i2 (by omega) (fun s hs2 => by
            rcases List.mem_cons.mp hs2 with z | z
            · rw [z]; exact ⟨by omega, h256⟩
            · have := i6 s z; exact ⟨by omega, this.2⟩) i7 with ⟨q3, x3, y3, p3, j1, j2, j3, j4, j5, j6, j7, j8, j9⟩ | ⟨q', j1, j2, j3, j4⟩
          · left
            refine ⟨q3, x2 ++ [opT (t.getD q 0)] ++ x3, p1.reverse.map opT ++ y2 ++ y3, p3, by omega, j2, BalX.op i3 hrng j3, ?_, ?_, j6, j7, ?_, ?_⟩
            · simp only [List.length_append, List.length_cons, List.length_nil]; omega
            · rw [rev_cons] at j5
              rw [i5, List.append_assoc (p1.reverse.map opT ++ y2), ← j5]
              simp
            · intro τ o hR ho
              obtain ⟨τ2, b1, b2, b3⟩ := ref1 τ o hR ho
              obtain ⟨τ3, c1, c2, c3⟩ := j8 τ2 _ b2 (by simp only [List.length_append, List.length_cons, List.length_nil]; omega)
              refine ⟨τ3, ?_, by rw [show o ++ (x2 ++ [opT (t.getD q 0)] ++ x3) = o ++ x2 ++ [opT (t.getD q 0)] ++ x3 by simp]; exact c2, b3.trans c3⟩
              dsimp only
              rw [b1, if_neg hv0]
              exact c1
            · intro k2 hk σ o w c g hC hT hb1 hw hc hg
              obtain ⟨σ2, c2, g2, b1, b2, b3, b4, b5, b6, b7⟩ := cls1 k2 hk σ o w c g hC hT hb1 hw hc
              obtain ⟨σ3, c3, g3, e1, e2, e3, e4, e5, e6, e7⟩ := j9 k2 hk σ2 _ w c2 g2 b2 b6 (by simp only [List.length_append, List.length_map, List.length_reverse, List.length_cons]; omega) hw (fun u => absurd u hv0) b5
              refine ⟨σ3, c3, g3, b1.trans e1 (by omega) j1, by rw [← List.append_assoc, ← List.append_assoc]; exact e2, fun j hj => (e3 j hj).trans (b3 j hj), fun u => ?_, fun u => absurd u hv0, e6, b7.trans e7⟩
              rw [e4 u, b4, if_neg (by omega)]
          · right
            refine ⟨q', by omega, j2, ?_, ?_⟩
            · intro τ o hR ho
              obtain ⟨τ2, b1, b2, b3⟩ := ref1 τ o hR ho
              obtain ⟨τ3, e, c1, c2, c3, c4, c5⟩ := j3 τ2 _ b2 (by simp only [List.length_append, List.length_cons, List.length_nil]; omega)
              refine ⟨τ3, e, ?_, c2, c3, ?_, b3.trans c5⟩
              · dsimp only
                rw [b1, if_neg hv0]
                exact c1
              · simp only [List.length_append, List.length_cons, List.length_nil] at c4; omega
            · intro k2 hk σ o w c g hC hT hb1 hw hc hg
              obtain ⟨σ2, c2, g2, b1, b2, b3, b4, b5, b6, b7⟩ := cls1 k2 hk σ o w c g hC hT hb1 hw hc
              exact b1.fail (j4 k2 hk σ2 _ w c2 g2 b2 b6 (by simp only [List.length_append, List.length_map, List.length_reverse, List.length_cons]; omega) hw (fun u => absurd u hv0) b5) (by omega) i2 b7
      · right
        refine ⟨q', by omega, i2, ?_, ?_⟩
        · intro τ o hR ho
          obtain ⟨τ1, e, b1, b2, b3, b4, b5⟩ := i3 _ o hR.move (by omega)
          refine ⟨τ1, e, ?_, b2, b3, by omega, ((Fr.refl _ _).wi (by decide)).trans b5⟩
          dsimp only
          rw [rank_yes (by omega) hR.1 hl hx hv hqm hs]
          dsimp only at b1
          rw [b1, Option.bind_some, if_pos rfl]
        · intro k2 hk σ o w c g hC hT hb1 hw hc hg
          obtain ⟨σ1, a1, a2, a3, a4, a5⟩ := take k2 hk σ o w c g hC hT hb1 hw hc
          exact a1.fail (i4 k2 hk σ1 _ _ _ a2 a3 a4 (Wt.push (by omega) h256) (fun u => by omega)) (by omega) (by omega) a5
    · left
      refine ⟨q, [], [], p1, Nat.le_refl _, hq, BalX.nil, by simp, by simp, hp1, ?_, ?_, ?_⟩
      · intro z
        rcases hst z with y | y | y | y
        · exact Or.inl y
        · exact Or.inr (Or.inl y)
        · exact Or.inr (Or.inr (Or.inl (by
            have : stg (t.getD q 0) ≠ v + 1 := fun u => hop ⟨z, u⟩
            omega)))
        · omega
      · intro τ o hR ho
        refine ⟨τ, ?_, by rw [List.append_nil]; exact hR, Fr.refl _ _⟩
        exact rank_no (by omega) hR.1 hl hx hq hv (fun u z => hop ⟨u, z⟩) _ _ f
      · intro k2 hk σ o w c g hC hT hb1 hw hc hg
        refine ⟨σ, c, g, CRun.refl _ _, by rw [List.append_nil]; exact hC, fun _ _ => rfl, fun _ => rfl, fun u z y => ?_, hg, Fr.refl _ _⟩
        exact absurd ⟨z, by omega⟩ hop
end SIM
