/-! ===== the rule: whole texts ===== -/
section WR
variable {N : Nat}
theorem CR0 {kd : Nat} (hk : kd = 7 ∨ kd = 11) (σ : Sg) : CR kd (wi (wi (wi (wi (wi (wi σ kd 3 0) kd 4 0) kd 5 0) kd 6 0) kd 7 0) kd 8 1) [] [] 0 (fun _ => false) 0 true ∧ Fr (frK kd) σ (wi (wi (wi (wi (wi (wi σ kd 3 0) kd 4 0) kd 5 0) kd 6 0) kd 7 0) kd 8 1) := by
  obtain ⟨p1, p2, p3⟩ := plK hk
  refine ⟨⟨?_, fun i hi => absurd hi (Nat.not_lt_zero _), ?_, fun i hi => absurd hi (Nat.not_lt_zero _), ?_, fun j hj => ?_, ?_, ?_⟩, ((((((Fr.refl _ _).wi (p1 _)).wi (p1 _)).wi (p1 _)).wi (p1 _)).wi (p1 _)).wi (p1 _)⟩
  · rw [giw, if_neg (by omega), giw, if_neg (by omega), giw, if_neg (by omega), giw, if_neg (by omega), giw, if_neg (by omega), giw_s]; rfl
  · rw [giw, if_neg (by omega), giw, if_neg (by omega), giw, if_neg (by omega), giw, if_neg (by omega), giw_s]; rfl
  · rw [giw, if_neg (by omega), giw, if_neg (by omega), giw, if_neg (by omega), giw_s]; rfl
  · rw [giw, if_neg (by omega), giw, if_neg (by omega), giw_s, hb_0]
  · rw [giw, if_neg (by omega), giw_s]; rfl
  · rw [giw_s]; rfl
theorem compT_start {t : List Nat} (hl : t.length ≤ 80) (kd : Nat) (σ : Sg) : X3_compileT N kd (nI t.length) σ = LT N kd t N 0 (wi (wi (wi (wi (wi (wi σ kd 3 0) kd 4 0) kd 5 0) kd 6 0) kd 7 0) kd 8 1) := by
  unfold X3_compileT
  simp only [bnS]
  rw [show (80 : Int32) = nI 80 from rfl, min_n N (by omega) (by omega), Option.bind_some, Nat.min_eq_left hl, show (40 : Int32) = nI 40 from rfl, min_n N (by omega) (by omega), Option.bind_some]
  rfl
theorem CR.cd {kd : Nat} {σ : Sg} {o w : List Nat} {d g : Nat} {c : Nat → Bool} {b : Bool} (h : CR kd σ o w d c g b) : CdC σ kd (fun i => o.getD i 0) o.length := ⟨h.1, h.2.1⟩
theorem Wt.nil (q : Nat) : Wt q [] := fun u a e => by simp at e
theorem readT (hN : 300 < N) {t : List Nat} (hl : t.length ≤ 80) (hx : ∀ x ∈ t, x < 256) (h0 : 0 < t.length) :
    (∃ x : List Nat, 0 < x.length ∧ x.length ≤ 40 ∧ Bal x ∧ (∀ kd, (kd = 7 ∨ kd = 11) → ∀ σ, TX t σ → ∃ σ', X3_compileT N kd (nI t.length) σ = some (-1, σ') ∧ CdC σ' kd (fun i => x.getD i 0) x.length ∧ Fr (frK kd) σ σ') ∧ (∀ τ, RR t (min t.length 40) τ 0 0 [] → ∃ τ', ((X9_readsRank N 0 τ).bind fun r8 => (if r8.1 = 0 then (X9_readsRule_j29 N (nI t.length) 0 r8.2) else (X9_readsRule_j29 N (nI t.length) 1 r8.2))) = some (0, τ') ∧ gi τ' 149 20 = nI x.length ∧ (∀ i, i < x.length → gi τ' 158 i = nI (x.getD i 0)) ∧ Fr rfL τ τ')) ∨
    (∃ q, q ≤ 40 ∧ (∀ kd, (kd = 7 ∨ kd = 11) → ∀ σ, TX t σ → ∃ σ', X3_compileT N kd (nI t.length) σ = some (nI q, σ') ∧ Fr (frK kd) σ σ') ∧ (∀ τ, RR t (min t.length 40) τ 0 0 [] → ∃ τ', ((X9_readsRank N 0 τ).bind fun r8 => (if r8.1 = 0 then (X9_readsRule_j29 N (nI t.length) 0 r8.2) else (X9_readsRule_j29 N (nI t.length) 1 r8.2))) = some (-1 - nI q, τ') ∧ Fr rfL τ τ')) := by
  have er : ∀ τ, X9_readsRank N 0 τ = X9_reads N 200 false (nI 0) τ := fun _ => rfl
  rcases (sim (N := N) (t := t) (by omega) hl hx 200).2 0 0 0 (by omega) (by omega) (by omega) (by omega) with ⟨q, x, y, p, i1, i2, i3, i4, i5, i6, i7, i8, i9⟩ | ⟨q, i1, i2, i3, i4⟩
  · have hxl : x.length = y.length + p.length := by rw [i5]; simp
    by_cases hend : q = t.length ∧ t.length ≤ 40
    · left
      refine ⟨x, ?_, by omega, i3, ?_, ?_⟩
      · rcases Nat.eq_zero_or_pos x.length with z | z
        · have := i3.2 0
          rw [List.length_eq_zero_iff.mp z] at this
          have := Option.some.inj this
          omega
        · exact z
      · intro kd hk σ hT
        obtain ⟨s1, f1⟩ := CR0 hk σ
        obtain ⟨σ2, c', g, b1, b2, b3, b4, b5, b6, b7⟩ := i9 kd hk _ [] [] _ s1 (hT.fr hk f1) (by simp) (Wt.nil _) (fun _ => rfl)
        have b2' : CR kd σ2 y ([] ++ p) 0 c' g false := b2
        obtain ⟨σ3, e1, e2, e3⟩ := release_c (N := N) (by omega) hk (q := 1) (by omega) (by omega) (Wt.nil 1) b2' i6 (by simp only [List.length_nil]; omega)
        rw [← i5] at e2
        refine ⟨σ3, ?_, e2.cd, (f1.trans b7).trans e3⟩
        have hr := b1 (N - q)
        rw [show N - q + (q - 0) = N by omega] at hr
        obtain ⟨M, hM⟩ : ∃ M, N - q = M + 1 := ⟨N - q - 1, by omega⟩
        rw [compT_start hl, hr, hM]
        unfold LT
        rw [hend.1, Nat.min_eq_left hend.2, X3_compileT_l45, if_pos (nI_le (Nat.le_refl _) (by omega)), X3_compileT_j93, if_neg (nI_nlt (Nat.le_refl _) (by omega)), b2.2.2.2.2.2.2.2, if_pos (if_neg (by decide)), b2.2.2.2.2.1, if_pos (by decide)]
        have e1' : X3_release N kd 1 σ2 = some σ3 := e1
        rw [e1']
        rfl
      · intro τ hR
        obtain ⟨τ', b1, b2, b3⟩ := i8 τ [] hR (by simp)
        dsimp only at b1
        have b2' : RR t (min t.length 40) τ' q 0 x := b2
        refine ⟨τ', ?_, b2'.2.2.1, b2'.2.2.2, b3⟩
        rw [er, b1, Option.bind_some, if_neg oneF, X9_readsRule_j29, show (40 : Int32) = nI 40 from rfl, faultOf2_r N b2'.1 (b := 40) (by omega) rfl hl i2 (v := 1) (ok := true) (Or.inl rfl) ⟨fun _ => ⟨rfl, hend.1, hend.2⟩, fun _ => rfl⟩, if_pos rfl]
        rfl
    · right
      refine ⟨q, by omega, ?_, ?_⟩
      · intro kd hk σ hT
        obtain ⟨s1, f1⟩ := CR0 hk σ
        obtain ⟨σ2, c', g, b1, b2, b3, b4, b5, b6, b7⟩ := i9 kd hk _ [] [] _ s1 (hT.fr hk f1) (by simp) (Wt.nil _) (fun _ => rfl)
        by_cases hqm : q < min t.length 40
        · obtain ⟨σ3, e1, e2⟩ := beh_no (N := N) hk (by omega) b2 (get256 hx q) (b6 hqm) (fun _ => rfl) (by
            rcases i7 hqm with z | z | z | z
            · exact Or.inl z
            · exact Or.inr (Or.inl z)
            · exact Or.inl (by omega)
            · exact Or.inr (Or.inr ⟨z.2, b5 rfl hqm z.2⟩))
          obtain ⟨σ4, g1, g2⟩ := b1.fail (fail_beh hl b2 ((hT.fr hk f1).fr hk b7) hqm e1 e2) (by omega) i2 b7
          exact ⟨σ4, by rw [compT_start hl]; exact g1 N (by omega), f1.trans g2⟩
        · have hq : q = min t.length 40 := by omega
          have hr := b1 (N - q)
          rw [show N - q + (q - 0) = N by omega] at hr
          obtain ⟨M, hM⟩ : ∃ M, N - q = M + 1 := ⟨N - q - 1, by omega⟩
          refine ⟨σ2, ?_, f1.trans b7⟩
          rw [compT_start hl, hr, hM]
          unfold LT
          rw [X3_compileT_l45, if_pos (nI_le (by omega) (by omega)), X3_compileT_j93, if_pos (nI_lt (by omega) (by omega)), hq]
      · intro τ hR
        obtain ⟨τ', b1, b2, b3⟩ := i8 τ [] hR (by simp)
        dsimp only at b1
        have b2' : RR t (min t.length 40) τ' q 0 x := b2
        refine ⟨τ', ?_, b3⟩
        rw [er, b1, Option.bind_some, if_neg oneF, X9_readsRule_j29, show (40 : Int32) = nI 40 from rfl, faultOf2_r N b2'.1 (b := 40) (by omega) rfl hl i2 (v := 1) (ok := false) (Or.inl rfl) ⟨fun u => absurd u (by decide), fun u => absurd u.2 hend⟩, if_neg (show ¬ false = true by decide)]
        rfl
  · right
    refine ⟨q, by omega, ?_, ?_⟩
    · intro kd hk σ hT
      obtain ⟨s1, f1⟩ := CR0 hk σ
      obtain ⟨σ4, g1, g2⟩ := i4 kd hk _ [] [] _ s1 (hT.fr hk f1) (by simp) (Wt.nil _) (fun _ => rfl)
      exact ⟨σ4, by rw [compT_start hl]; exact g1 N (by omega), f1.trans g2⟩
    · intro τ hR
      obtain ⟨τ', e, b1, b2, b3, b4, b5⟩ := i3 τ [] hR (by simp)
      dsimp only at b1
      refine ⟨τ', ?_, b5⟩
      rw [er, b1, Option.bind_some, if_pos rfl, X9_readsRule_j29, show (40 : Int32) = nI 40 from rfl, faultOf2_r N b2 (b := 40) (by omega) rfl hl i2 (v := 0) (ok := false) (Or.inr rfl) ⟨fun u => absurd u (by decide), fun u => absurd u.1 (by decide)⟩, if_neg (show ¬ false = true by decide)]
      rfl
/-! the plain rule -/
def LPl (N k2 : Nat) (f q : Nat) (σ : Sg) : Option (Int32 × Sg) := X3_compileP_l45 N k2 (fun v2 v3 σ => X3_compileP_j93 N k2 v2 v3 σ) f (nI 7) (nI 7) (nI q) σ
theorem LPl_want {k2 : Nat} {σ σ' : Sg} {o w : List Nat} {d g : Nat} {c : Nat → Bool} (h : CR k2 σ o w d c g true) {q s : Nat} (hq : q < 7) (hs : oC0.getD q 0 = nI s) (e : X3_takeThing N k2 (nI s) σ = some (1, σ')) (f : Nat) : LPl N k2 (f + 1) q σ = LPl N k2 f (q + 1) σ' := by
  unfold LPl
  rw [X3_compileP_l45, if_neg (nI_ge hq (by omega)), h.2.2.2.2.2.2.2, if_neg (fun u => oneF ((if_pos rfl).symm.trans u)), inbI (show q < 7 by omega) (by omega), if_pos rfl, clI (by omega), hs, e, Option.bind_some, X3_compileP_j77, if_neg oneF, nI1]
theorem LPl_beh {k2 : Nat} {σ σ' : Sg} {o w : List Nat} {d g : Nat} {c : Nat → Bool} (h : CR k2 σ o w d c g false) {q s : Nat} (hq : q < 7) (hs : oC0.getD q 0 = nI s) (e : X3_takeBehind N k2 (nI s) σ = some (1, σ')) (f : Nat) : LPl N k2 (f + 1) q σ = LPl N k2 f (q + 1) σ' := by
  unfold LPl
  rw [X3_compileP_l45, if_neg (nI_ge hq (by omega)), h.2.2.2.2.2.2.2, if_pos (if_neg (by decide)), inbI (show q < 7 by omega) (by omega), if_pos rfl, clI (by omega), hs, e, Option.bind_some, X3_compileP_j77, if_neg oneF, nI1]
theorem Wt.one {q s : Nat} (h1 : stg s < q) (h2 : s < 256) : Wt q [s] := by
  have := Wt.push (w := []) h1 h2
  exact this
theorem readP (hN : 300 < N) {kd : Nat} (hk : kd = 7 ∨ kd = 11) (σ : Sg) : ∃ σ', X3_compileP N kd 7 σ = some (-1, σ') ∧ CdC σ' kd plT 7 ∧ Fr (frK kd) σ σ' := by
  obtain ⟨s0, f0⟩ := CR0 hk σ
  obtain ⟨σ1, a1, a2, a3⟩ := want_name (N := N) (by omega) hk s0 (by simp) (s := 122) (by omega) (by decide)
  obtain ⟨σ2, b1, b2, b3⟩ := beh_op (N := N) (by omega) hk (by omega) (w := []) (p := []) a2 (s := 47) (by omega) (by decide) (by decide) (Wt.nil _) (by simp) (fun u => absurd u (by decide)) (by decide)
  obtain ⟨σ3, c1, c2, c3⟩ := want_digit (N := N) hk b2 (by decide) (s := 50) (by omega) (by decide)
  obtain ⟨σ4, d1, d2, d3⟩ := beh_op (N := N) (by omega) hk (by omega) (w := []) (p := [47]) c2 (s := 43) (by omega) (by decide) (by decide) (Wt.nil _) (by decide) (fun u => absurd u (by decide)) (by decide)
  obtain ⟨σ5, e1, e2, e3⟩ := want_name (N := N) (by omega) hk d2 (by decide) (s := 119) (by omega) (by decide)
  obtain ⟨σ6, g1, g2, g3⟩ := beh_op (N := N) (by omega) hk (by omega) (w := [43]) (p := []) e2 (s := 47) (by omega) (by decide) (by decide) (Wt.one (by decide) (by omega)) (by simp) (fun u => absurd u (by decide)) (by decide)
  obtain ⟨σ7, h1, h2, h3⟩ := want_digit (N := N) hk g2 (by decide) (s := 51) (by omega) (by decide)
  obtain ⟨σ8, k1, k2, k3⟩ := release_c (N := N) (by omega) hk (q := 1) (by omega) (by omega) (w := []) (Wt.nil 1) (p := [43, 47]) h2 (by decide) (by decide)
  obtain ⟨M, hM⟩ : ∃ M, N = M + 8 := ⟨N - 8, by omega⟩
  refine ⟨σ8, ?_, ⟨k2.1, fun i hi => ?_⟩, f0.trans (a3.trans (b3.trans (c3.trans (d3.trans (e3.trans (g3.trans (h3.trans k3)))))))⟩
  · have e : X3_compileP N kd 7 σ = LPl N kd N 0 (wi (wi (wi (wi (wi (wi σ kd 3 0) kd 4 0) kd 5 0) kd 6 0) kd 7 0) kd 8 1) := by
      unfold X3_compileP
      simp only [bnS]
      rw [show (7 : Int32) = nI 7 from rfl, min_n N (by omega) (by omega), Option.bind_some, Nat.min_self, show (40 : Int32) = nI 40 from rfl, min_n N (by omega) (by omega), Option.bind_some]
      rfl
    have hM' : LPl N kd N 0 (wi (wi (wi (wi (wi (wi σ kd 3 0) kd 4 0) kd 5 0) kd 6 0) kd 7 0) kd 8 1) = LPl N kd (M + 8) 0 (wi (wi (wi (wi (wi (wi σ kd 3 0) kd 4 0) kd 5 0) kd 6 0) kd 7 0) kd 8 1) := by rw [← hM]
    rw [e, hM', LPl_want s0 (by omega) (s := 122) rfl a1, LPl_beh a2 (by omega) (s := 47) rfl b1, LPl_want b2 (by omega) (s := 50) rfl c1, LPl_beh c2 (by omega) (s := 43) rfl d1, LPl_want d2 (by omega) (s := 119) rfl e1, LPl_beh e2 (by omega) (s := 47) rfl g1, LPl_want g2 (by omega) (s := 51) rfl h1]
    unfold LPl
    rw [X3_compileP_l45, if_pos (by decide), X3_compileP_j93, if_neg (by decide), h2.2.2.2.2.2.2.2, if_pos (if_neg (by decide)), h2.2.2.2.2.1, if_pos (by decide)]
    have k1' : X3_release N kd 1 σ7 = some σ8 := k1
    rw [k1']
    rfl
  · rw [k2.2.1 i hi]
    exact (by decide : ∀ i, i < 7 → tokC (([] ++ [1000 + nmK 122] ++ List.map opT ([] : List Nat).reverse ++ [50 - 48] ++ List.map opT [47].reverse ++ [1000 + nmK 119] ++ List.map opT ([] : List Nat).reverse ++ [51 - 48] ++ List.map opT [43, 47].reverse).getD i 0) = tokC (plT i)) i hi
end WR
