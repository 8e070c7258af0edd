/-! ===== ways: the reference; both sides ===== -/
theorem PD.congr {n : Nat} {f f' : Nat → Int32} (e : ∀ i, i < n → f i = f' i) {to : Nat} {D : Nat → Nat} (h : PD n f to D) : PD n f' to D := by
  obtain ⟨h1, h2, h3, h4, h5⟩ := h
  exact ⟨h1, fun i hi z y => by rw [← e i hi]; exact h2 i hi z y, fun i j hi hj z => h3 i j hi hj (by rw [e i hi]; exact z), h4, h5⟩
def synW (r : Nat → Int32) : Sg := (fun a j => if a = 23 then r (24 + j) else if a = 19 then r (28 + j) else 0, fun _ _ => 0)
theorem PD_ex {n : Nat} {r : Nat → Int32} (hW : WL n r) {to : Nat} (hto : to < n) : ∃ D, PD n (lnk r) to D := by
  have e1 : ∀ i, i < 8 → rC (synW r) 19 (24 + i) = r (24 + i) := fun i hi => by rw [rC_l hi]; rfl
  have hW' : WL n (rC (synW r) 19) := hW.congr e1 (by rw [rC_32]; rfl)
  obtain ⟨σ', D, _, _, hD, _⟩ := markSteps_c (N := 21) (by omega) hW' hto
  exact ⟨D, hD.congr (fun i hi => e1 i (by have := hW.2.2.2.2; omega))⟩
def BF (n : Nat) (D : Nat → Nat) (k i0 : Nat) (d : Nat → Nat) : Prop := (∀ i, i < n → D i ≤ d i ∧ d i ≤ INF) ∧ (∀ i, i < n → D i ≤ k → d i ≤ D i) ∧ (∀ i, i < n → i < i0 → D i ≤ k + 1 → d i ≤ D i)
def rd8 (n : Nat) (a : Sg) (d : Nat → Nat) : Prop := ∀ i, i < n → gi a 168 i = nI (d i)
theorem way_l82 {N : Nat} (hN : 20 < N) {a : Sg} {n : Nat} (hn : gi a 149 3 = nI n) (h8 : n ≤ 8) {f : Nat → Int32} (hf : ∀ i, i < n → gi a 153 (24 + i) = f i) {to : Nat} {D d : Nat → Nat} (hD : PD n f to D) {k i : Nat} (hi : i < n) (hk : k < n) (hB : BF n D k i d) (hr : rd8 n a d) (K : Int32 → Int32 → Int32 → Int32 → Sg → Option (Int32 × Sg)) (v1 v2 v3 : Int32) : ∃ a' d', X9_way_l82 N K N v1 v2 v3 (nI i) 0 a = K v1 v2 v3 (nI i) a' ∧ BF n D k (i + 1) d' ∧ rd8 n a' d' ∧ Fr [168] a a' := by
  refine forL0 (L := fun m j (x : (Nat → Nat) × Sg) => X9_way_l82 N K m v1 v2 v3 (nI i) (nI j) x.2) (m := n) (N := N) (a := (d, a)) (fun j x => BF n D k i x.1 ∧ (∀ j', j' < j → hb (f i) j' = true → D j' ≤ k → x.1 i ≤ D j' + 1) ∧ rd8 n x.2 x.1 ∧ Fr [168] a x.2) (o := fun x => ∃ a' d', x = K v1 v2 v3 (nI i) a' ∧ BF n D k (i + 1) d' ∧ rd8 n a' d' ∧ Fr [168] a a') (by omega) ⟨hB, fun j' hj => absurd hj (Nat.not_lt_zero _), hr, Fr.refl _ _⟩ ?_ ?_
  · intro m j x hj hI
    obtain ⟨e, b⟩ := x
    obtain ⟨g1, g2, g3, g4⟩ := hI
    dsimp only at g1 g2 g3 g4
    left
    have hbase : X9_way_l82 N K (m + 1) v1 v2 v3 (nI i) (nI j) b = if hb (f i) j = true then ((J9_min_7cf53 N (gi b 168 i) ((gi b 168 j) + 1) b).bind fun r30 => X9_way_l82 N K m v1 v2 v3 (nI i) (nI (j + 1)) (wi b 168 i r30)) else X9_way_l82 N K m v1 v2 v3 (nI i) (nI (j + 1)) (wi b 168 i (gi b 168 i)) := by
      rw [X9_way_l82, (g4.g (k := 149) (j := 3) (by decide)).trans hn, if_neg (nI_ge hj (by omega)), show (24 : Int32) = nI 24 from rfl, nI_add, inbI (show 24 + i < 37 by omega) (by omega), if_pos rfl, clI (by omega), (g4.g (k := 153) (by simp [pl])).trans (hf i hi), has_b N _ (by omega), Option.bind_some, inbI (show i < 8 by omega) (by omega), inbI (show j < 8 by omega) (by omega), clI (by omega), clI (by omega), nI1]
      by_cases z : hb (f i) j = true
      · rw [if_pos z, if_pos z, if_neg oneF]
        rfl
      · rw [if_neg z, if_neg z, if_pos rfl]
        rfl
    by_cases z : hb (f i) j = true
    · have hdj := g1.1 j hj
      have hdi := g1.1 i hi
      have hP := hD.2.2.1 i j hi hj z
      have low : ∀ q, (fun q => if q = i then min (e i) (e j + 1) else e q) q ≤ e q := by
        intro q
        dsimp only
        split
        · next u => rw [u]; exact Nat.min_le_left _ _
        · exact Nat.le_refl _
      have hi' : (fun q => if q = i then min (e i) (e j + 1) else e q) i = min (e i) (e j + 1) := by dsimp only; rw [if_pos rfl]
      refine ⟨((fun q => if q = i then min (e i) (e j + 1) else e q), wi b 168 i (nI (min (e i) (e j + 1)))), ⟨⟨fun q hq => ⟨?_, ?_⟩, fun q hq u => Nat.le_trans (low q) (g1.2.1 q hq u), fun q hq u w => Nat.le_trans (low q) (g1.2.2 q hq u w)⟩, fun j' hj' u w => ?_, fun q hq => ?_, g4.wi (by simp [pl])⟩, ?_⟩
      · dsimp only
        by_cases u : q = i
        · rw [if_pos u, u]; omega
        · rw [if_neg u]; exact (g1.1 q hq).1
      · exact Nat.le_trans (low q) (g1.1 q hq).2
      · dsimp only
        rw [if_pos rfl]
        by_cases y : j' = j
        · rw [y] at w ⊢
          have := g1.2.1 j hj w
          omega
        · have := g2 j' (by omega) u w
          omega
      · dsimp only
        rw [giw]
        by_cases u : q = i
        · rw [if_pos ⟨rfl, u⟩, if_pos u]
        · rw [if_neg (fun y => u y.2), if_neg u]; exact g3 q hq
      · dsimp only
        unfold INF at hdj hdi
        rw [hbase, if_pos z, g3 i hi, g3 j hj, nI1, min_n N (by omega) (by omega), Option.bind_some]
    · refine ⟨(e, wi b 168 i (gi b 168 i)), ⟨g1, fun j' hj' u w => ?_, fun q hq => ?_, g4.wi (by simp [pl])⟩, ?_⟩
      · by_cases y : j' = j
        · rw [y] at u; exact absurd u z
        · exact g2 j' (by omega) u w
      · dsimp only
        rw [giw]
        split
        · next u => rw [u.2]; exact g3 i hi
        · exact g3 q hq
      · dsimp only
        rw [hbase, if_neg z]
  · intro m x hI
    obtain ⟨e, b⟩ := x
    obtain ⟨g1, g2, g3, g4⟩ := hI
    dsimp only at g1 g2 g3 g4
    refine ⟨b, e, by dsimp only; rw [X9_way_l82, (g4.g (k := 149) (j := 3) (by decide)).trans hn, if_pos (nI_le (Nat.le_refl _) (by omega))], ⟨g1.1, g1.2.1, fun q hq u w => ?_⟩, g3, g4⟩
    by_cases y : q = i
    · subst y
      by_cases x1 : D q ≤ k
      · exact g1.2.1 q hq x1
      · have hne : q ≠ to := fun s => by rw [s, hD.1] at x1; omega
        obtain ⟨j, j1, j2, j3⟩ := hD.2.1 q hq (by unfold INF; omega) hne
        have := g2 j j1 j2 (by omega)
        omega
    · exact g1.2.2 q hq (by omega) w
theorem way_l70 {N : Nat} (hN : 20 < N) {a : Sg} {n : Nat} (hn : gi a 149 3 = nI n) (h8 : n ≤ 8) {f : Nat → Int32} (hf : ∀ i, i < n → gi a 153 (24 + i) = f i) {to : Nat} {D d : Nat → Nat} (hD : PD n f to D) {k : Nat} (hk : k < n) (hB : BF n D k 0 d) (hr : rd8 n a d) (K : Int32 → Int32 → Int32 → Sg → Option (Int32 × Sg)) (v1 v2 v3 : Int32) : ∃ a' d', X9_way_l70 N K N v1 v2 v3 0 a = K v1 v2 v3 a' ∧ BF n D (k + 1) 0 d' ∧ rd8 n a' d' ∧ Fr [168] a a' := by
  refine forL0 (L := fun m j (x : (Nat → Nat) × Sg) => X9_way_l70 N K m v1 v2 v3 (nI j) x.2) (m := n) (N := N) (a := (d, a)) (fun j x => BF n D k j x.1 ∧ rd8 n x.2 x.1 ∧ Fr [168] a x.2) (o := fun x => ∃ a' d', x = K v1 v2 v3 a' ∧ BF n D (k + 1) 0 d' ∧ rd8 n a' d' ∧ Fr [168] a a') (by omega) ⟨hB, hr, Fr.refl _ _⟩ ?_ ?_
  · intro m j x hj hI
    obtain ⟨e, b⟩ := x
    obtain ⟨g1, g3, g4⟩ := hI
    dsimp only at g1 g3 g4
    left
    obtain ⟨b', e', c1, c2, c3, c4⟩ := way_l82 (N := N) hN ((g4.g (k := 149) (j := 3) (by decide)).trans hn) h8 (fun i hi => (g4.g (k := 153) (by simp [pl])).trans (hf i hi)) hD hj hk g1 g3 (fun v1 v2 v3 v4 σ => X9_way_j151 N (fun v1 v2 v3 v4 σ => X9_way_l70 N K m v1 v2 v3 v4 σ) v1 v2 v3 v4 σ) v1 v2 v3
    refine ⟨(e', b'), ⟨c2, c3, g4.trans c4⟩, ?_⟩
    dsimp only
    rw [X9_way_l70, (g4.g (k := 149) (j := 3) (by decide)).trans hn, if_neg (nI_ge hj (by omega)), c1, X9_way_j151, nI1]
  · intro m x hI
    obtain ⟨e, b⟩ := x
    obtain ⟨g1, g3, g4⟩ := hI
    dsimp only at g1 g3 g4
    exact ⟨b, e, by dsimp only; rw [X9_way_l70, (g4.g (k := 149) (j := 3) (by decide)).trans hn, if_pos (nI_le (Nat.le_refl _) (by omega))], ⟨g1.1, fun i hi u => g1.2.2 i hi hi u, fun i _ u => absurd u (Nat.not_lt_zero _)⟩, g3, g4⟩
theorem way_l59 {N : Nat} (hN : 20 < N) {a : Sg} {n : Nat} (hn : gi a 149 3 = nI n) (h8 : n ≤ 8) {f : Nat → Int32} (hf : ∀ i, i < n → gi a 153 (24 + i) = f i) {to : Nat} {D d : Nat → Nat} (hD : PD n f to D) (hB : BF n D 0 0 d) (hr : rd8 n a d) (K : Int32 → Int32 → Sg → Option (Int32 × Sg)) (v1 v2 : Int32) : ∃ a', X9_way_l59 N K N v1 v2 0 a = K v1 v2 a' ∧ rd8 n a' D ∧ Fr [168] a a' := by
  refine forL0 (L := fun m j (x : (Nat → Nat) × Sg) => X9_way_l59 N K m v1 v2 (nI j) x.2) (m := n) (N := N) (a := (d, a)) (fun j x => BF n D j 0 x.1 ∧ rd8 n x.2 x.1 ∧ Fr [168] a x.2) (o := fun x => ∃ a', x = K v1 v2 a' ∧ rd8 n a' D ∧ Fr [168] a a') (by omega) ⟨hB, hr, Fr.refl _ _⟩ ?_ ?_
  · intro m j x hj hI
    obtain ⟨e, b⟩ := x
    obtain ⟨g1, g3, g4⟩ := hI
    dsimp only at g1 g3 g4
    left
    obtain ⟨b', e', c1, c2, c3, c4⟩ := way_l70 (N := N) hN ((g4.g (k := 149) (j := 3) (by decide)).trans hn) h8 (fun i hi => (g4.g (k := 153) (by simp [pl])).trans (hf i hi)) hD hj g1 g3 (fun v1 v2 v3 σ => X9_way_j157 N (fun v1 v2 v3 σ => X9_way_l59 N K m v1 v2 v3 σ) v1 v2 v3 σ) v1 v2 (nI j)
    refine ⟨(e', b'), ⟨c2, c3, g4.trans c4⟩, ?_⟩
    dsimp only
    rw [X9_way_l59, (g4.g (k := 149) (j := 3) (by decide)).trans hn, if_neg (nI_ge hj (by omega)), c1, X9_way_j157, nI1]
  · intro m x hI
    obtain ⟨e, b⟩ := x
    obtain ⟨g1, g3, g4⟩ := hI
    dsimp only at g1 g3 g4
    refine ⟨b, by dsimp only; rw [X9_way_l59, (g4.g (k := 149) (j := 3) (by decide)).trans hn, if_pos (nI_le (Nat.le_refl _) (by omega))], fun i hi => ?_, g4⟩
    rw [g3 i hi]
    congr 1
    have h1 := g1.1 i hi
    by_cases z : D i < INF
    · have := hD.2.2.2.2 i hi z
      have := g1.2.1 i hi (by omega)
      omega
    · omega
def WP (f : Nat → Int32) (D : Nat → Nat) : Nat → List Nat → Prop
  | c, [] => D c = 0
  | c, j :: l => (j < 8 ∧ hb (f c) j = true ∧ D j + 1 = D c ∧ ∀ i, i < j → ¬ (hb (f c) i = true ∧ D i + 1 = D c)) ∧ WP f D j l
theorem WP_ex {n : Nat} (h8 : n ≤ 8) {f : Nat → Int32} {to : Nat} {D : Nat → Nat} (hD : PD n f to D) (hf : ∀ i, i < 8 → ∀ j, n ≤ j → hb (f i) j = false) : ∀ m c, c < n → D c = m → m < INF → ∃ l, WP f D c l ∧ l.length = m ∧ ∀ x ∈ l, x < n := by
  intro m
  induction m with
  | zero => intro c hc e _; exact ⟨[], e, rfl, by simp⟩
  | succ m ih =>
    intro c hc e hm
    have hne : c ≠ to := fun s => by rw [s, hD.1] at e; omega
    obtain ⟨j0, j1, j2, j3⟩ := hD.2.1 c hc (by omega) hne
    obtain ⟨j, ⟨a1, a2⟩, a3⟩ := pk_least (fun j => hb (f c) j = true ∧ D j + 1 = D c) ⟨j0, j2, j3⟩
    have hjn : j < n := by
      rcases Nat.lt_or_ge j n with u | u
      · exact u
      · rw [hf c (by omega) j u] at a1; exact Bool.noConfusion a1
    obtain ⟨l, l1, l2, l3⟩ := ih j hjn (by omega) (by omega)
    exact ⟨j :: l, ⟨⟨by omega, a1, a2, a3⟩, l1⟩, by rw [List.length_cons, l2], fun x hx => by
      rcases List.mem_cons.mp hx with u | u
      · rw [u]; exact hjn
      · exact l3 x u⟩
def t64 (x : Nat) : Int64 := (nI x).toInt64
theorem next_c {N : Nat} (hN : 20 < N) {a : Sg} {n : Nat} (h8 : n ≤ 8) {f : Nat → Int32} (hf : ∀ i, i < 8 → ∀ j, n ≤ j → hb (f i) j = false) (h23 : ∀ i, i < 8 → gi a 23 i = f i) {D : Nat → Nat} (hm : ∀ i, i < n → gi a 142 i = mkI (D i)) {c j : Nat} (hc : c < 8) (hD : D c < INF) (h1 : j < 8 ∧ hb (f c) j = true ∧ D j + 1 = D c ∧ ∀ i, i < j → ¬ (hb (f c) i = true ∧ D i + 1 = D c)) : X8_nextOnWay N (nI c) (nI (D j)) a = some (nI j) := by
  obtain ⟨j1, j2, j3, j4⟩ := h1
  have step : ∀ m i, i < 8 → X8_nextOnWay_l2 N a (m + 1) (nI c) (nI (D j)) (nI i) = if hb (f c) i = true ∧ D i + 1 = D c then some (nI i) else X8_nextOnWay_l2 N a m (nI c) (nI (D j)) (nI (i + 1)) := by
    intro m i hi
    rw [X8_nextOnWay_l2, if_neg (c8 hi), isTied_b N 19 hc (by omega), Option.bind_some, show gi a (19 + 4) c = f c from h23 c hc, nI1]
    by_cases z : hb (f c) i = true
    · have hin : i < n := by
        rcases Nat.lt_or_ge i n with u | u
        · exact u
        · rw [hf c hc i u] at z; exact Bool.noConfusion z
      rw [if_pos z, if_neg oneF, inbI hi (by omega), if_pos rfl, clI (by omega), hm i hin]
      have e : mkI (D i) = nI (D j) ↔ D i + 1 = D c := by
        unfold mkI
        unfold INF at *
        by_cases y : D i < 1000000
        · rw [if_pos y, nI_eq (by omega) (by omega)]
          omega
        · rw [if_neg y]
          constructor
          · intro u; exact absurd u.symm (nIm1 (by omega))
          · intro u; omega
      by_cases y : D i + 1 = D c
      · rw [if_pos (e.mpr y), if_pos ⟨z, y⟩]
      · rw [if_neg (fun u => y (e.mp u)), if_neg (fun u => y u.2)]
    · rw [if_neg z, if_pos rfl, if_neg (fun u => z u.1)]
  unfold X8_nextOnWay
  refine forL0 (L := fun m i (_ : Unit) => X8_nextOnWay_l2 N a m (nI c) (nI (D j)) (nI i)) (m := j) (N := N) (a := ()) (fun i _ => i ≤ j) (o := fun x => x = some (nI j)) (by omega) (by omega) ?_ ?_
  · intro m i _ hi _
    left
    exact ⟨(), by omega, by rw [step m i (by omega), if_neg (j4 i hi)]⟩
  · intro m _ _
    rw [step m j j1, if_pos ⟨j2, j3⟩]
theorem way_l85 {N : Nat} (hN : 20 < N) {n : Nat} (h8 : n ≤ 8) {f : Nat → Int32} (hf : ∀ i, i < 8 → ∀ j, n ≤ j → hb (f i) j = false) {D : Nat → Nat} (v3 : Int32) : ∀ (l : List Nat) (c m : Nat) (a : Sg) (lt : List Int64), WP f D c l → D c = l.length → c < 8 → D c < INF → l.length < m → lt.length + l.length ≤ 10 → ToC a lt → (∀ i, i < 8 → gi a 23 i = f i) → (∀ i, i < n → gi a 142 i = mkI (D i)) → ∃ a', X8_way_l85 N m v3 (nI c) (nI l.length - 1) a = some (v3, a') ∧ ToC a' (lt ++ l.map t64) ∧ Fr [3, 4] a a' := by
  intro l
  induction l with
  | nil =>
    intro c m a lt _ _ _ _ hm _ ht _ _
    obtain ⟨m, rfl⟩ : ∃ k, m = k + 1 := ⟨m - 1, by omega⟩
    exact ⟨a, by rw [X8_way_l85, if_pos (by decide)], by simpa using ht, Fr.refl _ _⟩
  | cons j l ih =>
    intro c m a lt hW hDc hc hD hm hlen ht h23 h142
    obtain ⟨m, rfl⟩ : ∃ k, m = k + 1 := ⟨m - 1, by omega⟩
    obtain ⟨w1, w2⟩ := hW
    rw [List.length_cons] at hDc hm hlen ⊢
    have eD : D j = l.length := by omega
    obtain ⟨b, b1, b2, b3⟩ := tadd_c N ht (by omega) (t64 j)
    obtain ⟨b', d1, d2, d3⟩ := ih j m b (lt ++ [t64 j]) w2 eD w1.1 (by omega) (by omega) (by simp; omega) b2 (fun i hi => (b3.g (k := 23) (by simp [pl])).trans (h23 i hi)) (fun i hi => (b3.g (k := 142) (by simp [pl])).trans (h142 i hi))
    refine ⟨b', ?_, by simpa using d2, b3.trans d3⟩
    have := next_c hN h8 hf h23 h142 hc hD w1
    rw [eD] at this
    rw [X8_way_l85, nI_pred, if_neg (nI_pos (by unfold INF at *; omega)), this, Option.bind_some, show (nI j).toInt64 = t64 j from rfl, b1, Option.bind_some, show nI l.length + (-1) = nI l.length - 1 from (Int32.sub_eq_add_neg _ _).symm]
    exact d1
theorem next_r {N : Nat} (hN : 20 < N) {a : Sg} {n : Nat} (h8 : n ≤ 8) {f : Nat → Int32} (hfn : ∀ i, i < 8 → ∀ j, n ≤ j → hb (f i) j = false) (hf : ∀ i, i < n → gi a 153 (24 + i) = f i) {D : Nat → Nat} (hm : rd8 n a D) {c j : Nat} (hc : c < n) (hD : D c < INF) (hDi : ∀ i, D i ≤ INF) (h1 : j < 8 ∧ hb (f c) j = true ∧ D j + 1 = D c ∧ ∀ i, i < j → ¬ (hb (f c) i = true ∧ D i + 1 = D c)) (K : Int32 → Int32 → Int32 → Sg → Option (Int32 × Sg)) (v1 v2 : Int32) : X9_way_l223 N K N v1 v2 (nI c) 0 a = K v1 v2 (nI j) a := by
  obtain ⟨j1, j2, j3, j4⟩ := h1
  have step : ∀ m i, i < 8 → X9_way_l223 N K (m + 1) v1 v2 (nI c) (nI i) a = if hb (f c) i = true ∧ D i + 1 = D c then K v1 v2 (nI i) a else X9_way_l223 N K m v1 v2 (nI c) (nI (i + 1)) a := by
    intro m i hi
    rw [X9_way_l223, show (24 : Int32) = nI 24 from rfl, nI_add, inbI (show 24 + c < 37 by omega) (by omega), if_pos rfl, clI (by omega), hf c hc, has_b N _ (by omega), Option.bind_some, nI1]
    by_cases z : hb (f c) i = true
    · have hin : i < n := by
        rcases Nat.lt_or_ge i n with u | u
        · exact u
        · rw [hfn c (by omega) i u] at z; exact Bool.noConfusion z
      have hDii := hDi i
      rw [if_pos z, if_neg oneF, inbI hi (by omega), if_pos rfl, inbI (show c < 8 by omega) (by omega), if_pos rfl, clI (by omega), clI (by omega), hm i hin, hm c hc]
      unfold INF at *
      have e : nI (D i) = nI (D c) - 1 ↔ D i + 1 = D c := by
        rw [← j3, nI_pred, nI_eq (by omega) (by omega)]
        omega
      by_cases y : D i + 1 = D c
      · rw [if_pos (e.mpr y), if_pos ⟨z, y⟩]
      · rw [if_neg (fun u => y (e.mp u)), if_neg (fun u => y u.2)]
    · rw [if_neg z, if_pos rfl, if_neg (fun u => z u.1)]
  refine forL0 (L := fun m i (_ : Unit) => X9_way_l223 N K m v1 v2 (nI c) (nI i) a) (m := j) (N := N) (a := ()) (fun i _ => i ≤ j) (o := fun x => x = K v1 v2 (nI j) a) (by omega) (by omega) ?_ ?_
  · intro m i _ hi _
    left
    exact ⟨(), by omega, by rw [step m i (by omega), if_neg (j4 i hi)]⟩
  · intro m _ _
    rw [step m j j1, if_pos ⟨j2, j3⟩]
