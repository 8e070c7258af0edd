/-! ===== night: the text is read ===== -/
def dgB (x : Nat) : Nat := if x = 103 ∨ x = 108 ∨ x = 116 then 2 else if x = 110 ∨ x = 112 then 1 else 0
def knd (x : Nat) : Nat := if x = 110 then 0 else if x = 112 then 1 else if x = 116 then 2 else if x = 108 then 3 else 4
theorem dgB_c (N : Nat) (σ : Sg) : ∀ x, x < 256 → X8_digitsBehind N (nI x) σ = some (nI (dgB x)) := by
  unfold X8_digitsBehind
  decide +kernel
theorem dgB_le (x : Nat) : dgB x ≤ 2 := by
  unfold dgB
  repeat' split
  all_goals omega
def nP (t : List Nat) : Nat → Nat
  | 0 => 0
  | k + 1 => nP t k + 1 + dgB (t.getD (nP t k) 0)
def okD (x d y : Nat) : Bool := isD y && (!(decide (d = 1) && (decide (x = 108) || decide (x = 103))) || decide (49 ≤ y))
def nG0 (t : List Nat) (m p : Nat) : Bool := decide (0 < dgB (t.getD p 0)) && decide (p + dgB (t.getD p 0) < m) && okD (t.getD p 0) (dgB (t.getD p 0)) (t.getD (p + 1) 0) && (decide (dgB (t.getD p 0) = 1) || okD (t.getD p 0) 1 (t.getD (p + 2) 0))
def nF (t : List Nat) (m p : Nat) : Nat := if dgB (t.getD p 0) = 0 then p else if p + 1 < m ∧ okD (t.getD p 0) (dgB (t.getD p 0)) (t.getD (p + 1) 0) = true then p + 2 else p + 1
theorem dg_ok : ∀ y, y < 256 → ((0 ≤ dgI y) ↔ isD y = true) ∧ ((1 ≤ dgI y) ↔ (isD y = true ∧ 49 ≤ y)) := by decide +kernel
theorem e108 : ∀ x, x < 256 → (nI x = 108 ↔ x = 108) ∧ (nI x = 103 ↔ x = 103) ∧ (nI x = 110 ↔ x = 110) ∧ (nI x = 116 ↔ x = 116) ∧ (nI x = 112 ↔ x = 112) := by decide +kernel
theorem nightA {N : Nat} {σ : Sg} {t : List Nat} (h : TxC σ t) (hl : t.length ≤ 80) (hx : ∀ x ∈ t, x < 256) (K : Int32 → Int32 → Option Int32) (n : Nat) (v2 : Int32) {m p : Nat} (hm : m ≤ t.length) (hp : p < m) : X8_faultOfNight_l20 N K σ (n + 1) (nI m) v2 0 (nI p) = if dgB (t.getD p 0) = 0 then some (nI p) else X8_faultOfNight_l20 N K σ n (nI m) (nI (t.getD p 0)) (nI (dgB (t.getD p 0))) (nI (p + 1)) := by
  rw [X8_faultOfNight_l20, if_neg (nI_ge hp (by omega)), if_pos rfl, at_c N h hl hx (by omega), Option.bind_some, dgB_c N σ _ (get256 hx p), Option.bind_some, nI1]
  by_cases z : dgB (t.getD p 0) = 0
  · rw [z, if_pos (show nI 0 = 0 from rfl), if_pos rfl]
  · rw [if_neg (nI_ne0 (by omega) (by have := dgB_le (t.getD p 0); omega)), if_neg z]
theorem nightB {N : Nat} {σ : Sg} {t : List Nat} (h : TxC σ t) (hl : t.length ≤ 80) (hx : ∀ x ∈ t, x < 256) (K : Int32 → Int32 → Option Int32) (n : Nat) {x : Nat} (hx2 : x < 256) {d m p : Nat} (hd : d ≤ 1) (hm : m ≤ t.length) (hp : p < m) : X8_faultOfNight_l20 N K σ (n + 1) (nI m) (nI x) (nI (d + 1)) (nI p) = if okD x (d + 1) (t.getD p 0) = true then X8_faultOfNight_l20 N K σ n (nI m) (nI x) (nI d) (nI (p + 1)) else some (nI p) := by
  have e := e108 x hx2
  have J : ∀ s0 : Int32, X8_faultOfNight_j76 N (fun v1 v2 v3 v4 => X8_faultOfNight_l20 N K σ n v1 v2 v3 v4) (nI m) (nI x) (nI d) (nI p) s0 σ = if (isD (t.getD p 0) && (decide (s0 = 0) || decide (49 ≤ t.getD p 0))) = true then X8_faultOfNight_l20 N K σ n (nI m) (nI x) (nI d) (nI (p + 1)) else some (nI p) := by
    intro s0
    have d1 := dg_ok _ (get256 hx p)
    rw [X8_faultOfNight_j76, dig_c N h hl hx (by omega), Option.bind_some, nI1]
    by_cases z : s0 = 0
    · rw [if_pos z, decide_eq_true z]
      by_cases y : isD (t.getD p 0) = true
      · rw [if_pos (d1.1.mpr y), if_pos (by rw [y]; rfl)]
      · rw [if_neg (fun u => y (d1.1.mp u)), if_neg (fun u => y (by rw [Bool.and_eq_true] at u; exact u.1))]
    · rw [if_neg z, decide_eq_false z]
      by_cases y : isD (t.getD p 0) = true ∧ 49 ≤ t.getD p 0
      · rw [if_pos (d1.2.mpr y), if_pos (by rw [y.1, decide_eq_true y.2]; rfl)]
      · rw [if_neg (fun u => y (d1.2.mp u)), if_neg (fun u => y (by rw [Bool.and_eq_true, Bool.false_or, decide_eq_true_eq] at u; exact u))]
  rw [X8_faultOfNight_l20, if_neg (nI_ge hp (by omega)), if_neg (nI_ne0 (by omega) (by omega)), pk_m1]
  unfold okD
  by_cases z : d = 0
  · subst z
    rw [if_pos (show nI 0 = 0 from rfl), decide_eq_true (show 0 + 1 = 1 from rfl)]
    by_cases y : x = 108
    · rw [if_pos (e.1.mpr y), J, decide_eq_true y]; rfl
    · rw [if_neg (fun u => y (e.1.mp u)), decide_eq_false y]
      by_cases w : x = 103
      · rw [if_pos (e.2.1.mpr w), J, decide_eq_true w]; rfl
      · rw [if_neg (fun u => w (e.2.1.mp u)), J, decide_eq_false w]; rfl
  · rw [if_neg (nI_ne0 (by omega) (by omega)), J, decide_eq_false (show ¬ d + 1 = 1 by omega)]; rfl
theorem nF_le {t : List Nat} {m p : Nat} (hp : p < m) : p ≤ nF t m p ∧ nF t m p ≤ m := by
  unfold nF
  repeat' split
  all_goals omega
theorem nG0_n {t : List Nat} {m p : Nat} (h : nG0 t m p = true) : 0 < dgB (t.getD p 0) ∧ p + dgB (t.getD p 0) < m ∧ okD (t.getD p 0) (dgB (t.getD p 0)) (t.getD (p + 1) 0) = true ∧ (dgB (t.getD p 0) = 1 ∨ okD (t.getD p 0) 1 (t.getD (p + 2) 0) = true) := by
  unfold nG0 at h
  simp only [Bool.and_eq_true, decide_eq_true_eq, Bool.or_eq_true] at h
  exact ⟨h.1.1.1, h.1.1.2, h.1.2, h.2⟩
theorem nG0_f {t : List Nat} {m p : Nat} (h : nG0 t m p = false) : dgB (t.getD p 0) = 0 ∨ m ≤ p + dgB (t.getD p 0) ∨ okD (t.getD p 0) (dgB (t.getD p 0)) (t.getD (p + 1) 0) = false ∨ (dgB (t.getD p 0) = 2 ∧ okD (t.getD p 0) 1 (t.getD (p + 2) 0) = false) := by
  have hd := dgB_le (t.getD p 0)
  cases h1 : okD (t.getD p 0) (dgB (t.getD p 0)) (t.getD (p + 1) 0) with
  | false => exact Or.inr (Or.inr (Or.inl rfl))
  | true =>
    unfold nG0 at h
    rw [h1] at h
    simp only [Bool.and_eq_false_iff, Bool.or_eq_false_iff, decide_eq_false_iff_not, Bool.and_true, Bool.true_eq_false, or_false] at h
    rcases h with (z | z) | z
    · exact Or.inl (by omega)
    · exact Or.inr (Or.inl (by omega))
    · by_cases y : dgB (t.getD p 0) = 0
      · exact Or.inl y
      · exact Or.inr (Or.inr (Or.inr ⟨by omega, z.2⟩))
/-- K whole acts; then the end, or an act that can't stand -/
def nK (t : List Nat) (m K : Nat) : Prop := (∀ k, k < K → nG0 t m (nP t k) = true) ∧ (nP t K = m ∨ (nP t K < m ∧ nG0 t m (nP t K) = false))
theorem nP_2 {t : List Nat} {m K : Nat} (h : ∀ k, k < K → nG0 t m (nP t k) = true) : ∀ k, k ≤ K → 2 * k ≤ nP t k ∧ nP t k ≤ m := by
  intro k
  induction k with
  | zero => intro _; exact ⟨Nat.le_refl _, Nat.zero_le _⟩
  | succ k ih =>
    intro hk
    have h1 := ih (by omega)
    have h2 := nG0_n (h k (by omega))
    rw [nP]
    omega
theorem nK_ex (t : List Nat) (m : Nat) : ∃ K, nK t m K := by
  obtain ⟨K, h1, h2, h3⟩ := upto_p (fun k => nG0 t m (nP t k)) m
  refine ⟨K, h2, ?_⟩
  have hb1 := nP_2 h2 K (Nat.le_refl _)
  by_cases z : nP t K = m
  · exact Or.inl z
  · exact Or.inr ⟨by omega, h3 (by omega)⟩
def nE (t : List Nat) (m K : Nat) : Nat := if nP t K = m then m else nF t m (nP t K)
theorem faultN {N : Nat} (hN : 200 < N) {σ : Sg} {t : List Nat} (h : TxC σ t) (hl : t.length ≤ 80) (hx : ∀ x ∈ t, x < 256) {K : Nat} (hK : nK t (min t.length 60) K) : X8_faultOfNight N σ = some (if nP t K = t.length ∧ t.length ≤ 60 then -1 else nI (nE t (min t.length 60) K)) := by
  unfold X8_faultOfNight
  rw [h.1, show (60 : Int32) = nI 60 from rfl, min_n N (by omega) (by omega), Option.bind_some]
  obtain ⟨m, hm⟩ : ∃ m, m = min t.length 60 := ⟨_, rfl⟩
  rw [← hm] at hK ⊢
  obtain ⟨k1, k2⟩ := hK
  have endv : ∀ n v2 d, d ≤ 2 → X8_faultOfNight_l20 N (fun v1 v3 => X8_faultOfNight_j109 N v1 v3 σ) σ (n + 1) (nI m) v2 (nI d) (nI m) = some (if d = 0 ∧ t.length ≤ 60 then -1 else nI m) := by
    intro n v2 d hd
    rw [X8_faultOfNight_l20, if_pos (nI_le (Nat.le_refl _) (by omega)), X8_faultOfNight_j109, h.1, show (60 : Int32) = nI 60 from rfl]
    by_cases y : 60 < t.length
    · rw [if_pos (nI_lt y (by omega)), if_neg (by omega)]
    · rw [if_neg (nI_nlt (by omega) (by omega))]
      by_cases u : d = 0
      · rw [u, if_pos (show nI 0 ≤ 0 by decide), if_pos ⟨rfl, by omega⟩]
      · rw [if_neg (nI_nle (by omega) (by omega)), if_neg (fun s => u s.1)]
  have go : ∀ d k n v2, k + d = K → 3 * d + 4 ≤ n → X8_faultOfNight_l20 N (fun v1 v3 => X8_faultOfNight_j109 N v1 v3 σ) σ n (nI m) v2 (nI 0) (nI (nP t k)) = some (if nP t K = t.length ∧ t.length ≤ 60 then -1 else nI (nE t m K)) := by
    intro d
    induction d with
    | zero =>
      intro k n v2 hk hn
      have : k = K := by omega
      subst this
      obtain ⟨n, rfl⟩ : ∃ z, n = z + 4 := ⟨n - 4, by omega⟩
      unfold nE
      rcases k2 with z | ⟨z1, z2⟩
      · rw [z, endv (n + 3) v2 0 (by omega), if_pos rfl]
        by_cases y : t.length ≤ 60
        · rw [if_pos ⟨rfl, y⟩, if_pos ⟨by omega, y⟩]
        · rw [if_neg (fun u => y u.2), if_neg (fun u => y u.2)]
      · obtain ⟨p, hp⟩ : ∃ p, p = nP t k := ⟨_, rfl⟩
        rw [← hp] at z1 z2 ⊢
        rw [if_neg (show ¬ (p = t.length ∧ t.length ≤ 60) by omega), if_neg (show ¬ p = m by omega), show nI 0 = 0 from rfl, nightA h hl hx _ (n + 3) v2 (by omega) z1]
        unfold nF
        have hd := dgB_le (t.getD p 0)
        by_cases a1 : dgB (t.getD p 0) = 0
        · rw [if_pos a1, if_pos a1]
        · rw [if_neg a1, if_neg a1]
          obtain ⟨d1, hd1⟩ : ∃ d1, dgB (t.getD p 0) = d1 + 1 := ⟨dgB (t.getD p 0) - 1, by omega⟩
          rw [hd1]
          by_cases a2 : p + 1 < m
          · rw [nightB h hl hx _ (n + 2) (get256 hx p) (by omega) (by omega) a2]
            by_cases a3 : okD (t.getD p 0) (d1 + 1) (t.getD (p + 1) 0) = true
            · rw [if_pos a3, if_pos ⟨a2, a3⟩]
              have z3 := nG0_f z2
              rw [hd1] at z3
              have hd2 : d1 = 1 := by
                rcases z3 with y | y | y | y
                · omega
                · omega
                · rw [a3] at y; exact Bool.noConfusion y
                · omega
              subst hd2
              by_cases a4 : p + 2 < m
              · have a5 : okD (t.getD p 0) (0 + 1) (t.getD (p + 2) 0) = false := by
                  rcases z3 with y | y | y | y
                  · omega
                  · omega
                  · rw [a3] at y; exact Bool.noConfusion y
                  · exact y.2
                rw [show p + 1 + 1 = p + 2 from rfl, show nI 1 = nI (0 + 1) from rfl, nightB h hl hx _ (n + 1) (get256 hx p) (by omega) (by omega) a4, a5, if_neg (by decide)]
              · have : p + 2 = m := by omega
                rw [show p + 1 + 1 = p + 2 from rfl, this, endv (n + 1) _ 1 (by omega), if_neg (by omega)]
            · rw [if_neg a3, if_neg (fun u => a3 u.2)]
          · have : p + 1 = m := by omega
            rw [if_neg (fun u => a2 u.1), this, endv (n + 2) _ (d1 + 1) (by omega), if_neg (by omega)]
    | succ d ih =>
      intro k n v2 hk hn
      have hg := nG0_n (k1 k (by omega))
      obtain ⟨n, rfl⟩ : ∃ z, n = z + 3 := ⟨n - 3, by omega⟩
      have hp := nP_2 k1 (k + 1) (by omega)
      have ih1 := ih (k + 1)
      rw [nP] at ih1 hp
      obtain ⟨p, hp1⟩ : ∃ p, p = nP t k := ⟨_, rfl⟩
      rw [← hp1] at hg ih1 hp ⊢
      have hd := dgB_le (t.getD p 0)
      rw [show nI 0 = 0 from rfl, nightA h hl hx _ (n + 2) v2 (by omega) (by omega), if_neg (by omega)]
      obtain ⟨d1, hd1⟩ : ∃ d1, dgB (t.getD p 0) = d1 + 1 := ⟨dgB (t.getD p 0) - 1, by omega⟩
      rw [hd1] at hg ih1 ⊢
      rw [nightB h hl hx _ (n + 1) (get256 hx p) (by omega) (by omega) (by omega), if_pos hg.2.2.1]
      by_cases y : d1 = 0
      · subst y
        exact ih1 _ _ (by omega) (by omega)
      · have : d1 = 1 := by omega
        subst this
        have a5 : okD (t.getD p 0) (0 + 1) (t.getD (p + 1 + 1) 0) = true := by
          rcases hg.2.2.2 with u | u
          · omega
          · exact u
        rw [show nI 1 = nI (0 + 1) from rfl, nightB h hl hx _ n (get256 hx p) (by omega) (by omega) (by omega), if_pos a5]
        exact ih1 _ _ (by omega) (by omega)
  have hK1 := nP_2 k1 K (Nat.le_refl _)
  exact go K 0 N 0 (by omega) (by omega)
