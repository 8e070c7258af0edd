/-! ===== serves ===== -/
theorem serves_l21 {N : Nat} (hN : 20 < N) {σ : Sg} {t : List Nat} (hl : t.length ≤ 80) (hx : ∀ x ∈ t, x < 256) (h : RdR σ t t.length 0) (hn : gi σ 149 16 = nI 0) {q : Nat} (q1 : q ≤ t.length) (q2 : ∀ i, i < q → rqP t i = true) (q3 : q < t.length → rqP t q = false) (K : Int32 → Sg → Option (Int32 × Sg)) :
    ∃ σ', X9_serves_l21 N K N 1 1 σ = K (if q % 5 = 4 then 1 else 0) σ' ∧ RdR σ' t t.length q ∧ (q % 5 = 4 → gi σ' 149 16 = nI (q / 5 + 1) ∧ rdQ t σ' (q / 5 + 1)) ∧ Fr [3012, 156, 3016] σ σ' := by
  have hq40 : q ≤ 40 := by
    rcases Nat.lt_or_ge 40 q with z | z
    · have := q2 40 z
      unfold rqP at this
      simp at this
    · exact z
  obtain ⟨N', rfl⟩ : ∃ k, N = k + 1 := ⟨N - 1, by omega⟩
  refine forL0 (L := fun m i a => X9_serves_l21 (N' + 1) K (m + 1) 1 1 a) (m := q / 5) (N := N') (a := σ) (fun i a => RdR a t t.length (5 * i) ∧ gi a 149 16 = nI i ∧ rdQ t a i ∧ Fr [3012, 156, 3016] σ a) (o := fun x => ∃ σ', x = K (if q % 5 = 4 then 1 else 0) σ' ∧ RdR σ' t t.length q ∧ (q % 5 = 4 → gi σ' 149 16 = nI (q / 5 + 1) ∧ rdQ t σ' (q / 5 + 1)) ∧ Fr [3012, 156, 3016] σ σ') (by omega) ⟨h, hn, fun j l hj => absurd hj (Nat.not_lt_zero _), Fr.refl _ _⟩ ?_ ?_
  · intro m i a hi hI
    obtain ⟨g1, g2, g3, g4⟩ := hI
    left
    obtain ⟨b, b1, b2, b3, b4, b5⟩ := reqs_r (N := N' + 1) (by omega) hl hx (show i < 8 by omega) g1 g2 g3 q1 q2 q3 (by omega)
    rw [if_pos (show 5 * i + 4 ≤ q by omega)] at b1
    rw [Nat.min_eq_right (show 5 * i + 4 ≤ q by omega)] at b2
    have h59 : t.getD (5 * i + 4) 0 = 59 := by have := q2 (5 * i + 4) (by omega); rw [rqP_at (by omega) (by omega)] at this; simpa using this
    have et := takes_yes (N' + 1) b2 hl (v := 59) (by omega) (by rw [h59]; rfl)
    refine ⟨wi b 149 12 (nI (5 * i + 4) + 1), ⟨b2.next, by rw [giw, if_neg (by omega)]; exact b3, fun j l hj hl4 => by rw [gi_wi_ne (by omega)]; exact b4 (by omega) j l hj hl4, (g4.trans b5).wi (by decide)⟩, ?_⟩
    rw [X9_serves_l21, if_neg oneF, b1, Option.bind_some, if_neg oneF, et, Option.bind_some, if_neg oneF]
  · intro m a hI
    obtain ⟨g1, g2, g3, g4⟩ := hI
    by_cases h8 : q / 5 < 8
    · obtain ⟨b, b1, b2, b3, b4, b5⟩ := reqs_r (N := N' + 1) (by omega) hl hx h8 g1 g2 g3 q1 q2 q3 (by omega)
      by_cases z : q % 5 = 4
      · have eq : 5 * (q / 5) + 4 = q := by omega
        rw [if_pos (show 5 * (q / 5) + 4 ≤ q by omega)] at b1
        rw [eq, Nat.min_self] at b2
        have et := takes_no (N' + 1) b2 hl (v := 59) (by omega) (fun y u => by
          have := q3 y
          rw [← eq, rqP_at (by omega) h8, if_neg (by decide), if_neg (by decide), if_pos rfl, eq, (e59 _ (get256 hx _)).mp u] at this
          exact absurd this (by decide))
        refine ⟨wi b 149 12 (nI q + 0), ?_, et.2, fun _ => ⟨by rw [giw, if_neg (by omega)]; exact b3, fun j l hj hl4 => by rw [gi_wi_ne (by omega)]; exact b4 (by omega) j l hj hl4⟩, (g4.trans b5).wi (by decide)⟩
        rw [X9_serves_l21, if_neg oneF, b1, Option.bind_some, if_neg oneF, et.1, Option.bind_some, if_pos rfl, X9_serves_l21, if_pos rfl, if_pos z]
      · rw [if_neg (show ¬ 5 * (q / 5) + 4 ≤ q by omega)] at b1
        rw [Nat.min_eq_left (show q ≤ 5 * (q / 5) + 4 by omega)] at b2
        refine ⟨b, ?_, b2, fun u => absurd u z, g4.trans b5⟩
        rw [X9_serves_l21, if_neg oneF, b1, Option.bind_some, if_pos rfl, X9_serves_l21, if_pos rfl, if_neg z]
    · have e8 : q / 5 = 8 := by omega
      have eq : 5 * (q / 5) = q := by omega
      rw [eq] at g1
      refine ⟨a, ?_, g1, fun u => by omega, g4⟩
      have er : X9_readsRequest (N' + 1) a = some (0, a) := by
        unfold X9_readsRequest
        rw [g2, e8, if_pos (by decide)]
      rw [X9_serves_l21, if_neg oneF, er, Option.bind_some, if_pos rfl, X9_serves_l21, if_pos rfl, if_neg (by omega)]
def rqV (t : List Nat) (l : Nat) : Nat → Int32 := fun j => nI (t.getD (5 * j + l) 0 - 48)
def rqOk (t : List Nat) (c : Nat) : Prop := ∀ j l, j < c → l < 4 → isD (t.getD (5 * j + l) 0) = true
theorem rqOk_of {t : List Nat} (hx : ∀ x ∈ t, x < 256) {q c : Nat} (hc : 5 * c ≤ q + 1) (hc8 : c ≤ 8) (q2 : ∀ i, i < q → rqP t i = true) : rqOk t c := by
  intro j l hj hl
  have p := q2 (5 * j + l) (by omega)
  have i0 : isD (t.getD (5 * j) 0) = true := by have := q2 (5 * j + 0) (by omega); rw [rqP_at (by omega) (by omega)] at this; simpa using this
  rw [rqP_at (by omega) (by omega)] at p
  have hl5 : l = 0 ∨ l = 1 ∨ l = 2 ∨ l = 3 := by omega
  rcases hl5 with rfl | rfl | rfl | rfl
  · exact i0
  · rw [if_pos rfl] at p
    cases hd : isD (t.getD (5 * j + 1) 0)
    · rw [dgI_neg hd, (dgI_pos i0).1] at p
      have : (-1 : Int32) < nI (t.getD (5 * j) 0 - 48) := Int32.lt_of_lt_of_le neg1_lt (nI_pos' (by have := (dgI_pos i0).2.1; omega))
      rw [decide_eq_true this] at p; exact Bool.noConfusion p
    · rfl
  · rw [if_neg (by decide), if_pos rfl] at p
    have : ¬ dgI (t.getD (5 * j + 2) 0) ≤ 0 := by simpa using p
    have := fun u => this ((dg_1 _ (get256 hx (5 * j + 2))).mpr u)
    unfold isD
    have : 49 ≤ t.getD (5 * j + 2) 0 ∧ t.getD (5 * j + 2) 0 ≤ 57 := Decidable.byContradiction this
    rw [decide_eq_true (show 48 ≤ t.getD (5 * j + 2) 0 by omega), decide_eq_true (show t.getD (5 * j + 2) 0 ≤ 57 by omega)]; rfl
  · simpa using p
theorem dig_q (N : Nat) {σ : Sg} {t : List Nat} (h : TxC σ t) (hl : t.length ≤ 80) (hx : ∀ x ∈ t, x < 256) {c : Nat} (hc : 5 * c ≤ t.length + 1) (ho : rqOk t c) {j l : Nat} (hj : j < c) (hl4 : l < 4) : X6_digitAt N (nI (5 * j + l)) σ = some (rqV t l j) := by
  rw [dig_c N h hl hx (by omega), (dgI_pos (ho j l hj hl4)).1]
  rfl
def pcS (t : List Nat) (c : Nat) (s : Int32) : Int32 := sumB (hb s) (rqV t 3) c
theorem price_c {N : Nat} (hN : 20 < N) {σ : Sg} {t : List Nat} (h : TxC σ t) (hl : t.length ≤ 80) (hx : ∀ x ∈ t, x < 256) {c : Nat} (hc : 5 * c ≤ t.length + 1) (hc8 : c ≤ 8) (ho : rqOk t c) (s : Int32) : X8_priceOf N s (nI c) σ = some (pcS t c s) := by
  unfold X8_priceOf
  refine forL0 (L := fun n i a => X8_priceOf_l5 N σ n s (nI c) a (nI i)) (m := c) (fun i a => a = sumB (hb s) (rqV t 3) i) (o := fun x => x = some (pcS t c s)) (by omega) rfl ?_ ?_
  · intro n i a hi ha
    left
    refine ⟨_, rfl, ?_⟩
    rw [X8_priceOf_l5, if_neg (nI_ge hi (by omega))]
    have e : nI i * 5 + 3 = nI (5 * i + 3) := by rw [show nI i * 5 = nI (i * 5) from pk_mul i 5, show nI (i * 5) + 3 = nI (i * 5 + 3) from nI_add _ 3, Nat.mul_comm]
    rw [e, dig_q N h hl hx hc ho hi (by omega), Option.bind_some, nI1, ha]
    by_cases z : hb s i = true
    · rw [if_pos ((hasT s (by omega)).mpr z)]
      show _ = X8_priceOf_l5 N σ n s (nI c) (_ + (if hb s i = true then _ else 0)) _
      rw [if_pos z]
    · rw [if_neg (fun u => z ((hasT s (by omega)).mp u))]
      show _ = X8_priceOf_l5 N σ n s (nI c) (_ + (if hb s i = true then _ else 0)) _
      rw [if_neg z, Int32.add_zero]
  · intro n a ha
    rw [X8_priceOf_l5, if_pos (nI_le (Nat.le_refl _) (by omega)), ha]; rfl
theorem price_r {N : Nat} (hN : 20 < N) {σ : Sg} {t : List Nat} {c : Nat} (hn : gi σ 149 16 = nI c) (hc8 : c ≤ 8) (hr : rdQ t σ c) (s : Int32) : X9_priceOf N s σ = some (pcS t c s) := by
  unfold X9_priceOf
  refine forL0 (L := fun n i a => X9_priceOf_l4 N σ n s a (nI i)) (m := c) (fun i a => a = sumB (hb s) (rqV t 3) i) (o := fun x => x = some (pcS t c s)) (by omega) rfl ?_ ?_
  · intro n i a hi ha
    left
    refine ⟨_, rfl, ?_⟩
    rw [X9_priceOf_l4, hn, if_neg (nI_ge hi (by omega))]
    have e : 4 * nI i + 3 = nI (4 * i + 3) := by rw [show 4 * nI i = nI (4 * i) from pk_mul 4 i, show nI (4 * i) + 3 = nI (4 * i + 3) from nI_add _ 3]
    rw [e, has_b N s (by omega), Option.bind_some, inbI (show 4 * i + 3 < 48 by omega) (by omega), clI (by omega), hr i 3 hi (by omega), nI1, ha]
    by_cases z : hb s i = true
    · rw [if_pos z, if_neg oneF, if_pos rfl]
      show _ = X9_priceOf_l4 N σ n s (_ + (if hb s i = true then _ else 0)) _
      rw [if_pos z]; rfl
    · rw [if_neg z, if_pos rfl]
      show _ = X9_priceOf_l4 N σ n s (_ + (if hb s i = true then _ else 0)) _
      rw [if_neg z]
  · intro n a ha
    rw [X9_priceOf_l4, hn, if_pos (nI_le (Nat.le_refl _) (by omega)), ha]; rfl
def runsQ (t : List Nat) (s : Int32) (h j : Nat) : Bool := hb s j && !decide (nI h < rqV t 0 j) && !decide (rqV t 1 j < nI h)
def stQ (t : List Nat) (c : Nat) (s : Int32) (h : Nat) : Int32 := sumB (runsQ t s h) (rqV t 2) c
def canQ (t : List Nat) (c : Nat) (stock s : Int32) (m : Nat) : Prop := ∀ h, h < m → stQ t c s h ≤ stock
theorem canServe_l14 {N : Nat} (hN : 20 < N) {σ : Sg} {t : List Nat} (h : TxC σ t) (hl : t.length ≤ 80) (hx : ∀ x ∈ t, x < 256) {c : Nat} (hc : 5 * c ≤ t.length + 1) (hc8 : c ≤ 8) (ho : rqOk t c) (s : Int32) (hr : Nat) (K : Int32 → Int32 → Int32 → Int32 → Option Int32) : X8_canServe_l14 N K σ N s (nI c) (nI hr) 0 0 = K s (nI c) (nI hr) (stQ t c s hr) := by
  refine forL0 (L := fun n i a => X8_canServe_l14 N K σ n s (nI c) (nI hr) a (nI i)) (m := c) (fun i a => a = sumB (runsQ t s hr) (rqV t 2) i) (o := fun x => x = K s (nI c) (nI hr) (stQ t c s hr)) (by omega) rfl ?_ ?_
  · intro n i a hi ha
    left
    refine ⟨_, rfl, ?_⟩
    have e0 : nI i * 5 = nI (5 * i + 0) := by rw [show nI i * 5 = nI (i * 5) from pk_mul i 5, Nat.mul_comm]; rfl
    have e1 : nI (5 * i + 0) + 1 = nI (5 * i + 1) := nI_add _ 1
    have e2 : nI (5 * i + 0) + 2 = nI (5 * i + 2) := nI_add _ 2
    have j59 : ∀ f, X8_canServe_j59 N (fun v1 v2 v3 v4 v5 => X8_canServe_l14 N K σ n v1 v2 v3 v4 v5) s (nI c) (nI hr) a (nI i) (nI (5 * i + 0)) f σ = if f = 0 then X8_canServe_l14 N K σ n s (nI c) (nI hr) a (nI (i + 1)) else X8_canServe_l14 N K σ n s (nI c) (nI hr) (a + (if hb s i = true then rqV t 2 i else 0)) (nI (i + 1)) := by
      intro f
      unfold X8_canServe_j59
      rw [e2, dig_q N h hl hx hc ho hi (by omega), Option.bind_some, nI1]
      by_cases y : f = 0
      · rw [if_pos y, if_pos y]
      · rw [if_neg y, if_neg y]
        by_cases z : hb s i = true
        · rw [if_pos ((hasT s (by omega)).mpr z), if_pos z]
        · rw [if_neg (fun u => z ((hasT s (by omega)).mp u)), if_neg z, Int32.add_zero]
    show _ = X8_canServe_l14 N K σ n s (nI c) (nI hr) (sumB (runsQ t s hr) (rqV t 2) i + (if runsQ t s hr i = true then rqV t 2 i else 0)) (nI (i + 1))
    rw [X8_canServe_l14, if_neg (nI_ge hi (by omega)), e0, dig_q N h hl hx hc ho hi (by omega), Option.bind_some, e1, dig_q N h hl hx hc ho hi (by omega), Option.bind_some, j59, j59, if_pos rfl, if_neg oneF, ← ha]
    unfold runsQ
    by_cases y1 : nI hr < rqV t 0 i
    · rw [if_pos y1, decide_eq_true y1]; simp
    · rw [if_neg y1, decide_eq_false y1]
      by_cases y2 : rqV t 1 i < nI hr
      · rw [if_pos y2, decide_eq_true y2]; simp
      · rw [if_neg y2, decide_eq_false y2]; simp
  · intro n a ha
    rw [X8_canServe_l14, if_pos (nI_le (Nat.le_refl _) (by omega)), ha]; rfl
theorem canServe_c {N : Nat} (hN : 20 < N) {σ : Sg} {t : List Nat} (h : TxC σ t) (hl : t.length ≤ 80) (hx : ∀ x ∈ t, x < 256) {c : Nat} (hc : 5 * c ≤ t.length + 1) (hc8 : c ≤ 8) (ho : rqOk t c) (s : Int32) : (canQ t c (gi σ 19 5) s 10 → X8_canServe N s (nI c) σ = some 1) ∧ (¬ canQ t c (gi σ 19 5) s 10 → X8_canServe N s (nI c) σ = some 0) := by
  unfold X8_canServe
  refine forL0 (L := fun n i (_ : Unit) => X8_canServe_l2 N σ n s (nI c) (nI i)) (m := 10) (a := ()) (fun i _ => canQ t c (gi σ 19 5) s i) (o := fun x => (canQ t c (gi σ 19 5) s 10 → x = some 1) ∧ (¬ canQ t c (gi σ 19 5) s 10 → x = some 0)) (by omega) (fun h hh => absurd hh (Nat.not_lt_zero _)) ?_ ?_
  · intro n i _ hi hI
    rw [X8_canServe_l2, if_neg (show ¬ (10 : Int32) ≤ nI i from nI_ge (b := 10) hi (by decide)), canServe_l14 hN h hl hx hc hc8 ho, X8_canServe_j98, nI1]
    by_cases z : stQ t c s i ≤ gi σ 19 5
    · left
      refine ⟨(), fun h hh => ?_, by rw [if_pos z]⟩
      by_cases y : h = i
      · rw [y]; exact z
      · exact hI h (by omega)
    · right
      rw [if_neg z]
      exact ⟨fun u => absurd (u i hi) z, fun _ => rfl⟩
  · intro n _ hI
    rw [X8_canServe_l2, if_pos (by decide)]
    exact ⟨fun _ => rfl, fun u => absurd hI u⟩
theorem canServe_l16 {N : Nat} (hN : 20 < N) {σ : Sg} {t : List Nat} {c : Nat} (hn : gi σ 149 16 = nI c) (hc8 : c ≤ 8) (hq : rdQ t σ c) (s v2 : Int32) {hr : Nat} (K : Int32 → Int32 → Int32 → Int32 → Option Int32) : X9_canServe_l16 N K σ N s v2 (nI hr) 0 0 = K s v2 (nI hr) (stQ t c s hr) := by
  refine forL0 (L := fun n i a => X9_canServe_l16 N K σ n s v2 (nI hr) a (nI i)) (m := c) (fun i a => a = sumB (runsQ t s hr) (rqV t 2) i) (o := fun x => x = K s v2 (nI hr) (stQ t c s hr)) (by omega) rfl ?_ ?_
  · intro n i a hi ha
    left
    refine ⟨_, rfl, ?_⟩
    have e0 : 4 * nI i = nI (4 * i + 0) := pk_mul 4 i
    have e1 : nI (4 * i + 0) + 1 = nI (4 * i + 1) := nI_add _ 1
    have e2 : nI (4 * i + 0) + 2 = nI (4 * i + 2) := nI_add _ 2
    show _ = X9_canServe_l16 N K σ n s v2 (nI hr) (sumB (runsQ t s hr) (rqV t 2) i + (if runsQ t s hr i = true then rqV t 2 i else 0)) (nI (i + 1))
    rw [X9_canServe_l16, hn, if_neg (nI_ge hi (by omega)), e0, e1, e2, has_b N s (by omega), Option.bind_some, inbI (show 4 * i + 0 < 48 by omega) (by omega), inbI (show 4 * i + 1 < 48 by omega) (by omega), inbI (show 4 * i + 2 < 48 by omega) (by omega), clI (show 4 * i + 0 < 2147483648 by omega), clI (show 4 * i + 1 < 2147483648 by omega), clI (show 4 * i + 2 < 2147483648 by omega), hq i 0 hi (by omega), hq i 1 hi (by omega), hq i 2 hi (by omega), nI1, ← ha]
    have f0 : nI (t.getD (5 * i + 0) 0 - 48) = rqV t 0 i := rfl
    have f1 : nI (t.getD (5 * i + 1) 0 - 48) = rqV t 1 i := rfl
    have f2 : nI (t.getD (5 * i + 2) 0 - 48) = rqV t 2 i := rfl
    rw [f0, f1, f2]
    unfold runsQ
    by_cases z : hb s i = true
    · rw [if_pos z, if_neg oneF, if_pos rfl, if_pos rfl, z, Bool.true_and]
      by_cases y1 : nI hr < rqV t 0 i
      · rw [in_f N (Or.inl y1), Option.bind_some, if_pos rfl, decide_eq_true y1]; simp
      · by_cases y2 : rqV t 1 i < nI hr
        · rw [in_f N (Or.inr y2), Option.bind_some, if_pos rfl, decide_eq_true y2]; simp
        · rw [in_t N (Int32.not_lt.mp y1) (Int32.not_lt.mp y2), Option.bind_some, if_neg oneF, if_pos rfl, decide_eq_false y1, decide_eq_false y2]; simp
    · rw [if_neg z, if_pos rfl]
      have : hb s i = false := by simpa using z
      rw [this]; simp
  · intro n a ha
    rw [X9_canServe_l16, hn, if_pos (nI_le (Nat.le_refl _) (by omega)), ha]; rfl
theorem canServe_r {N : Nat} (hN : 20 < N) {σ : Sg} {t : List Nat} {c : Nat} (hn : gi σ 149 16 = nI c) (hc8 : c ≤ 8) (hq : rdQ t σ c) (s : Int32) : (canQ t c (gi σ 153 33) s 10 → X9_canServe N s σ = some 1) ∧ (¬ canQ t c (gi σ 153 33) s 10 → X9_canServe N s σ = some 0) := by
  unfold X9_canServe
  refine forL0 (L := fun n i (v : Int32) => X9_canServe_l4 N σ n s v (nI i)) (m := 10) (a := 1) (fun i v => (v = 1 ∧ canQ t c (gi σ 153 33) s i) ∨ (v = 0 ∧ ¬ canQ t c (gi σ 153 33) s i)) (o := fun x => (canQ t c (gi σ 153 33) s 10 → x = some 1) ∧ (¬ canQ t c (gi σ 153 33) s 10 → x = some 0)) (by omega) (Or.inl ⟨rfl, fun h hh => absurd hh (Nat.not_lt_zero _)⟩) ?_ ?_
  · intro n i v hi hI
    left
    rw [X9_canServe_l4, if_neg (show ¬ (9 : Int32) < nI i from nI_nlt (a := 9) (by omega) (by decide)), canServe_l16 hN hn hc8 hq, X9_canServe_j90, nI1, if_pos i37_33, cl33]
    rcases hI with ⟨rfl, y⟩ | ⟨rfl, y⟩
    · rw [if_neg oneF]
      by_cases z : gi σ 153 33 < stQ t c s i
      · exact ⟨0, Or.inr ⟨rfl, fun u => absurd z (Int32.not_lt.mpr (u i (by omega)))⟩, by rw [if_pos z]⟩
      · refine ⟨1, Or.inl ⟨rfl, fun h hh => ?_⟩, by rw [if_neg z]⟩
        by_cases w : h = i
        · rw [w]; exact Int32.not_lt.mp z
        · exact y h (by omega)
    · exact ⟨0, Or.inr ⟨rfl, fun u => y (fun h hh => u h (by omega))⟩, by rw [if_pos rfl]⟩
  · intro n v hI
    rw [X9_canServe_l4, if_pos (by decide)]
    rcases hI with ⟨rfl, y⟩ | ⟨rfl, y⟩
    · exact ⟨fun _ => by rw [if_pos (by decide)], fun u => absurd y u⟩
    · exact ⟨fun u => absurd u y, fun _ => by rw [if_pos (by decide)]⟩
/-- the best of the sets below s + 1 -/
noncomputable def svS (t : List Nat) (c : Nat) (stock : Int32) : Nat → Int32
  | 0 => 0
  | s + 1 => if @decide ((pcS t c (svS t c stock s) < pcS t c (nI (s + 1)) ∨ (pcS t c (nI (s + 1)) = pcS t c (svS t c stock s) ∧ ¬ popI (svS t c stock s) ≤ popI (nI (s + 1)))) ∧ canQ t c stock (nI (s + 1)) 10) (Classical.propDecidable _) = true then nI (s + 1) else svS t c stock s
theorem svS_s (t : List Nat) (c : Nat) (stock : Int32) (s : Nat) : ((pcS t c (svS t c stock s) < pcS t c (nI (s + 1)) ∨ (pcS t c (nI (s + 1)) = pcS t c (svS t c stock s) ∧ ¬ popI (svS t c stock s) ≤ popI (nI (s + 1)))) ∧ canQ t c stock (nI (s + 1)) 10 → svS t c stock (s + 1) = nI (s + 1)) ∧ (¬ ((pcS t c (svS t c stock s) < pcS t c (nI (s + 1)) ∨ (pcS t c (nI (s + 1)) = pcS t c (svS t c stock s) ∧ ¬ popI (svS t c stock s) ≤ popI (nI (s + 1)))) ∧ canQ t c stock (nI (s + 1)) 10) → svS t c stock (s + 1) = svS t c stock s) := by
  constructor
  · intro h; show (if _ then _ else _) = _; rw [if_pos (@decide_eq_true _ (Classical.propDecidable _) h)]
  · intro h; show (if _ then _ else _) = _; rw [if_neg (fun u => h (@of_decide_eq_true _ (Classical.propDecidable _) u))]
theorem sub73 : ∀ a, a < 73 → ∀ b, b < 73 → ((0 < nI a - nI b ↔ nI b < nI a) ∧ (nI a - nI b = 0 ↔ nI a = nI b)) := by decide +kernel
theorem pcS_nI {t : List Nat} {c : Nat} (hc8 : c ≤ 8) (ho : rqOk t c) (s : Int32) : ∃ x, x < 73 ∧ pcS t c s = nI x := by
  obtain ⟨x, x1, x2⟩ := sum_nI (f := hb s) (g := rqV t 3) (S := 9) c (fun i hi => ⟨_, (dgI_pos (ho i 3 hi (by omega))).2.1, rfl⟩)
  exact ⟨x, by omega, x2⟩
theorem serves_l46 {N : Nat} (hN : 555 < N) {σ : Sg} {t : List Nat} (h : TxC σ t) (hl : t.length ≤ 80) (hx : ∀ x ∈ t, x < 256) {c : Nat} (hc : 5 * c ≤ t.length + 1) (hc8 : c ≤ 8) (ho : rqOk t c) (K : Int32 → Int32 → Sg → Option (Int32 × Sg)) : X8_serves_l46 N K N (nI c) 0 0 1 σ = K (pcS t c (svS t c (gi σ 19 5) (2 ^ c - 1))) (svS t c (gi σ 19 5) (2 ^ c - 1)) σ := by
  have hp := pow8 hc8
  have h0 : pcS t c 0 = 0 := by
    unfold pcS
    rw [sumB_congr (f' := fun _ => false) (g' := rqV t 3) c (fun i _ => hb_0 i) (fun _ _ _ => rfl)]
    clear hc hc8 ho hp
    induction c with
    | zero => rfl
    | succ c ih => unfold sumB; rw [ih]; rfl
  refine forL0 (L := fun m i (x : Int32 × Int32) => X8_serves_l46 N K m (nI c) x.1 x.2 (nI (i + 1)) σ) (m := 2 ^ c - 1) (N := N) (a := (0, 0)) (fun i x => x.2 = svS t c (gi σ 19 5) i ∧ x.1 = pcS t c x.2) (o := fun x => x = K (pcS t c (svS t c (gi σ 19 5) (2 ^ c - 1))) (svS t c (gi σ 19 5) (2 ^ c - 1)) σ) (by omega) ⟨rfl, h0.symm⟩ ?_ ?_
  · intro m i x hi hI
    obtain ⟨d, b⟩ := x
    obtain ⟨i1, i2⟩ := hI
    dsimp only at i1 i2
    left
    obtain ⟨S1, S2⟩ := svS_s t c (gi σ 19 5) i
    rw [← i1] at S1 S2
    obtain ⟨C1, C2⟩ := canServe_c (N := N) (by omega) h hl hx hc hc8 ho (nI (i + 1))
    rw [X8_serves_l46, sh_pow c (by omega), if_neg (nI_ge (by omega) (by omega)), price_c (by omega) h hl hx hc hc8 ho, Option.bind_some, bitCount_eq, Option.bind_some, bitCount_eq, Option.bind_some]
    have j100 : X8_serves_j100 N (fun v2 v3 v4 v5 σ => X8_serves_l46 N K m v2 v3 v4 v5 σ) (nI c) d b (nI (i + 1)) (pcS t c (nI (i + 1))) σ = if @decide (canQ t c (gi σ 19 5) (nI (i + 1)) 10) (Classical.propDecidable _) = true then X8_serves_l46 N K m (nI c) (pcS t c (nI (i + 1))) (nI (i + 1)) (nI (i + 1 + 1)) σ else X8_serves_l46 N K m (nI c) d b (nI (i + 1 + 1)) σ := by
      unfold X8_serves_j100
      by_cases u : canQ t c (gi σ 19 5) (nI (i + 1)) 10
      · rw [C1 u, Option.bind_some, if_neg oneF, nI1, if_pos (@decide_eq_true _ (Classical.propDecidable _) u)]
      · rw [C2 u, Option.bind_some, if_pos rfl, nI1, if_neg (fun w => u (@of_decide_eq_true _ (Classical.propDecidable _) w))]
    have yes : (pcS t c b < pcS t c (nI (i + 1)) ∨ (pcS t c (nI (i + 1)) = pcS t c b ∧ ¬ popI b ≤ popI (nI (i + 1)))) → ∃ x' : Int32 × Int32, (x'.2 = svS t c (gi σ 19 5) (i + 1) ∧ x'.1 = pcS t c x'.2) ∧ X8_serves_j100 N (fun v2 v3 v4 v5 σ => X8_serves_l46 N K m v2 v3 v4 v5 σ) (nI c) d b (nI (i + 1)) (pcS t c (nI (i + 1))) σ = X8_serves_l46 N K m (nI c) x'.1 x'.2 (nI (i + 1 + 1)) σ := by
      intro w
      rw [j100]
      by_cases u : canQ t c (gi σ 19 5) (nI (i + 1)) 10
      · exact ⟨(pcS t c (nI (i + 1)), nI (i + 1)), ⟨(S1 ⟨w, u⟩).symm, rfl⟩, by rw [if_pos (@decide_eq_true _ (Classical.propDecidable _) u)]⟩
      · exact ⟨(d, b), ⟨(S2 (fun q => u q.2)).symm, i2⟩, by rw [if_neg (fun w => u (@of_decide_eq_true _ (Classical.propDecidable _) w))]⟩
    have no : ¬ (pcS t c b < pcS t c (nI (i + 1)) ∨ (pcS t c (nI (i + 1)) = pcS t c b ∧ ¬ popI b ≤ popI (nI (i + 1)))) → ∃ x' : Int32 × Int32, (x'.2 = svS t c (gi σ 19 5) (i + 1) ∧ x'.1 = pcS t c x'.2) ∧ X8_serves_l46 N K m (nI c) d b (nI (i + 1) + 1) σ = X8_serves_l46 N K m (nI c) x'.1 x'.2 (nI (i + 1 + 1)) σ := fun w => ⟨(d, b), ⟨(S2 (fun q => w q.1)).symm, i2⟩, by rw [nI1]⟩
    have j81 : ∀ f, X8_serves_j81 N (fun v2 v3 v4 v5 σ => X8_serves_l46 N K m v2 v3 v4 v5 σ) (nI c) d b (nI (i + 1)) (pcS t c (nI (i + 1))) f σ = if d < pcS t c (nI (i + 1)) then (X8_serves_j100 N (fun v2 v3 v4 v5 σ => X8_serves_l46 N K m v2 v3 v4 v5 σ) (nI c) d b (nI (i + 1)) (pcS t c (nI (i + 1))) σ) else (if pcS t c (nI (i + 1)) = d then (if f = 0 then (X8_serves_l46 N K m (nI c) d b (nI (i + 1) + 1) σ) else (X8_serves_j100 N (fun v2 v3 v4 v5 σ => X8_serves_l46 N K m v2 v3 v4 v5 σ) (nI c) d b (nI (i + 1)) (pcS t c (nI (i + 1))) σ)) else (X8_serves_l46 N K m (nI c) d b (nI (i + 1) + 1) σ)) := fun f => rfl
    rw [j81, j81, if_pos rfl, if_neg oneF, i2]
    rw [i2] at yes no
    by_cases w1 : pcS t c b < pcS t c (nI (i + 1))
    · rw [if_pos w1]
      obtain ⟨x', y1, y2⟩ := yes (Or.inl w1)
      refine ⟨x', y1, ?_⟩
      by_cases v : popI b ≤ popI (nI (i + 1))
      · rw [if_pos v]; exact y2
      · rw [if_neg v, if_pos w1]; exact y2
    · rw [if_neg w1]
      by_cases w2 : pcS t c (nI (i + 1)) = pcS t c b
      · rw [if_pos w2]
        by_cases v : popI b ≤ popI (nI (i + 1))
        · obtain ⟨x', y1, y2⟩ := no (fun q => by rcases q with q | q; exact w1 q; exact q.2 v)
          exact ⟨x', y1, by rw [if_pos v]; exact y2⟩
        · obtain ⟨x', y1, y2⟩ := yes (Or.inr ⟨w2, v⟩)
          exact ⟨x', y1, by rw [if_neg v, if_neg w1, if_pos w2]; exact y2⟩
      · rw [if_neg w2]
        obtain ⟨x', y1, y2⟩ := no (fun q => by rcases q with q | q; exact w1 q; exact w2 q.1)
        refine ⟨x', y1, ?_⟩
        by_cases v : popI b ≤ popI (nI (i + 1))
        · rw [if_pos v]; exact y2
        · rw [if_neg v, if_neg w1, if_neg w2]; exact y2
  · intro m x hI
    obtain ⟨d, b⟩ := x
    obtain ⟨i1, i2⟩ := hI
    dsimp only at i1 i2
    rw [X8_serves_l46, sh_pow c (by omega), show 2 ^ c - 1 + 1 = 2 ^ c by omega, if_pos (nI_le (Nat.le_refl _) (by omega)), i2, i1]
theorem serves_l79 {N : Nat} (hN : 555 < N) {σ : Sg} {t : List Nat} {c : Nat} (hn : gi σ 149 16 = nI c) (hc8 : c ≤ 8) (ho : rqOk t c) (hq : rdQ t σ c) (K : Int32 → Sg → Option (Int32 × Sg)) : X9_serves_l79 N K N 0 1 σ = K (svS t c (gi σ 153 33) (2 ^ c - 1)) σ := by
  have hp := pow8 hc8
  refine forL0 (L := fun m i b => X9_serves_l79 N K m b (nI (i + 1)) σ) (m := 2 ^ c - 1) (N := N) (a := (0 : Int32)) (fun i b => b = svS t c (gi σ 153 33) i) (o := fun x => x = K (svS t c (gi σ 153 33) (2 ^ c - 1)) σ) (by omega) rfl ?_ ?_
  · intro m i b hi i1
    left
    obtain ⟨S1, S2⟩ := svS_s t c (gi σ 153 33) i
    rw [← i1] at S1 S2
    obtain ⟨C1, C2⟩ := canServe_r (N := N) (by omega) hn hc8 hq (nI (i + 1))
    obtain ⟨x, x1, x2⟩ := pcS_nI hc8 ho (nI (i + 1))
    obtain ⟨y, y1, y2⟩ := pcS_nI hc8 ho b
    obtain ⟨s1, s2⟩ := sub73 x x1 y y1
    rw [← x2, ← y2] at s1 s2
    have j131 : ∀ f, X9_serves_j131 N (fun v3 v4 σ => X9_serves_l79 N K m v3 v4 σ) b (nI (i + 1)) f σ = if f = 0 then X9_serves_l79 N K m b (nI (i + 1 + 1)) σ else (if @decide (canQ t c (gi σ 153 33) (nI (i + 1)) 10) (Classical.propDecidable _) = true then X9_serves_l79 N K m (nI (i + 1)) (nI (i + 1 + 1)) σ else X9_serves_l79 N K m b (nI (i + 1 + 1)) σ) := by
      intro f
      unfold X9_serves_j131
      by_cases u : canQ t c (gi σ 153 33) (nI (i + 1)) 10
      · rw [C1 u, Option.bind_some, if_neg oneF, nI1, if_pos (@decide_eq_true _ (Classical.propDecidable _) u)]
      · rw [C2 u, Option.bind_some, if_pos rfl, nI1, if_neg (fun w => u (@of_decide_eq_true _ (Classical.propDecidable _) w))]
    rw [X9_serves_l79, hn, sh_pow c (by omega), if_neg (nI_ge (by omega) (by omega)), price_r (by omega) hn hc8 hq, Option.bind_some, price_r (by omega) hn hc8 hq, Option.bind_some, bitCount_eq, Option.bind_some, bitCount_eq, Option.bind_some, j131, j131, if_neg oneF, if_pos rfl]
    by_cases w1 : pcS t c b < pcS t c (nI (i + 1))
    · rw [if_pos (s1.mpr w1)]
      by_cases u : canQ t c (gi σ 153 33) (nI (i + 1)) 10
      · exact ⟨nI (i + 1), (S1 ⟨Or.inl w1, u⟩).symm, by rw [if_pos (@decide_eq_true _ (Classical.propDecidable _) u)]⟩
      · exact ⟨b, (S2 (fun q => u q.2)).symm, by rw [if_neg (fun w => u (@of_decide_eq_true _ (Classical.propDecidable _) w))]⟩
    · rw [if_neg (fun q => w1 (s1.mp q))]
      by_cases w2 : pcS t c (nI (i + 1)) = pcS t c b
      · rw [if_pos (s2.mpr w2)]
        by_cases v : popI b ≤ popI (nI (i + 1))
        · exact ⟨b, (S2 (fun q => by rcases q.1 with z | z; exact w1 z; exact z.2 v)).symm, by rw [if_pos v]⟩
        · rw [if_neg v]
          by_cases u : canQ t c (gi σ 153 33) (nI (i + 1)) 10
          · exact ⟨nI (i + 1), (S1 ⟨Or.inr ⟨w2, v⟩, u⟩).symm, by rw [if_pos (@decide_eq_true _ (Classical.propDecidable _) u)]⟩
          · exact ⟨b, (S2 (fun q => u q.2)).symm, by rw [if_neg (fun w => u (@of_decide_eq_true _ (Classical.propDecidable _) w))]⟩
      · rw [if_neg (fun q => w2 (s2.mp q))]
        exact ⟨b, (S2 (fun q => by rcases q.1 with z | z; exact w1 z; exact w2 z.1)).symm, rfl⟩
  · intro m b i1
    rw [X9_serves_l79, hn, sh_pow c (by omega), show 2 ^ c - 1 + 1 = 2 ^ c by omega, if_pos (nI_le (Nat.le_refl _) (by omega)), i1]
theorem serves_op {N : Nat} (hN : 555 < N) {H : Nat} {A : Ab} (hA : OkA H A) : OpB (X8_serves N) (X9_serves N) H A := by
  obtain ⟨L, now, t, to, p, s, w⟩ := A
  obtain ⟨k1, ⟨k2, k2'⟩, k3, ⟨k4, k4'⟩, k5, k6⟩ := hA
  dsimp only at k1 k2 k2' k3 k4 k4' k5 k6
  obtain ⟨q, q1, q2, q3⟩ := upto_p (rqP t) t.length
  have hq40 : q ≤ 40 := by
    rcases Nat.lt_or_ge 40 q with z | z
    · have := q2 40 z
      unfold rqP at this
      simp at this
    · exact z
  by_cases hbad : q < t.length ∨ q % 5 ≠ 4
  · refine ⟨-1 - nI q, (L, now, [], to, p, s, w), ?_, ?_, k1.mono (by omega), ⟨by simp, by simp⟩, k3, ⟨k4, fun q hq => (k4' q hq).mono (by omega)⟩, fun i r hi hr => (k5 i r hi hr).mono (by omega), k6⟩
    · rintro σ ⟨c1, c2, c3, c4, c5, c6, c7⟩
      dsimp only at c1 c2 c3 c4 c5 c6 c7
      obtain ⟨σ1, a1, a2, a3⟩ := txClear_c N σ
      refine ⟨σ1, ?_, ⟨c1.fr a3 (by decide), (a3.row19 (by decide)).trans c2, a2, c4.fr a3 (by decide), c5.fr a3 (by decide +kernel), c6.fr a3 (by decide +kernel), c7.fr a3 (by decide)⟩, fun B hB => hB.fr a3 (by decide)⟩
      unfold X8_serves
      rw [faultR (by omega) c3 k2 k2' q1 q2 q3, if_pos hbad, Option.bind_some, if_neg (nIm1 (by omega)), a1, Option.bind_some]
    · rintro σ ⟨c1, c2, c3, c4, c5, c6, c7⟩
      dsimp only at c1 c2 c3 c4 c5 c6 c7
      obtain ⟨σ1, a1, a2, a3, a4, a5⟩ := begins_r N c3 k2 (b := 80) (by omega)
      rw [Nat.min_eq_left k2] at a2
      have fw : Fr [3016] σ1 (wi σ1 149 16 0) := (Fr.refl _ _).wi (by decide)
      obtain ⟨σ2, b1, b2, b3, b4⟩ := serves_l21 (N := N) (by omega) k2 k2' (a2.fr fw (by decide)) (by rw [giw, if_pos ⟨rfl, rfl⟩]; rfl) q1 q2 q3 (fun v1 σ => X9_serves_j52 N v1 σ)
      have f : Fr (rdL ++ [3016, 156]) σ σ2 := ((a5.mono (by decide)).trans (fw.mono (by decide))).trans (b4.mono (by decide))
      refine ⟨σ2, ?_, ⟨c1.fr f (by decide), (rR_congr (f.r (by simp [pl, rdL]))).trans c2, ⟨?_, fun i hi => absurd hi (Nat.not_lt_zero _)⟩, c4.fr f (by decide), c5.fr f (by decide), c6.fr f (by decide), c7.fr f (by decide)⟩, fun B hB => hB.fr f (by decide +kernel)⟩
      · unfold X9_serves
        simp only [bnS]
        rw [show (80 : Int32) = nI 80 from rfl, a1, Option.bind_some]
        simp only [bnS]
        rw [b1, X9_serves_j52, b2.1, b2.2.1]
        by_cases z : q % 5 = 4
        · rw [if_pos z, if_neg oneF, if_neg (nI_ge (by omega) (by omega))]
        · rw [if_neg z, if_pos rfl]
      · exact (b4.g (k := 149) (j := 11) (by decide)).trans ((fw.g (k := 149) (j := 11) (by decide)).trans a3)
  · have e1 : q = t.length := by omega
    have e4 : q % 5 = 4 := by omega
    obtain ⟨c, hc⟩ : ∃ c, t.length + 1 = 5 * c := ⟨(q + 1) / 5, by omega⟩
    have hc8 : c ≤ 8 := by omega
    have ho : rqOk t c := rqOk_of k2' (by omega) hc8 q2
    have hq5 : q / 5 + 1 = c := by omega
    refine ⟨pcS t c (svS t c (now 33) (2 ^ c - 1)), (L, now, [], [(svS t c (now 33) (2 ^ c - 1)).toInt64], p, s, w), ?_, ?_, k1.mono (by omega), ⟨by simp, by simp⟩, by simp, ⟨k4, fun q hq => (k4' q hq).mono (by omega)⟩, fun i r hi hr => (k5 i r hi hr).mono (by omega), k6⟩
    · rintro σ ⟨c1, c2, c3, c4, c5, c6, c7⟩
      dsimp only at c1 c2 c3 c4 c5 c6 c7
      obtain ⟨σ1, a1, a2, a3⟩ := txClear_c N σ
      obtain ⟨σ2, t1, t2, t3⟩ := tell1_c N (svS t c (now 33) (2 ^ c - 1)).toInt64 σ1
      have f : Fr [1, 3, 4] σ σ2 := (a3.mono (by decide)).trans (t3.mono (by decide))
      refine ⟨σ2, ?_, ⟨c1.fr f (by decide), (f.row19 (by decide)).trans c2, a2.fr t3 (by decide), t2, c5.fr f (by decide +kernel), c6.fr f (by decide +kernel), c7.fr f (by decide)⟩, fun B hB => hB.fr f (by decide)⟩
      have e33 : gi σ 19 5 = now 33 := by rw [← rC_33, c2]
      have el : (nI t.length + 1) / 5 = nI c := by rw [nI1, hc, show nI (5 * c) / 5 = nI (5 * c / 5) from pk_div (d := 5) (by omega) (by omega) (by omega), Nat.mul_div_cancel_left c (by omega)]
      unfold X8_serves
      rw [faultR (by omega) c3 k2 k2' q1 q2 q3, if_neg hbad, Option.bind_some, if_pos rfl, c3.1, el, show (8 : Int32) = nI 8 from rfl, min_n N (by omega) (by omega), Nat.min_eq_left hc8, Option.bind_some, serves_l46 hN c3 k2 k2' (by omega) hc8 ho, e33, X8_serves_j123, a1, Option.bind_some, t1]
      rfl
    · rintro σ ⟨c1, c2, c3, c4, c5, c6, c7⟩
      dsimp only at c1 c2 c3 c4 c5 c6 c7
      obtain ⟨σ1, a1, a2, a3, a4, a5⟩ := begins_r N c3 k2 (b := 80) (by omega)
      rw [Nat.min_eq_left k2] at a2
      have fw : Fr [3016] σ1 (wi σ1 149 16 0) := (Fr.refl _ _).wi (by decide)
      obtain ⟨σ2, b1, b2, b3, b4⟩ := serves_l21 (N := N) (by omega) k2 k2' (a2.fr fw (by decide)) (by rw [giw, if_pos ⟨rfl, rfl⟩]; rfl) q1 q2 q3 (fun v1 σ => X9_serves_j52 N v1 σ)
      obtain ⟨b5, b6⟩ := b3 e4
      rw [hq5] at b5 b6
      have f : Fr (rdL ++ [3016, 156]) σ σ2 := ((a5.mono (by decide)).trans (fw.mono (by decide))).trans (b4.mono (by decide))
      have e33 : gi σ2 153 33 = now 33 := by rw [f.g (k := 153) (by simp [pl, rdL]), ← rR_j (by omega), c2]
      obtain ⟨σ3, t1, t2, t3⟩ := enters_r N (told0_r σ2) (by decide) (svS t c (now 33) (2 ^ c - 1)).toInt64
      have ft := (told0_f σ2).trans t3
      have f2 : Fr (rdL ++ [3016, 156, 3001, 150]) σ σ3 := (f.mono (by decide)).trans (ft.mono (by decide))
      refine ⟨σ3, ?_, ⟨c1.fr f2 (by decide), (rR_congr (f2.r (by simp [pl, rdL]))).trans c2, ⟨?_, fun i hi => absurd hi (Nat.not_lt_zero _)⟩, t2, c5.fr f2 (by decide), c6.fr f2 (by decide), c7.fr f2 (by decide)⟩, fun B hB => hB.fr f2 (by decide +kernel)⟩
      · unfold X9_serves
        simp only [bnS]
        rw [show (80 : Int32) = nI 80 from rfl, a1, Option.bind_some]
        simp only [bnS]
        rw [b1, X9_serves_j52, if_pos e4, if_neg oneF, b2.1, b2.2.1, if_pos (nI_le (by omega) (by omega)), serves_l79 hN b5 hc8 ho b6, e33, X9_serves_j160]
        simp only [bnS]
        rw [t1, Option.bind_some, price_r (by omega) ((ft.g (k := 149) (j := 16) (by decide)).trans b5) hc8 (fun j l hj hl4 => (ft.g (k := 156) (by simp [pl])).trans (b6 j l hj hl4))]
        rfl
      · exact (ft.g (k := 149) (j := 11) (by decide)).trans ((b4.g (k := 149) (j := 11) (by decide)).trans ((fw.g (k := 149) (j := 11) (by decide)).trans a3))
