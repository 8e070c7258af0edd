/-! ===== fits, looks ===== -/
def bitI (v : Int32) (t : Nat) : Int32 := if hb v t = true then 1 else 0
theorem sh1 (v : Int32) {t : Nat} (ht : t < 32) : (v >>> (nI t &&& 31)) &&& 1 = bitI v t := by
  unfold bitI
  by_cases h : hb v t = true
  · rw [if_pos h]; exact (hasT v ht).mpr h
  · rw [if_neg h]; exact (hasF v ht).mpr (by simpa using h)
def ro1 (r : Nat → Int32) (x : Nat) : Nat → Int32 := if x < 8 then upd r x (r x + 1) else r
def flx (L : Ld) (r : Nat → Int32) (x h : Nat) : Int32 := floatS L (hrS L (ro1 r x) h)
theorem ro1_wf {n H : Nat} {r : Nat → Int32} (h : WF n 9 H r) {x : Nat} (hx : x = 8 ∨ (x < n ∧ hb (r 32) x = false)) : WF n 10 H (ro1 r x) := by
  have h0 := h
  obtain ⟨w1, w2, w3, w4, w5, w6, w7, w8⟩ := h
  have h8 := w1.2.2.2.2
  have h10 : WF n 10 H r := ⟨w1, w2, fun i hi => ⟨by obtain ⟨s, hs, es⟩ := (w3 i hi).1; exact ⟨s, by omega, es⟩, (w3 i hi).2⟩, w4, w5, w6, w7, w8⟩
  unfold ro1
  rcases hx with rfl | ⟨hx, hg⟩
  · rw [if_neg (by omega)]; exact h10
  · rw [if_pos (by omega)]
    refine h10.upd3 (fun i hi => pk_un (by omega)) (pk_un (by omega)) (fun i hi => pk_un (by omega)) (fun i hi => ⟨?_, ?_⟩) (fun i hi hz => ?_) (fun i hi hi8 => ?_) (by rw [pk_un (by omega)]; exact w7) (pk_un (by omega))
    · by_cases z : i = x
      · subst z
        rw [pk_us]
        obtain ⟨s, hs, es⟩ := (w3 i hi).1
        exact ⟨s + 1, by omega, by rw [es, nI1]⟩
      · rw [pk_un z]
        obtain ⟨s, hs, es⟩ := (w3 i hi).1
        exact ⟨s, by omega, es⟩
    · rw [pk_un (by omega)]; exact (w3 i hi).2
    · have z : i ≠ x := by intro z; subst z; rw [hg] at hz; cases hz
      rw [pk_un z]; exact (w4 i hi hz).1
    · rw [pk_un (by omega), pk_un (by omega)]; exact ⟨(w5 i hi hi8).1, (w5 i hi hi8).2.2⟩
theorem l132 : ∀ x, x < 9 → L132.getD x none = some (133 + x) ∧ isFl (133 + x) = true := by decide +kernel
def lkC : List Nat := [15, 18, 9, 13, 16, 2006, 24, 25, 26, 27, 28, 4005]
theorem pl133 {x : Nat} (hx : x < 9) (j : Nat) : pl (133 + x) j = 133 + x := by unfold pl; rw [if_neg (by omega), if_neg (by omega), if_neg (by omega)]
theorem look_c {N : Nat} (hN : 100 < N) {σ : Sg} {L : Ld} {H : Nat} (hR : RuC σ L) {r : Nat → Int32} (hr : rC σ 19 = r) (hW : WF L.1 9 H r) (hH : H < 1000000) {x : Nat} (hx : x = 8 ∨ (x < L.1 ∧ hb (r 32) x = false)) :
    ∃ σ', X7_look N 19 24 (nI x) σ = some σ' ∧ (∀ h, h < 21 → gi σ' (133 + x) h = flx L r x h) ∧ gi σ' 128 5 = nI x ∧ Fr (lkC ++ [133 + x]) σ σ' := by
  have h8 := hW.1.2.2.2.2
  have hx9 : x < 9 := by omega
  have hW1 := ro1_wf hW hx
  have f0 : Fr (lkC ++ [133 + x]) σ (wi σ 128 5 (nI x)) := (Fr.refl _ _).wi (by simp [pl, lkC])
  obtain ⟨σ1, b1, b2, b3⟩ := become_c (N := N) (by omega) (k0 := 24) (k1 := 19) (by omega) (by omega) (wi σ 128 5 (nI x))
  have r19 : rC (wi σ 128 5 (nI x)) 19 = r := (f0.row19 (by intro y hy; simp at hy; simp [lkC]; omega)).trans hr
  rw [r19] at b2
  have f1 : Fr (lkC ++ [133 + x]) σ σ1 := f0.trans (b3.mono (by intro y hy; unfold S5 at hy; simp at hy; simp [lkC]; omega))
  have hLf : ∀ a, Fr (lkC ++ [133 + x]) σ a → RuC a L := fun a f => hR.fr f (by intro y hy; simp at hy; simp [lkC]; omega)
  have key : ∀ σ2, rC σ2 24 = ro1 r x → gi σ2 128 5 = nI x → Fr (lkC ++ [133 + x]) σ σ2 → ∃ σ', X7_look_l45 N 19 24 N (nI x) 0 σ2 = some σ' ∧ (∀ h, h < 21 → gi σ' (133 + x) h = flx L r x h) ∧ gi σ' 128 5 = nI x ∧ Fr (lkC ++ [133 + x]) σ σ' := by
    intro σ2 hr2 hx2 hf2
    refine forL0 (L := fun m i a => X7_look_l45 N 19 24 m (nI x) (nI i) a) (m := 21) (a := σ2) (fun i a => rC a 24 = hrS L (ro1 r x) i ∧ (∀ h, h < i → gi a (133 + x) h = flx L r x h) ∧ gi a 128 5 = nI x ∧ Fr (lkC ++ [133 + x]) σ a) (o := fun y => ∃ σ', y = some σ' ∧ (∀ h, h < 21 → gi σ' (133 + x) h = flx L r x h) ∧ gi σ' 128 5 = nI x ∧ Fr (lkC ++ [133 + x]) σ σ') (by omega) ⟨hr2, fun h hh => absurd hh (Nat.not_lt_zero _), hx2, hf2⟩ ?_ ?_
    · intro m i a hi hI
      obtain ⟨i1, i2, i3, i4⟩ := hI
      left
      obtain ⟨k2, m1, m2, m3, m4⟩ := (hLf a i4).rule
      have hWi := hrS_wf (by omega) hW1 i
      obtain ⟨h36, hh, e36⟩ := hWi.h36
      obtain ⟨σ3, e1, e2, e3, e4⟩ := floating_c (N := N) (by omega) (Or.inr rfl : (24 : Nat) = 19 ∨ (24 : Nat) = 24) m4 (show h36 < 2147483648 by omega) (by rw [i1]; exact e36) (by rw [i1]; exact hWi.1)
      rw [i1] at e1
      have f3 : Fr (lkC ++ [133 + x]) σ σ3 := i4.trans (e4.mono (by intro y hy; simp at hy; simp [lkC]; omega))
      have fw : Fr [133 + x] σ3 (wi σ3 (133 + x) i (floatS L (hrS L (ro1 r x) i))) := (Fr.refl _ _).wi (by rw [pl133 hx9]; simp)
      have r3 : rC (wi σ3 (133 + x) i (floatS L (hrS L (ro1 r x) i))) 24 = hrS L (ro1 r x) i := by
        rw [fw.row24 (by intro y hy; simp at hy; simp; omega), e4.row24 (by decide), i1]
      have f4 : Fr (lkC ++ [133 + x]) σ (wi σ3 (133 + x) i (floatS L (hrS L (ro1 r x) i))) := f3.trans (fw.mono (by intro y hy; simp at hy; simp [hy]))
      obtain ⟨σ5, p1, p2, p3⟩ := passHour_b (N := N) (by omega) (Or.inr rfl : (24 : Nat) = 19 ∨ (24 : Nat) = 24) (σ := wi σ3 (133 + x) i (floatS L (hrS L (ro1 r x) i))) (L := L) (hLf _ f4).n.1 (S := 10) (H := H + i) (by rw [r3]; exact hWi)
      rw [r3] at p1 p2
      have p133 : ∀ j, gi σ5 (133 + x) j = gi (wi σ3 (133 + x) i (floatS L (hrS L (ro1 r x) i))) (133 + x) j := fun j => p3.g (by rw [pl133 hx9]; simp; omega)
      have p3x : ∀ j, gi σ3 (133 + x) j = gi a (133 + x) j := fun j => e4.g (by rw [pl133 hx9]; simp; omega)
      refine ⟨σ5, ⟨p2, fun h hh => ?_, ?_, f4.trans (p3.mono (by intro y hy; simp at hy; simp [lkC]; omega))⟩, ?_⟩
      · rw [p133, giw]
        by_cases z : h = i
        · rw [if_pos ⟨rfl, z⟩, z]; rfl
        · rw [if_neg (fun y => z y.2), p3x]; exact i2 h (by omega)
      · rw [p3.g (k := 128) (j := 5) (by simp [pl]), fw.g (k := 128) (j := 5) (by simp [pl]; omega), e4.g (k := 128) (j := 5) (by simp [pl])]; exact i3
      · rw [X7_look_l45, if_neg (show ¬ (20 : Int32) < nI i from nI_nlt (a := 20) (by omega) (by decide)), inbI hx9 (by omega), clI (show x < 2147483648 by omega), (l132 x hx9).1, if_pos rfl, Option.bind_some, m2, m3, if_pos rfl, e1, Option.bind_some, (l132 x hx9).2, if_pos rfl, inbI (show i < 21 by omega) (by omega), clI (show i < 2147483648 by omega), if_pos rfl]
        simp only [bnS, if_true, Option.bind_some]
        rw [(l132 x hx9).2]
        simp only [if_true]
        rw [giw, if_pos ⟨rfl, rfl⟩, p1, Option.bind_some, nI1]
    · intro m a hI
      obtain ⟨i1, i2, i3, i4⟩ := hI
      refine ⟨a, ?_, i2, i3, i4⟩
      rw [X7_look_l45, if_pos (by decide)]
  have h128 : gi σ1 128 5 = nI x := (b3.g (k := 128) (j := 5) (by simp [pl, S5])).trans (by rw [giw, if_pos ⟨rfl, rfl⟩])
  unfold X7_look
  rw [if_neg (nI_pos (by omega)), if_pos (show nI x ≤ 8 from nI_le (b := 8) (by omega) (by decide))]
  simp only [bnS]
  rw [b1, Option.bind_some]
  rcases hx with rfl | ⟨hx, hg⟩
  · rw [if_pos c8']
    exact key σ1 (by rw [b2]; rfl) h128 f1
  · rw [if_neg (c8 (by omega)), inbI (show x < 8 by omega) (by omega), clI (by omega), if_pos rfl, if_pos rfl]
    refine key (wi σ1 (24 + 1) x (gi σ1 (24 + 1) x + 1)) ?_ ?_ (f1.wi (by simp [pl, lkC]))
    · rw [rC_ws (by omega), ← rC_s (show x < 8 by omega), b2]
      unfold ro1
      rw [if_pos (by omega)]
    · rw [giw, if_neg (by omega)]; exact h128
def agB (L : Ld) (r : Nat → Int32) (w : List (Nat × Nat × Nat)) (x : Nat) : Nat → Bool
  | 0 => true
  | i + 1 => agB L r w x i && decide (bitI (flx L r x (w.getD i (0, 0, 0)).2.1) (w.getD i (0, 0, 0)).1 = nI (w.getD i (0, 0, 0)).2.2)
theorem agB_f {L : Ld} {r : Nat → Int32} {w : List (Nat × Nat × Nat)} {x i : Nat} (h : agB L r w x i = false) (d : Nat) : agB L r w x (i + d) = false := by
  induction d with
  | zero => exact h
  | succ d ih => show (agB L r w x (i + d) && _) = false; rw [ih]; rfl
theorem getD_mem {α : Type} {l : List α} {i : Nat} (h : i < l.length) (d : α) : l.getD i d ∈ l := by
  rw [List.getD_eq_getElem?_getD, List.getElem?_eq_getElem h]
  exact List.getElem_mem h
theorem agrees_c {N : Nat} (hN : 10 < N) {σ : Sg} {L : Ld} {r : Nat → Int32} {w : List (Nat × Nat × Nat)} (hw : NoC σ w) (hl : w.length ≤ 10) (hb1 : ∀ y ∈ w, y.1 < 8 ∧ y.2.1 ≤ 20) {x : Nat} (hx : x < 9) (hh : gi σ 128 5 = nI x) (ht : ∀ h, h < 21 → gi σ (133 + x) h = flx L r x h) : X7_agrees N σ = some (if agB L r w x w.length = true then 1 else 0) := by
  unfold X7_agrees
  refine forL0 (L := fun m i (_ : Unit) => X7_agrees_l2 N σ m (nI i)) (m := w.length) (a := ()) (fun i _ => agB L r w x i = true) (o := fun y => y = some (if agB L r w x w.length = true then 1 else 0)) (by omega) rfl ?_ ?_
  · intro m i _ hi hI
    obtain ⟨w1, w2, w3⟩ := hw.2 i hi
    have hm := hb1 _ (getD_mem hi (0, 0, 0))
    have hst : agB L r w x (i + 1) = decide (bitI (flx L r x (w.getD i (0, 0, 0)).2.1) (w.getD i (0, 0, 0)).1 = nI (w.getD i (0, 0, 0)).2.2) := by show (agB L r w x i && _) = _; rw [hI]; rfl
    have e : X7_agrees_l2 N σ (m + 1) (nI i) = (if bitI (flx L r x (w.getD i (0, 0, 0)).2.1) (w.getD i (0, 0, 0)).1 = nI (w.getD i (0, 0, 0)).2.2 then X7_agrees_l2 N σ m (nI (i + 1)) else some 0) := by
      rw [X7_agrees_l2, hw.1, if_neg (n_le hi (by omega)), hh, inbI hx (by omega), clI (show x < 2147483648 by omega), if_pos rfl, (l132 x hx).1, Option.bind_some, inbI (show i < 10 by omega) (by omega), clI (show i < 2147483648 by omega), (l132 x hx).2, w1, w2, w3, inbI (show (w.getD i (0, 0, 0)).2.1 < 21 by omega) (by omega), clI (show (w.getD i (0, 0, 0)).2.1 < 2147483648 by omega), ht _ (by omega), sh1 _ (by omega), nI1]
      rfl
    by_cases q : bitI (flx L r x (w.getD i (0, 0, 0)).2.1) (w.getD i (0, 0, 0)).1 = nI (w.getD i (0, 0, 0)).2.2
    · left
      exact ⟨(), by rw [hst]; exact decide_eq_true q, by rw [e, if_pos q]⟩
    · right
      have hf : agB L r w x (i + 1) = false := by rw [hst]; exact decide_eq_false q
      have := agB_f hf (w.length - (i + 1))
      rw [show i + 1 + (w.length - (i + 1)) = w.length by omega] at this
      rw [this, e, if_neg q]
      rfl
  · intro m _ hI
    rw [X7_agrees_l2, hw.1, if_pos (nI_le (Nat.le_refl _) (by omega)), hI]
    rfl
def fiP (A : Ab) (i : Nat) : Bool := !hb (A.2.1 32) i && agB A.1 A.2.1 A.2.2.2.2.2.2 i A.2.2.2.2.2.2.length
def lkD : List Nat := [15, 18, 9, 13, 16, 2006, 24, 25, 26, 27, 28, 4005, 133, 134, 135, 136, 137, 138, 139, 140, 141]
theorem fit_c {N : Nat} (hN : 100 < N) {σ : Sg} {A : Ab} {H : Nat} (hσ : InvC σ A) (hA : OkA H A) (hH : H < 1000000) : ∃ σ', X8_fittingThings N σ = some (mkB (fiP A) A.1.1, σ') ∧ (∀ i, i < A.1.1 → hb (A.2.1 32) i = false → ∀ h, h < 21 → gi σ' (133 + i) h = flx A.1 A.2.1 i h) ∧ Fr lkD σ σ' := by
  have h8 := hA.1.1.2.2.2.2
  have hnote : ∀ y ∈ A.2.2.2.2.2.2, y.1 < 8 ∧ y.2.1 ≤ 20 := fun y hy => by have := hA.2.2.2.2.2.2 y hy; omega
  have hcut : ∀ i, i < 9 → ∀ y ∈ lkC ++ [133 + i], y ∈ lkD := by decide
  unfold X8_fittingThings
  refine forL0 (L := fun m i (a : Int32 × Sg) => X8_fittingThings_l4 N m a.1 (nI i) a.2) (m := A.1.1) (a := (0, σ)) (fun i a => a.1 = mkB (fiP A) i ∧ (∀ j, j < i → hb (A.2.1 32) j = false → ∀ h, h < 21 → gi a.2 (133 + j) h = flx A.1 A.2.1 j h) ∧ Fr lkD σ a.2) (o := fun x => ∃ σ', x = some (mkB (fiP A) A.1.1, σ') ∧ (∀ i, i < A.1.1 → hb (A.2.1 32) i = false → ∀ h, h < 21 → gi σ' (133 + i) h = flx A.1 A.2.1 i h) ∧ Fr lkD σ σ') (by omega) ⟨rfl, fun j hj => absurd hj (Nat.not_lt_zero _), Fr.refl _ _⟩ ?_ ?_
  · intro m i a hi hI
    obtain ⟨v, τ⟩ := a
    obtain ⟨i1, i2, i3⟩ := hI
    dsimp only at i1 i2 i3 ⊢
    left
    have rt : rC τ 19 = A.2.1 := (i3.row19 (by decide)).trans hσ.2.1
    have hR := hσ.1.fr i3 (by decide)
    have hst : mkB (fiP A) (i + 1) = v ||| (if fiP A i then 1 <<< (nI i &&& 31) else 0) := by rw [i1]; rfl
    by_cases g : hb (A.2.1 32) i = true
    · refine ⟨(v, τ), ⟨?_, fun j hj hg => ?_, i3⟩, ?_⟩
      · dsimp only
        rw [hst]
        unfold fiP
        rw [g]; simp
      · by_cases z : j = i
        · subst z; rw [g] at hg; cases hg
        · exact i2 j (by omega) hg
      · rw [X8_fittingThings_l4, hR.n.1, if_neg (n_le hi (by omega)), isGone_t N 19 (by omega) (by rw [show gi τ 19 4 = A.2.1 32 from congrFun rt 32]; exact g), Option.bind_some, if_neg oneF, nI1]
    · have g' : hb (A.2.1 32) i = false := by simpa using g
      obtain ⟨σ3, l1, l2, l3, l4⟩ := look_c (N := N) hN hR rt hA.1 hH (x := i) (Or.inr ⟨hi, g'⟩)
      have f3 : Fr lkD σ σ3 := i3.trans (l4.mono (hcut i (by omega)))
      have hno := hσ.2.2.2.2.2.2.fr f3 (by decide)
      have ag := agrees_c (N := N) (by omega) hno hA.2.2.2.2.2.1 hnote (show i < 9 by omega) l3 l2
      have htab : ∀ j, j < i + 1 → hb (A.2.1 32) j = false → ∀ h, h < 21 → gi σ3 (133 + j) h = flx A.1 A.2.1 j h := by
        intro j hj hg h hh
        by_cases z : j = i
        · subst z; exact l2 h hh
        · rw [l4.g (by rw [pl133 (by omega)]; simp [lkC]; omega)]
          exact i2 j (by omega) hg h hh
      by_cases q : agB A.1 A.2.1 A.2.2.2.2.2.2 i A.2.2.2.2.2.2.length = true
      · refine ⟨(v ||| (1 <<< (nI i &&& 31)), σ3), ⟨?_, htab, f3⟩, ?_⟩
        · dsimp only
          rw [hst]
          unfold fiP
          rw [g', q]; rfl
        · rw [X8_fittingThings_l4, hR.n.1, if_neg (n_le hi (by omega)), isGone_f N 19 (by omega) (by rw [show gi τ 19 4 = A.2.1 32 from congrFun rt 32]; exact g'), Option.bind_some, if_pos rfl, l1, Option.bind_some, ag, if_pos q, Option.bind_some, if_neg oneF, nI1]
      · refine ⟨(v, σ3), ⟨?_, htab, f3⟩, ?_⟩
        · dsimp only
          rw [hst]
          unfold fiP
          rw [g', show agB A.1 A.2.1 A.2.2.2.2.2.2 i A.2.2.2.2.2.2.length = false by simpa using q]; simp
        · rw [X8_fittingThings_l4, hR.n.1, if_neg (n_le hi (by omega)), isGone_f N 19 (by omega) (by rw [show gi τ 19 4 = A.2.1 32 from congrFun rt 32]; exact g'), Option.bind_some, if_pos rfl, l1, Option.bind_some, ag, if_neg q, Option.bind_some, if_pos rfl, nI1]
  · intro m a hI
    obtain ⟨v, τ⟩ := a
    obtain ⟨i1, i2, i3⟩ := hI
    dsimp only at i1 i2 i3 ⊢
    refine ⟨τ, ?_, i2, i3⟩
    rw [X8_fittingThings_l4, (hσ.1.fr i3 (by decide)).n.1, if_pos (nI_le (Nat.le_refl _) (by omega)), i1]
