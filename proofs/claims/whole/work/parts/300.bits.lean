/-! ===== bits of masks ===== -/
def hb (v : Int32) (j : Nat) : Bool := v.toBitVec.getLsbD j
theorem and1 (x : Int32) : (x &&& 1) = 1 ↔ hb x 0 = true := by
  constructor
  · intro h
    have h2 : (x &&& 1).toBitVec = (1 : Int32).toBitVec := by rw [h]
    have h3 : (x.toBitVec &&& 1#32) = 1#32 := h2
    have h4 : (x.toBitVec &&& 1#32).getLsbD 0 = true := by rw [h3]; rfl
    rw [BitVec.getLsbD_and] at h4
    simp at h4
    exact h4
  · intro h
    apply Int32.toBitVec_inj.mp
    show x.toBitVec &&& 1#32 = 1#32
    apply BitVec.eq_of_getLsbD_eq
    intro i hi
    rw [BitVec.getLsbD_and]
    by_cases h0 : i = 0
    · subst h0
      have : x.toBitVec.getLsbD 0 = true := h
      rw [this]
      rfl
    · have : (1#32).getLsbD i = false := by
        rw [BitVec.getLsbD_one]
        simp [h0]
      rw [this]
      simp
theorem smod31 : ∀ n, n < 32 → ((nI n &&& 31).toBitVec.smod 32).toNat = n := by decide +kernel
theorem hb_sshr (v : Int32) {j : Nat} (hj : j < 32) : hb (v >>> (nI j &&& 31)) 0 = hb v j := by
  show (BitVec.sshiftRight' v.toBitVec ((nI j &&& 31).toBitVec.smod 32)).getLsbD 0 = v.toBitVec.getLsbD j
  rw [BitVec.sshiftRight', smod31 j hj, BitVec.getLsbD_sshiftRight]
  simp
  omega
theorem hasT (v : Int32) {j : Nat} (hj : j < 32) : ((v >>> (nI j &&& 31)) &&& 1) = 1 ↔ hb v j = true := by rw [and1, hb_sshr v hj]
