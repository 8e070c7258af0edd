/-! ===== rows made and kept in a field ===== -/
theorem mk_len {S : List Sh} {x y : Sh} {k : Nat} : ((S ++ [x]).set k y).length = S.length + 1 := by simp
theorem mk_get {S : List Sh} {x y z : Sh} {k : Nat} (h : S[k]? = some z) : ((S ++ [x]).set k y)[k]? = some y := List.getElem?_set_self (by have := lt_of_get h; simp; omega)
theorem mk_Cl {S : List Sh} {x y : Sh} {k : Nat} (h : Cl S) (hl : S.length + 1 < 900) (hx : clX (S.length + 1) x) (hy : clX (S.length + 1) y) : Cl ((S ++ [x]).set k y) := Cl_set (Cl_push h hx hl) (by rw [List.length_append]; exact hy)
theorem r_mk {E : Ev} {Z : Zx} {own : String} {cc : ByteArray} {ret : Option FieldType} {nL d mc ms cells slots : Nat} {S : List Sh} {σ : Sg} {pc : Nat} (C : Ctx E Z own cc ret nL d mc ms) (hNm : Nm Z) {aty : ArrayType} {n : Int32} {N idx ci j k : Nat} {fin : Bool} {fks : List FK} {x : Sh} (hw : Cond.arrayClass (newarray.typeOf aty) ∈ lw_good) (hx0 : (x = .inr (.inl (newarray.typeOf aty, N)) ∧ ∀ cA : ClassId, vp_cell cA (N, .inl (fun _ => 0)) = arrV cA N (fun _ => defaultValue (newarray.typeOf aty))) ∨ (x = .inr (.inr (.inl N)) ∧ newarray.typeOf aty = .long)) (hcl : Cl S) (hn : ¬ n < 0) (hN : n.toNatClampNeg = N) (hb : N * componentBytes (newarray.typeOf aty) ≤ 536870912) (hc : cells + 1 ≤ mc) (hs : slots + N ≤ ms) (F : Flp own idx ci j (.array (newarray.typeOf aty)) fin) (hown1 : ∃ q : vw_C, vwCl[ci]? = some q ∧ q.1 = own) (hS : S[k]? = some (.inl (ci, fks))) (hj : fks[j]? = some (some none)) (hd : decode cc pc = .ok (.newarray aty, 2)) {pc' pc2 : Nat} (hp : pc + 2 = pc') (hd2 : decode cc pc' = .ok (.putfield idx, 3)) (hp2 : pc' + 3 = pc2) {S' : List Sh} (hS' : S' = (S ++ [x]).set k (.inl (ci, fks.set j (some (some (some S.length))))))
    (kk : ∀ E' : Ev, Ext E E' S.length → Ctx E' Z own cc ret nL d mc ms → Wm E' Z (cells + 1) (slots + N) S' (zi σ S.length) pc2 [(0, .ref k)] []) : Wm E Z cells slots S σ pc [(0, .ref k)] [.int n, .ref k] := by
  have hk := lt_of_get hS
  refine r_newa C hw hx0 hcl ⟨fun q hq => ?_, fun v hv => ?_⟩ hn hN hb hc hs hd hp (fun E' hX C2 => ?_)
  · rcases List.mem_cons.mp hq with rfl | hq
    · exact Or.inl hk
    · cases hq
  · rcases List.mem_cons.mp hv with rfl | hv
    · exact Or.inl hk
    · cases hv
  · exact r_putR (j := j) C2 hNm F hown1 (by rw [List.getElem?_append_left hk]; exact hS) hj (fun _ => rfl) (fun _ => rfl) hd2 hp2 hS' (kk E' hX C2)
theorem clX_arr {n : Nat} {t : FieldType} {N : Nat} : clX n (.inr (.inl (t, N))) := trivial
theorem cell_int (N : Nat) : ∀ cA : ClassId, vp_cell cA (N, .inl (fun _ => 0)) = arrV cA N (fun _ => defaultValue FieldType.int) := fun _ => rfl
theorem cell_char (N : Nat) : ∀ cA : ClassId, vp_cell cA (N, .inl (fun _ => 0)) = arrV cA N (fun _ => defaultValue FieldType.char) := fun _ => rfl
theorem cell_bool (N : Nat) : ∀ cA : ClassId, vp_cell cA (N, .inl (fun _ => 0)) = arrV cA N (fun _ => defaultValue FieldType.boolean) := fun _ => rfl
