/-! ===== new int[9][21] ===== -/
def mnaS (n : Nat) : List Sh := .inr (.inr (.inr (.array .int, (List.range 9).map (fun i => some (n + 1 + i))))) :: List.replicate 9 (.inr (.inl (.int, 21)))
def mnaG (σ : Sg) (n : Nat) : Sg := (List.range 10).foldl (fun z i => zi z (n + i)) σ
theorem r_mna {E : Ev} {Z : Zx} {cc : ByteArray} {ret : Option FieldType} {nL d mc ms cells slots : Nat} {S : List Sh} {σ : Sg} {pc : Nat} {lv : List (Nat × Value)} {st : List Value} (C : Ctx E Z RX7 cc ret nL d mc ms) (hNm : Nm Z) (hcl : Cl S) (hl : S.length + 10 < 900) (hok : okV S.length lv st) (hc : cells + 10 ≤ mc) (hs : slots + 198 ≤ ms) (hd : decode cc pc = .ok (.multianewarray 21 2, 4)) {pc' : Nat} (hp : pc + 4 = pc')
    (kk : ∀ E' : Ev, Ext E E' S.length → Ctx E' Z RX7 cc ret nL d mc ms → Wm E' Z (cells + 10) (slots + 198) (S ++ mnaS S.length) (mnaG σ S.length) pc' lv (.ref S.length :: st)) : Wm E Z cells slots S σ pc lv (.int 21 :: .int 9 :: st) := sorry
