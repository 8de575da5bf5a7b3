/-! THE TEXT CONSTANT: its length and its signs. -/
def sLen : Int32 := Int32.ofNat q_bytes.length
def sAt (i : Int32) : Option Int32 := if ¬ i < 0 ∧ i.toNatClampNeg < q_bytes.length then some (q_bytes.getD i.toNatClampNeg 0) else none
section QText
variable {l : Launch} {d : Nat} {y : MethodName} {cc : ByteArray} {nL : Nat} {ret : Option FieldType} {r : Option Value} {h' : qH} {pc : Nat} {ls : List (Nat × Value)} {st : List Value} {h : qH}
theorem q_ldcS (hy : y.cls = RX6) (hd : decode cc pc = .ok (.ldc 87, 2)) (k : q_W l d y cc nL ret r h' (pc + 2) ls (.ref 1 :: st) h) : q_W l d y cc nL ret r h' pc ls st h :=
  k.go fun G p e R s m args below meth c H locs cells slots Q lc E hl _ _ kk => by
    obtain ⟨E1, E2, E3, E4, E5, E6, E7, E8, E9, E10, E11⟩ := id E
    exact va_ldcS E1 E2 E5 (by rw [hy]; exact E9.2.2.2.2.2.1) hd (kk lc hl)
theorem q_slen {i : Nat} (hk : Cond.methodLink y.cls i ⟨"java/lang/String", "length", "()I"⟩ ∈ q_tbl) (hd0 : 8 ≤ d) (hd : decode cc pc = .ok (.invokevirtual i, 3)) (k : q_W l d y cc nL ret r h' (pc + 3) ls (.int sLen :: st) h) : q_W l d y cc nL ret r h' pc ls (.ref 1 :: st) h := sorry
theorem q_sat {i : Nat} {x z : Int32} (hk : Cond.methodLink y.cls i ⟨"java/lang/String", "charAt", "(I)C"⟩ ∈ q_tbl) (hd0 : 8 ≤ d) (hd : decode cc pc = .ok (.invokevirtual i, 3)) (hv : sAt x = some z) (k : q_W l d y cc nL ret r h' (pc + 3) ls (.int z :: st) h) : q_W l d y cc nL ret r h' pc ls (.int x :: .ref 1 :: st) h := sorry
end QText
