/-! THE TEXT CONSTANT: its length and its signs. -/
def sLen : Int32 := Int32.ofNat q_bytes.length
def sAt (i : Int32) : Option Int32 := if ¬ i < 0 ∧ i.toNatClampNeg < q_bytes.length then some (q_bytes.getD i.toNatClampNeg 0) else none
section QText
variable {l : Launch} {d : Nat} {y : MethodName} {cc : ByteArray} {nL : Nat} {ret : Option FieldType} {r : Option Value} {h' : qH} {pc : Nat} {ls : List (Nat × Value)} {st : List Value} {h : qH}
theorem q_ldcS (hy : y.cls = RX6) (hd : decode cc pc = .ok (.ldc 87, 2)) (k : q_W l d y cc nL ret r h' (pc + 2) ls (.ref 1 :: st) h) : q_W l d y cc nL ret r h' pc ls st h :=
  k.go fun G p e R s m args below meth c H locs cells slots Q lc E hl _ _ kk => by
    obtain ⟨E1, E2, E3, E4, E5, E6, E7, E8, E9, E10, E11⟩ := id E
    exact va_ldcS E1 E2 E5 (by rw [hy]; exact E9.2.2.2.2.2.1) hd (kk lc hl)
end QText
def RJ0 : String := "java/lang/String"
abbrev cJ0_length : ByteArray := prog_20_method_54_code
def yJ0_length : MethodName := ⟨RJ0, "length", "()I"⟩
abbrev cJ0_charAt : ByteArray := prog_20_method_56_code
def yJ0_charAt : MethodName := ⟨RJ0, "charAt", "(I)C"⟩
abbrev cJ0_coder : ByteArray := prog_20_method_152_code
def yJ0_coder : MethodName := ⟨RJ0, "coder", "()B"⟩
abbrev cJ0_isLatin1 : ByteArray := prog_20_method_154_code
def yJ0_isLatin1 : MethodName := ⟨RJ0, "isLatin1", "()Z"⟩
abbrev cJ0_checkIndex : ByteArray := prog_20_method_155_code
def yJ0_checkIndex : MethodName := ⟨RJ0, "checkIndex", "(II)V"⟩
def RJ1 : String := "java/lang/StringLatin1"
abbrev cJ1_charAt : ByteArray := prog_21_method_2_code
def yJ1_charAt : MethodName := ⟨RJ1, "charAt", "([BI)C"⟩
def RJ3 : String := "jdk/internal/util/Preconditions"
abbrev cJ3_checkIndex : ByteArray := prog_27_method_11_code
def yJ3_checkIndex : MethodName := ⟨RJ3, "checkIndex", "(IILjava/util/function/BiFunction;)I"⟩
/-- a member of the library that reads the outside alone: what it needs, what it leaves -/
def t_P (G : qG) (as : List Value) : Array Value → State → Prop := fun v U => v = as.toArray ∧ (∀ q : Nat, q < q_base G → U.heap[q]? = G.2.2.1[q]?) ∧ q_K G U
def t_Q (r : Option Value) : Array Value → State → Outcome → State → Prop := fun _ st o t => o = .returned r ∧ t.heap = st.heap
def t_M (l : Launch) (d : Nat) (G : qG) (y : MethodName) (cc : ByteArray) (maxL : Nat) (ret : Option FieldType) (as : List Value) (r : Option Value) : Prop :=
  Met l y (.code y cc maxL ret :: q_tbl) { frames := d, cells := 0, slots := 0, locals := 60 * d } (t_P G as) (t_Q r) 0 0 (q_fr G)
theorem t_blind (G : qG) (as : List Value) : FrameBlind (t_P G as) := fun a U g mk q => ⟨q.1, q.2.1, q_K.warm (s := U) (U := U.calling g mk a) (State.WarmedH.refl U) q.2.2⟩
section TText
variable {l : Launch} {d : Nat} {G : qG}
theorem t_M.of {y : MethodName} {cc : ByteArray} {maxL : Nat} {ret : Option FieldType} {as : List Value} {r : Option Value} (hy : plainName y.cls = true) (hlen : (lg_sl as).length ≤ maxL)
    (k : ∀ (p : Program) (e : Env) (R : Room) (s : State) (m : MethodId) (args : Array Value) (below : List Frame) (meth : Method) (c : Code) (lc : Array Slot), q_Env G d y cc maxL ret p R s m args meth c → (∀ q : Nat, q < q_base G → s.heap[q]? = G.2.2.1[q]?) → lv_has lc maxL (lv_args 0 as) →
      W p l e R s m args below meth c s.heap [] 0 0 (MQ below (t_Q r) args s 0 0 (q_fr G)) (F0 m 0 lc [])) : t_M l d G y cc maxL ret as r := by
  refine Met.ofW (cc := cc) (maxL := maxL) (ret := ret) hy rfl ?_
  intro p e s m args below meth c s₁ B hml hv
  obtain ⟨rfl, ho, hK⟩ := hv
  have hts := atoms_spec (ws := .code y cc maxL ret :: q_tbl) B.pre
  have hnm : meth.name = y.name := (name_of_methodNamed B.named B.method).1
  have hl := lv_entry as (n := maxL) hlen
  rw [lg_entry_eq]
  generalize (lg_sl as ++ List.replicate (maxL - (lg_sl as).length) Slot.unset).toArray = lc at hl ⊢
  exact k p e _ s m _ below meth c lc ⟨B.exec, B.bytes, B.returns, hml, findClass_of_methodNamed B.named, B.notSynchronized, hnm, fun w hw => hts w (List.mem_cons_of_mem _ hw), hK, Nat.le_refl _, Nat.le_refl _⟩ ho hl
variable {p : Program} {e : Env} {R : Room} {s : State} {m : MethodId} {args : Array Value} {below : List Frame} {meth : Method} {c : Code} {H : Heap} {locs : List Loc} {cells slots : Nat} {Q : State → Prop} {y : MethodName} {cc : ByteArray} {nL : Nat} {ret : Option FieldType} {pc : Nat} {lc : Array Slot} {rest : List Value}
theorem t_after {st0 : List Value} {a2 : Array Value} {r2 : Option Value} (hr : va_Run p l e R s m args below meth c H locs cells slots 0 0 (F0 m pc lc st0) rest (t_Q r2 a2) (q_fr G)) (hlo : ∀ q ∈ locs, q_base G ≤ q.base)
    (k : ∀ locs1 : List Loc, (∀ q ∈ locs1, q_base G ≤ q.base) → W p l e R s m args below meth c H locs1 cells slots Q (F0 m (pc + 3) lc (r2.toList ++ rest))) : W p l e R s m args below meth c H locs cells slots Q (F0 m pc lc st0) := by
  intro T hT X
  obtain ⟨v, st₀, t, T', L, h0, X', hL, g1, g2, ⟨hv, hh⟩, stp⟩ := hr T hT X
  cases hv
  obtain ⟨t2, a1, b1⟩ := k (locs ++ L) (fun q hq => (List.mem_append.mp hq).elim (hlo q) (hL q)) T' (by rw [g1, hh, h0]) X'
  exact ⟨t2, stp t2 a1, b1⟩
/-- what is outside is as at the start -/
theorem t_S (ho : ∀ q : Nat, q < q_base G → s.heap[q]? = G.2.2.1[q]?) (hH : ∀ q : Nat, q < q_base G → H[q]? = G.2.2.1[q]?) (hz : s.heap.size ≤ H.size) (hlo : ∀ q ∈ locs, q_base G ≤ q.base) : va_S (q_fr G) s.heap H locs :=
  ⟨hz, fun q _ h2 => by rw [ho q (Nat.not_le.mp h2), hH q (Nat.not_le.mp h2)], hlo⟩
theorem t_kept (ho : ∀ q : Nat, q < q_base G → s.heap[q]? = G.2.2.1[q]?) : ∀ a : Nat, a < G.2.2.1.size → ¬ q_fr G a → s.heap[a]? = G.2.2.1[a]? := fun a _ h2 => ho a (Nat.not_le.mp h2)
theorem t_str (hK : q_K G s) (ho : ∀ q : Nat, q < q_base G → s.heap[q]? = G.2.2.1[q]?) : vk_S 1 [q_bytes.length] [q_bytes] (fun _ => G.2.1.2.1) (fun _ => G.2.1.2.2) (q_fr G) s s.heap := hK.2.2.2.2.2.2.1.kept (t_kept ho)
theorem t_cmp (hK : q_K G s) (ho : ∀ q : Nat, q < q_base G → s.heap[q]? = G.2.2.1[q]?) : va_Z "java/lang/String" "COMPACT_STRINGS" "Z" (.int 1) (q_fr G) s s.heap := hK.2.2.2.2.2.2.2.1.kept (t_kept ho)
theorem t_fmt (hK : q_K G s) (ho : ∀ q : Nat, q < q_base G → s.heap[q]? = G.2.2.1[q]?) : va_Zq "jdk/internal/util/Preconditions" "SIOOBE_FORMATTER" "Ljava/util/function/BiFunction;" (q_fr G) s s.heap := hK.2.2.2.2.2.2.2.2.1.kept (t_kept ho)
end TText
theorem kYt_length : q_Y yJ0_length cJ0_length 1 (some .int) 0 := ⟨q_pl 383 rfl rfl, q_pl 12 rfl rfl, by decide, by decide +kernel⟩
theorem kYt_charAt : q_Y yJ0_charAt cJ0_charAt 2 (some .char) 1 := ⟨q_pl 393 rfl rfl, q_pl 12 rfl rfl, by decide, by decide +kernel⟩
theorem kYt_coder : q_Y yJ0_coder cJ0_coder 1 (some .byte) 0 := ⟨q_pl 387 rfl rfl, q_pl 12 rfl rfl, by decide, by decide +kernel⟩
theorem kYt_isLatin1 : q_Y yJ0_isLatin1 cJ0_isLatin1 1 (some .boolean) 0 := ⟨q_pl 397 rfl rfl, q_pl 12 rfl rfl, by decide, by decide +kernel⟩
theorem kYt_checkIndex : q_Y yJ0_checkIndex cJ0_checkIndex 2 none 2 := ⟨q_pl 403 rfl rfl, q_pl 12 rfl rfl, by decide, by decide +kernel⟩
theorem kYt_charAt1 : q_Y yJ1_charAt cJ1_charAt 2 (some .char) 2 := ⟨q_pl 400 rfl rfl, q_pl 13 rfl rfl, by decide, by decide +kernel⟩
theorem kYt_pre : q_Y yJ3_checkIndex cJ3_checkIndex 3 (some .int) 3 := ⟨q_pl 408 rfl rfl, q_pl 14 rfl rfl, by decide, by decide +kernel⟩
section TCall
variable {l : Launch} {d : Nat} {G : qG} {p : Program} {e : Env} {R : Room} {s : State} {m : MethodId} {args : Array Value} {below : List Frame} {meth : Method} {c : Code} {H : Heap} {locs : List Loc} {cells slots : Nat} {Q : State → Prop} {y : MethodName} {cc : ByteArray} {nL : Nat} {ret : Option FieldType} {pc : Nat} {lc : Array Slot} {rest : List Value}
set_option maxHeartbeats 1000000 in
theorem t_callS {i n d2 maxL2 : Nat} {y2 : MethodName} {cc2 : ByteArray} {ret2 : Option FieldType} {as : List Value} {r2 : Option Value} (E : q_Env G d y cc nL ret p R s m args meth c) (hH : ∀ q : Nat, q < q_base G → H[q]? = G.2.2.1[q]?) (hlo : ∀ q ∈ locs, q_base G ≤ q.base) (hl : lc.size = nL) (hc : cells ≤ R.cells) (hsl : slots ≤ R.slots)
    (hY : q_Y y2 cc2 maxL2 ret2 n) (hs : Cond.static y2 ∈ q_tbl) (hk : Cond.methodLink y.cls i y2 ∈ q_tbl) (hM : t_M l d2 G y2 cc2 maxL2 ret2 as r2) (hdd : d2 + 1 ≤ d) (hn : as.length = n) (hw : (rest.map fun v => v.category).sum ≤ 8) (hd : decode cc pc = .ok (.invokestatic i, 3))
    (k : ∀ locs1 : List Loc, (∀ q ∈ locs1, q_base G ≤ q.base) → W p l e R s m args below meth c H locs1 cells slots Q (F0 m (pc + 3) lc (r2.toList ++ rest))) : W p l e R s m args below meth c H locs cells slots Q (F0 m pc lc (as.reverse ++ rest)) := by
  obtain ⟨E1, E2, E3, E4, E5, E6, E7, E8, E9, E10, E11⟩ := id E
  obtain ⟨y1, y3, y4, y5⟩ := hY
  have hG := q_tbl_good _ y1
  have hroom : d2 + 1 ≤ R.frames ∧ 8 + (maxL2 + 11) + 60 * d2 ≤ R.locals := ⟨by omega, by omega⟩
  refine t_after (va_runS (bytes := cc2) (maxL := maxL2) (ret := ret2) (n := n) ⟨E1, E2, E4, E5, E8⟩ hM ⟨callB_of n E8 hG rfl rfl rfl (E8 _ y3) (E8 _ hk) y5 hroom, E8 _ hs⟩ ⟨t_blind _ _, fun U hU hW => ⟨rfl, by rw [hU]; exact hH, E9.warm hW⟩⟩ rfl hn hl rfl (by show 2 * 0 + _ ≤ 8; omega) hd ⟨by omega, by omega⟩) hlo k
set_option maxHeartbeats 1000000 in
theorem t_callV {i n d2 maxL2 : Nat} {y2 : MethodName} {cc2 : ByteArray} {ret2 : Option FieldType} {as : List Value} {o : Nat} {r2 : Option Value} (E : q_Env G d y cc nL ret p R s m args meth c) (hH : ∀ q : Nat, q < q_base G → H[q]? = G.2.2.1[q]?) (hlo : ∀ q ∈ locs, q_base G ≤ q.base) (hl : lc.size = nL) (hc : cells ≤ R.cells) (hsl : slots ≤ R.slots)
    (hY : q_Y y2 cc2 maxL2 ret2 n) (hin : Cond.instanceMethod y2 ∈ q_tbl) (hsel : Cond.selects y2.cls y2 y2 ∈ q_tbl) (hk : Cond.methodLink y.cls i y2 ∈ q_tbl) (hrecv : ∃ cellB : Cell, H[o]? = some cellB ∧ cellB.vm.isStatics = false ∧ s.vm.findClass y2.cls = some cellB.cls) (hM : t_M l d2 G y2 cc2 maxL2 ret2 (.ref o :: as) r2) (hdd : d2 + 1 ≤ d) (hn : as.length = n) (hw : (rest.map fun v => v.category).sum ≤ 8) (hd : decode cc pc = .ok (.invokevirtual i, 3))
    (k : ∀ locs1 : List Loc, (∀ q ∈ locs1, q_base G ≤ q.base) → W p l e R s m args below meth c H locs1 cells slots Q (F0 m (pc + 3) lc (r2.toList ++ rest))) : W p l e R s m args below meth c H locs cells slots Q (F0 m pc lc (as.reverse ++ .ref o :: rest)) := by
  obtain ⟨E1, E2, E3, E4, E5, E6, E7, E8, E9, E10, E11⟩ := id E
  obtain ⟨y1, y3, y4, y5⟩ := hY
  have hG := q_tbl_good _ y1
  have hroom : d2 + 1 ≤ R.frames ∧ 8 + (maxL2 + 11) + 60 * d2 ≤ R.locals := ⟨by omega, by omega⟩
  refine t_after (va_runV (C := y2.cls) (bytes := cc2) (maxL := maxL2) (ret := ret2) (n := n) ⟨E1, E2, E4, E5, E8⟩ hM ⟨callB_of n E8 hG rfl rfl rfl (E8 _ y3) (E8 _ hk) y5 hroom, E8 _ hin, E8 _ hsel⟩ ⟨t_blind _ _, hrecv, fun U hU hW => ⟨rfl, by rw [hU]; exact hH, E9.warm hW⟩⟩ rfl hn hl rfl (by show 2 * 0 + _ ≤ 8; omega) hd ⟨by omega, by omega⟩) hlo k
end TCall
theorem t_len3 {x z : Int32} {f : Value} (hf : f.category = 1) : (lg_sl [.int x, .int z, f]).length ≤ 3 := by
  have hx : ∀ w : Int32, (Value.int w).category = 1 := fun _ => rfl
  simp [lg_sl, hx, hf]
section TMeths
variable {l : Launch} {G : qG}
set_option maxHeartbeats 1000000 in
theorem okT_coder : t_M l 1 G yJ0_coder cJ0_coder 1 (some .byte) [.ref G.2.1.2.1] (some (.int 0)) := by
  refine t_M.of (by decide) (Nat.le_of_ble_eq_true rfl) ?_
  intro p e R s m args below meth c lc E ho hl
  obtain ⟨E1, E2, E3, E4, E5, E6, E7, E8, E9, E10, E11⟩ := id E
  have hS : va_S (q_fr G) s.heap s.heap [] := va_S.rf
  have hstr := (t_str E9 ho).1 0 (by decide)
  refine va_gets E1 E2 (t_cmp E9 ho) hS E5 (E8 _ (q_pl 388 rfl rfl)) (fun _ h => h) (show decode cJ0_coder 0 = .ok (.getstatic 38, 3) by decide +kernel) ?_
  refine lv_if_eq (tgt := 13) E1 E2 (show decode cJ0_coder 3 = .ok (.ifCond .eq 10, 3) by decide +kernel) (by decide) (fun c0 => absurd c0 (by decide)) (fun _ => ?_)
  refine lv_aload_n E1 E2 (show decode cJ0_coder 6 = .ok (.aload_n 0, 1) by decide +kernel) rfl (lv_at hl 0 rfl) ?_
  refine vk_getf E1 E2 hstr.2.1 hS E5 (E8 _ (q_p7 210 rfl rfl)) (fun _ h => h) (show decode cJ0_coder 7 = .ok (.getfield 15, 3) by decide +kernel) ?_
  refine lv_goto (tgt := 14) E1 E2 (show decode cJ0_coder 10 = .ok (.goto 4, 3) by decide +kernel) (by decide) ?_
  exact W.zret E1 E2 E3 rfl (fun t ht hW => ⟨rfl, ht⟩) (fun q hq => by cases hq) (show decode cJ0_coder 14 = .ok (.ireturn, 1) by decide +kernel) E6
set_option maxHeartbeats 1000000 in
theorem okT_isLatin1 : t_M l 1 G yJ0_isLatin1 cJ0_isLatin1 1 (some .boolean) [.ref G.2.1.2.1] (some (.int 1)) := by
  refine t_M.of (by decide) (Nat.le_of_ble_eq_true rfl) ?_
  intro p e R s m args below meth c lc E ho hl
  obtain ⟨E1, E2, E3, E4, E5, E6, E7, E8, E9, E10, E11⟩ := id E
  have hS : va_S (q_fr G) s.heap s.heap [] := va_S.rf
  have hstr := (t_str E9 ho).1 0 (by decide)
  refine va_gets E1 E2 (t_cmp E9 ho) hS E5 (E8 _ (q_pl 388 rfl rfl)) (fun _ h => h) (show decode cJ0_isLatin1 0 = .ok (.getstatic 38, 3) by decide +kernel) ?_
  refine lv_if_eq (tgt := 17) E1 E2 (show decode cJ0_isLatin1 3 = .ok (.ifCond .eq 14, 3) by decide +kernel) (by decide) (fun c0 => absurd c0 (by decide)) (fun _ => ?_)
  refine lv_aload_n E1 E2 (show decode cJ0_isLatin1 6 = .ok (.aload_n 0, 1) by decide +kernel) rfl (lv_at hl 0 rfl) ?_
  refine vk_getf E1 E2 hstr.2.1 hS E5 (E8 _ (q_p7 210 rfl rfl)) (fun _ h => h) (show decode cJ0_isLatin1 7 = .ok (.getfield 15, 3) by decide +kernel) ?_
  refine lv_if_ne (tgt := 17) E1 E2 (show decode cJ0_isLatin1 10 = .ok (.ifCond .ne 7, 3) by decide +kernel) (by decide) (fun c0 => absurd rfl c0) (fun _ => ?_)
  refine lv_iconst (v := 1) E1 E2 (show decode cJ0_isLatin1 13 = .ok (.iconst 1, 1) by decide +kernel) (by decide) ?_
  refine lv_goto (tgt := 18) E1 E2 (show decode cJ0_isLatin1 14 = .ok (.goto 4, 3) by decide +kernel) (by decide) ?_
  exact W.zret E1 E2 E3 rfl (fun t ht hW => ⟨rfl, ht⟩) (fun q hq => by cases hq) (show decode cJ0_isLatin1 18 = .ok (.ireturn, 1) by decide +kernel) E6
set_option maxHeartbeats 1000000 in
theorem okT_length : t_M l 2 G yJ0_length cJ0_length 1 (some .int) [.ref G.2.1.2.1] (some (.int sLen)) := by
  refine t_M.of (by decide) (Nat.le_of_ble_eq_true rfl) ?_
  intro p e R s m args below meth c lc E ho hl
  obtain ⟨E1, E2, E3, E4, E5, E6, E7, E8, E9, E10, E11⟩ := id E
  have hS : va_S (q_fr G) s.heap s.heap [] := va_S.rf
  have hstr := (t_str E9 ho).1 0 (by decide)
  obtain ⟨cb, b1, b2, b3, b4, b5, b6, -⟩ := hstr.2.2.2
  rw [List.getD_cons_zero] at b4 b5
  simp only [List.getD_cons_zero] at b6
  refine lv_aload_n E1 E2 (show decode cJ0_length 0 = .ok (.aload_n 0, 1) by decide +kernel) rfl (lv_at hl 0 rfl) ?_
  refine vk_getf E1 E2 hstr.2.2.1 hS E5 (E8 _ (q_p7 209 rfl rfl)) (fun _ h => h) (show decode cJ0_length 1 = .ok (.getfield 9, 3) by decide +kernel) ?_
  refine W.alen (n := sLen) E1 E2 b1 b2 b5 rfl rfl (show decode cJ0_length 4 = .ok (.arraylength, 1) by decide +kernel) ?_
  refine lv_aload_n E1 E2 (show decode cJ0_length 5 = .ok (.aload_n 0, 1) by decide +kernel) rfl (lv_at hl 0 rfl) ?_
  refine t_callV (as := []) (rest := [.int sLen]) E ho (fun q hq => by cases hq) hl.1 (Nat.zero_le _) (Nat.zero_le _) kYt_coder (q_pl 385 rfl rfl) (q_pl 386 rfl rfl) (q_pl 384 rfl rfl) (vk_recv (t_str E9 ho) (i := 0) (by decide) hS) okT_coder (by decide) rfl (by decide) (show decode cJ0_length 6 = .ok (.invokevirtual 335, 3) by decide +kernel) (fun locs1 hlo => ?_)
  refine lv_ishr (rest := []) E1 E2 (x := sLen) (y := 0) (show decode cJ0_length 9 = .ok (.ishr, 1) by decide +kernel) ?_
  exact W.zret (v := sLen >>> (0 &&& 31)) E1 E2 E3 rfl (fun t ht hW => ⟨by rw [show sLen >>> ((0 : Int32) &&& 31) = sLen by decide +kernel], ht⟩) hlo (show decode cJ0_length 10 = .ok (.ireturn, 1) by decide +kernel) E6
set_option maxHeartbeats 1000000 in
theorem okT_pre {x z : Int32} {f : Value} (hf : f.category = 1) (h0 : ¬ x < 0) (h1 : x < z) : t_M l 1 G yJ3_checkIndex cJ3_checkIndex 3 (some .int) [.int x, .int z, f] (some (.int x)) := by
  refine t_M.of (by decide) (t_len3 hf) ?_
  intro p e R s m args below meth c lc E ho hl
  obtain ⟨E1, E2, E3, E4, E5, E6, E7, E8, E9, E10, E11⟩ := id E
  refine lv_iload_n E1 E2 (show decode cJ3_checkIndex 0 = .ok (.iload_n 0, 1) by decide +kernel) rfl (lv_at hl 0 rfl) ?_
  refine lv_if_lt (tgt := 9) E1 E2 (show decode cJ3_checkIndex 1 = .ok (.ifCond .lt 8, 3) by decide +kernel) (by decide) (fun c0 => absurd c0 h0) (fun _ => ?_)
  refine lv_iload_n E1 E2 (show decode cJ3_checkIndex 4 = .ok (.iload_n 0, 1) by decide +kernel) rfl (lv_at hl 0 rfl) ?_
  refine lv_iload_n E1 E2 (show decode cJ3_checkIndex 5 = .ok (.iload_n 1, 1) by decide +kernel) rfl (lv_at hl 1 rfl) ?_
  refine lv_icmp_lt (tgt := 16) E1 E2 (show decode cJ3_checkIndex 6 = .ok (.if_icmp .lt 10, 3) by decide +kernel) (by decide) (fun _ => ?_) (fun c0 => absurd h1 c0)
  refine lv_iload_n E1 E2 (show decode cJ3_checkIndex 16 = .ok (.iload_n 0, 1) by decide +kernel) rfl (lv_at hl 0 rfl) ?_
  exact W.zret E1 E2 E3 rfl (fun t ht hW => ⟨rfl, ht⟩) (fun q hq => by cases hq) (show decode cJ3_checkIndex 17 = .ok (.ireturn, 1) by decide +kernel) E6
set_option maxHeartbeats 1000000 in
theorem okT_checkIndex {x z : Int32} (h0 : ¬ x < 0) (h1 : x < z) : t_M l 2 G yJ0_checkIndex cJ0_checkIndex 2 none [.int x, .int z] none := by
  refine t_M.of (by decide) (Nat.le_of_ble_eq_true rfl) ?_
  intro p e R s m args below meth c lc E ho hl
  obtain ⟨E1, E2, E3, E4, E5, E6, E7, E8, E9, E10, E11⟩ := id E
  have hS : va_S (q_fr G) s.heap s.heap [] := va_S.rf
  refine lv_iload_n E1 E2 (show decode cJ0_checkIndex 0 = .ok (.iload_n 0, 1) by decide +kernel) rfl (lv_at hl 0 rfl) ?_
  refine lv_iload_n E1 E2 (show decode cJ0_checkIndex 1 = .ok (.iload_n 1, 1) by decide +kernel) rfl (lv_at hl 1 rfl) ?_
  obtain ⟨f, hf, hZ⟩ : ∃ f : Value, f.category = 1 ∧ va_Z "jdk/internal/util/Preconditions" "SIOOBE_FORMATTER" "Ljava/util/function/BiFunction;" f (q_fr G) s s.heap := by
    rcases t_fmt E9 ho with z | ⟨t, z⟩
    · exact ⟨.null, rfl, z⟩
    · exact ⟨.ref t, rfl, z⟩
  refine va_gets E1 E2 hZ hS E5 (E8 _ (q_pl 404 rfl rfl)) (fun _ h => h) (show decode cJ0_checkIndex 2 = .ok (.getstatic 1053, 3) by decide +kernel) ?_
  refine t_callS (as := [.int x, .int z, f]) (rest := []) E ho (fun q hq => by cases hq) hl.1 (Nat.zero_le _) (Nat.zero_le _) kYt_pre (q_pl 407 rfl rfl) (q_pl 406 rfl rfl) (okT_pre hf h0 h1) (by decide) rfl (by decide) (show decode cJ0_checkIndex 5 = .ok (.invokestatic 1059, 3) by decide +kernel) (fun locs1 hlo => ?_)
  refine lv_pop (va := .int x) (rest := []) E1 E2 (show decode cJ0_checkIndex 8 = .ok (.pop, 1) by decide +kernel) rfl ?_
  exact W.vret E1 E2 E3 (fun t ht hW => ⟨rfl, ht⟩) hlo (show decode cJ0_checkIndex 9 = .ok (.return_, 1) by decide +kernel) E6
theorem t_ascii : ∀ k, k < q_bytes.length → ((q_bytes.getD k 0 &&& 255).toUInt32 % 65536).toInt32 = q_bytes.getD k 0 ∧ narrow .char (.int (q_bytes.getD k 0)) = .int (q_bytes.getD k 0) := by decide +kernel
set_option maxHeartbeats 1000000 in
theorem okT_charAt1 {x : Int32} (h0 : ¬ x < 0) (h1 : x.toNatClampNeg < q_bytes.length) (h2 : x < sLen) : t_M l 3 G yJ1_charAt cJ1_charAt 2 (some .char) [.ref G.2.1.2.2, .int x] (some (.int (q_bytes.getD x.toNatClampNeg 0))) := by
  refine t_M.of (by decide) (Nat.le_of_ble_eq_true rfl) ?_
  intro p e R s m args below meth c lc E ho hl
  obtain ⟨E1, E2, E3, E4, E5, E6, E7, E8, E9, E10, E11⟩ := id E
  have hS : va_S (q_fr G) s.heap s.heap [] := va_S.rf
  have hstr := (t_str E9 ho).1 0 (by decide)
  obtain ⟨cb, b1, b2, b3, b4, b5, b6, -⟩ := hstr.2.2.2
  rw [List.getD_cons_zero] at b4 b5
  simp only [List.getD_cons_zero] at b6
  refine lv_iload_n E1 E2 (show decode cJ1_charAt 0 = .ok (.iload_n 1, 1) by decide +kernel) rfl (lv_at hl 1 rfl) ?_
  refine lv_aload_n E1 E2 (show decode cJ1_charAt 1 = .ok (.aload_n 0, 1) by decide +kernel) rfl (lv_at hl 0 rfl) ?_
  refine W.alen (n := sLen) E1 E2 b1 b2 b5 rfl rfl (show decode cJ1_charAt 2 = .ok (.arraylength, 1) by decide +kernel) ?_
  refine t_callS (as := [.int x, .int sLen]) (rest := []) E ho (fun q hq => by cases hq) hl.1 (Nat.zero_le _) (Nat.zero_le _) kYt_checkIndex (q_pl 402 rfl rfl) (q_pl 401 rfl rfl) (okT_checkIndex h0 h2) (by decide) rfl (by decide) (show decode cJ1_charAt 3 = .ok (.invokestatic 9, 3) by decide +kernel) (fun locs1 hlo => ?_)
  refine lv_aload_n (rest := []) E1 E2 (show decode cJ1_charAt 6 = .ok (.aload_n 0, 1) by decide +kernel) rfl (lv_at hl 0 rfl) ?_
  refine lv_iload_n E1 E2 (show decode cJ1_charAt 7 = .ok (.iload_n 1, 1) by decide +kernel) rfl (lv_at hl 1 rfl) ?_
  refine W.bald E1 E2 b1 b2 b3 (fun q => q.elim h0 (fun z => by omega)) (b6 _ h1) rfl rfl (show decode cJ1_charAt 8 = .ok (.baload, 1) by decide +kernel) ?_
  refine lv_sipush (v := 255) E1 E2 (show decode cJ1_charAt 9 = .ok (.sipush 255, 3) by decide +kernel) (by decide) ?_
  refine lv_iand E1 E2 (show decode cJ1_charAt 12 = .ok (.iand, 1) by decide +kernel) ?_
  refine lv_i2c E1 E2 (show decode cJ1_charAt 13 = .ok (.i2c, 1) by decide +kernel) (t_ascii _ h1).1 ?_
  exact W.zret E1 E2 E3 (t_ascii _ h1).2 (fun t ht hW => ⟨rfl, ht⟩) hlo (show decode cJ1_charAt 14 = .ok (.ireturn, 1) by decide +kernel) E6
set_option maxHeartbeats 1000000 in
theorem okT_charAt {x : Int32} (h0 : ¬ x < 0) (h1 : x.toNatClampNeg < q_bytes.length) (h2 : x < sLen) : t_M l 4 G yJ0_charAt cJ0_charAt 2 (some .char) [.ref G.2.1.2.1, .int x] (some (.int (q_bytes.getD x.toNatClampNeg 0))) := by
  refine t_M.of (by decide) (Nat.le_of_ble_eq_true rfl) ?_
  intro p e R s m args below meth c lc E ho hl
  obtain ⟨E1, E2, E3, E4, E5, E6, E7, E8, E9, E10, E11⟩ := id E
  have hS : va_S (q_fr G) s.heap s.heap [] := va_S.rf
  have hstr := (t_str E9 ho).1 0 (by decide)
  refine lv_aload_n E1 E2 (show decode cJ0_charAt 0 = .ok (.aload_n 0, 1) by decide +kernel) rfl (lv_at hl 0 rfl) ?_
  refine t_callV (as := []) (rest := []) E ho (fun q hq => by cases hq) hl.1 (Nat.zero_le _) (Nat.zero_le _) kYt_isLatin1 (q_pl 395 rfl rfl) (q_pl 396 rfl rfl) (q_pl 394 rfl rfl) (vk_recv (t_str E9 ho) (i := 0) (by decide) hS) okT_isLatin1 (by decide) rfl (by decide) (show decode cJ0_charAt 1 = .ok (.invokevirtual 492, 3) by decide +kernel) (fun locs1 hlo => ?_)
  refine lv_if_eq (x := 1) (rest := []) (tgt := 16) E1 E2 (show decode cJ0_charAt 4 = .ok (.ifCond .eq 12, 3) by decide +kernel) (by decide) (fun c0 => absurd c0 (by decide)) (fun _ => ?_)
  refine lv_aload_n E1 E2 (show decode cJ0_charAt 7 = .ok (.aload_n 0, 1) by decide +kernel) rfl (lv_at hl 0 rfl) ?_
  refine vk_getf E1 E2 hstr.2.2.1 (t_S ho ho (Nat.le_refl _) hlo) E5 (E8 _ (q_p7 209 rfl rfl)) (fun _ h => h) (show decode cJ0_charAt 8 = .ok (.getfield 9, 3) by decide +kernel) ?_
  refine lv_iload_n E1 E2 (show decode cJ0_charAt 11 = .ok (.iload_n 1, 1) by decide +kernel) rfl (lv_at hl 1 rfl) ?_
  refine t_callS (as := [.ref G.2.1.2.2, .int x]) (rest := []) E ho hlo hl.1 (Nat.zero_le _) (Nat.zero_le _) kYt_charAt1 (q_pl 399 rfl rfl) (q_pl 398 rfl rfl) (okT_charAt1 h0 h1 h2) (by decide) rfl (by decide) (show decode cJ0_charAt 12 = .ok (.invokestatic 495, 3) by decide +kernel) (fun locs2 hlo => ?_)
  exact W.zret (v := q_bytes.getD x.toNatClampNeg 0) E1 E2 E3 (t_ascii _ h1).2 (fun t ht hW => ⟨rfl, ht⟩) hlo (show decode cJ0_charAt 15 = .ok (.ireturn, 1) by decide +kernel) E6
end TMeths
section QText2
variable {l : Launch} {d : Nat} {y : MethodName} {cc : ByteArray} {nL : Nat} {ret : Option FieldType} {r : Option Value} {h' : qH} {pc : Nat} {ls : List (Nat × Value)} {st : List Value} {h : qH}
theorem t_recv {G : qG} {s : State} {H : Heap} (hK : q_K G s) (hR : q_R G s h H) : ∃ cellB : Cell, H[G.2.1.2.1]? = some cellB ∧ cellB.vm.isStatics = false ∧ s.vm.findClass "java/lang/String" = some cellB.cls := by
  obtain ⟨ce, h1, h2, h3, h4⟩ := (hK.2.2.2.2.2.2.1.1 0 (by decide)).1
  exact ⟨ce, by rw [hR.2.1 _ (Nat.not_le.mp h4)]; exact h1, h2, h3⟩
theorem q_slen {i : Nat} (hk : Cond.methodLink y.cls i ⟨"java/lang/String", "length", "()I"⟩ ∈ q_tbl) (hd0 : 8 ≤ d) (hw : (st.map fun v => v.category).sum ≤ 8) (hd : decode cc pc = .ok (.invokevirtual i, 3)) (k : q_W l d y cc nL ret r h' (pc + 3) ls (.int sLen :: st) h) : q_W l d y cc nL ret r h' pc ls (.ref 1 :: st) h := by
  intro h2
  obtain ⟨k1, k2, k3⟩ := k h2
  refine ⟨k1, k2, fun G p e R s m args below meth c E H locs cells slots mc ms lc hR hlo e1 e2 e3 e4 hl => ?_⟩
  exact t_callV (as := []) (rest := st.map (q_v G)) (y2 := yJ0_length) E hR.2.1 hlo hl.1 (by omega) (by omega) kYt_length (q_pl 381 rfl rfl) (q_pl 382 rfl rfl) hk (t_recv E.2.2.2.2.2.2.2.2.1 hR) okT_length (by omega) rfl (by rw [q_catsum]; exact hw) hd (fun locs1 hlo1 => k3 G p e R s m args below meth c E H locs1 cells slots mc ms lc hR hlo1 e1 e2 e3 e4 hl)
theorem q_sat {i : Nat} {x z : Int32} (hk : Cond.methodLink y.cls i ⟨"java/lang/String", "charAt", "(I)C"⟩ ∈ q_tbl) (hd0 : 8 ≤ d) (hw : (st.map fun v => v.category).sum ≤ 8) (hd : decode cc pc = .ok (.invokevirtual i, 3)) (hv : sAt x = some z) (k : q_W l d y cc nL ret r h' (pc + 3) ls (.int z :: st) h) : q_W l d y cc nL ret r h' pc ls (.int x :: .ref 1 :: st) h := by
  unfold sAt at hv
  split at hv
  · rename_i hc
    obtain ⟨h0, h1⟩ := hc
    obtain rfl := Option.some.inj hv
    have h3 : x < sLen := by
      rw [Int32.lt_iff_toInt_lt]
      have e1 : sLen.toInt = (q_bytes.length : Int) := by decide +kernel
      have e2 : x.toInt = (x.toNatClampNeg : Int) := by
        have : 0 ≤ x.toInt := by
          have := Int32.not_lt.mp h0
          simpa using Int32.le_iff_toInt_le.mp this
        show x.toInt = ((x.toInt.toNat : Nat) : Int)
        omega
      rw [e1, e2]
      exact Int.ofNat_lt.mpr h1
    intro h2
    obtain ⟨k1, k2, k3⟩ := k h2
    refine ⟨k1, k2, fun G p e R s m args below meth c E H locs cells slots mc ms lc hR hlo e1 e2 e3 e4 hl => ?_⟩
    exact t_callV (as := [.int x]) (rest := st.map (q_v G)) (y2 := yJ0_charAt) E hR.2.1 hlo hl.1 (by omega) (by omega) kYt_charAt (q_pl 391 rfl rfl) (q_pl 392 rfl rfl) hk (t_recv E.2.2.2.2.2.2.2.2.1 hR) (okT_charAt h0 h1 h3) (by omega) rfl (by rw [q_catsum]; exact hw) hd (fun locs1 hlo1 => k3 G p e R s m args below meth c E H locs1 cells slots mc ms lc hR hlo1 e1 e2 e3 e4 hl)
  · cases hv
end QText2
