def RJ0 : String := "java/lang/String"
abbrev cJ0_length : ByteArray := prog_20_method_54_code
def yJ0_length : MethodName := ⟨RJ0, "length", "()I"⟩
abbrev cJ0_charAt : ByteArray := prog_20_method_56_code
def yJ0_charAt : MethodName := ⟨RJ0, "charAt", "(I)C"⟩
abbrev cJ0_coder : ByteArray := prog_20_method_152_code
def yJ0_coder : MethodName := ⟨RJ0, "coder", "()B"⟩
abbrev cJ0_isLatin1 : ByteArray := prog_20_method_154_code
def yJ0_isLatin1 : MethodName := ⟨RJ0, "isLatin1", "()Z"⟩
abbrev cJ0_checkIndex : ByteArray := prog_20_method_155_code
def yJ0_checkIndex : MethodName := ⟨RJ0, "checkIndex", "(II)V"⟩
def RJ1 : String := "java/lang/StringLatin1"
abbrev cJ1_charAt : ByteArray := prog_21_method_2_code
def yJ1_charAt : MethodName := ⟨RJ1, "charAt", "([BI)C"⟩
def RJ3 : String := "jdk/internal/util/Preconditions"
abbrev cJ3_checkIndex : ByteArray := prog_27_method_11_code
def yJ3_checkIndex : MethodName := ⟨RJ3, "checkIndex", "(IILjava/util/function/BiFunction;)I"⟩
/-- a member of the library that reads the outside alone: what it needs, what it leaves -/
def t_P (G : qG) (as : List Value) : Array Value → State → Prop := fun v U => v = as.toArray ∧ (∀ q : Nat, q < q_base G → U.heap[q]? = G.2.2.1[q]?) ∧ q_K G U
def t_Q (r : Option Value) : Array Value → State → Outcome → State → Prop := fun _ st o t => o = .returned r ∧ t.heap = st.heap
def t_M (l : Launch) (d : Nat) (G : qG) (y : MethodName) (cc : ByteArray) (maxL : Nat) (ret : Option FieldType) (as : List Value) (r : Option Value) : Prop :=
  Met l y (.code y cc maxL ret :: q_tbl) { frames := d, cells := 0, slots := 0, locals := 60 * d } (t_P G as) (t_Q r) 0 0 (q_fr G)
theorem t_blind (G : qG) (as : List Value) : FrameBlind (t_P G as) := fun a U g mk q => ⟨q.1, q.2.1, q_K.warm (s := U) (U := U.calling g mk a) (State.WarmedH.refl U) q.2.2⟩
section TText
variable {l : Launch} {d : Nat} {G : qG}
theorem t_M.of {y : MethodName} {cc : ByteArray} {maxL : Nat} {ret : Option FieldType} {as : List Value} {r : Option Value} (hy : plainName y.cls = true) (hlen : (lg_sl as).length ≤ maxL)
    (k : ∀ (p : Program) (e : Env) (R : Room) (s : State) (m : MethodId) (args : Array Value) (below : List Frame) (meth : Method) (c : Code) (lc : Array Slot), q_Env G d y cc maxL ret p R s m args meth c → (∀ q : Nat, q < q_base G → s.heap[q]? = G.2.2.1[q]?) → lv_has lc maxL (lv_args 0 as) →
      W p l e R s m args below meth c s.heap [] 0 0 (MQ below (t_Q r) args s 0 0 (q_fr G)) (F0 m 0 lc [])) : t_M l d G y cc maxL ret as r := by
  refine Met.ofW (cc := cc) (maxL := maxL) (ret := ret) hy rfl ?_
  intro p e s m args below meth c s₁ B hml hv
  obtain ⟨rfl, ho, hK⟩ := hv
  have hts := atoms_spec (ws := .code y cc maxL ret :: q_tbl) B.pre
  have hnm : meth.name = y.name := (name_of_methodNamed B.named B.method).1
  have hl := lv_entry as (n := maxL) hlen
  rw [lg_entry_eq]
  generalize (lg_sl as ++ List.replicate (maxL - (lg_sl as).length) Slot.unset).toArray = lc at hl ⊢
  exact k p e _ s m _ below meth c lc ⟨B.exec, B.bytes, B.returns, hml, findClass_of_methodNamed B.named, B.notSynchronized, hnm, fun w hw => hts w (List.mem_cons_of_mem _ hw), hK, Nat.le_refl _, Nat.le_refl _⟩ ho hl
variable {p : Program} {e : Env} {R : Room} {s : State} {m : MethodId} {args : Array Value} {below : List Frame} {meth : Method} {c : Code} {H : Heap} {locs : List Loc} {cells slots : Nat} {Q : State → Prop} {y : MethodName} {cc : ByteArray} {nL : Nat} {ret : Option FieldType} {pc : Nat} {lc : Array Slot} {rest : List Value}
theorem t_after {st0 : List Value} {a2 : Array Value} {r2 : Option Value} (hr : va_Run p l e R s m args below meth c H locs cells slots 0 0 (F0 m pc lc st0) rest (t_Q r2 a2) (q_fr G)) (hlo : ∀ q ∈ locs, q_base G ≤ q.base)
    (k : ∀ locs1 : List Loc, (∀ q ∈ locs1, q_base G ≤ q.base) → W p l e R s m args below meth c H locs1 cells slots Q (F0 m (pc + 3) lc (r2.toList ++ rest))) : W p l e R s m args below meth c H locs cells slots Q (F0 m pc lc st0) := by
  intro T hT X
  obtain ⟨v, st₀, t, T', L, h0, X', hL, g1, g2, ⟨hv, hh⟩, stp⟩ := hr T hT X
  cases hv
  obtain ⟨t2, a1, b1⟩ := k (locs ++ L) (fun q hq => (List.mem_append.mp hq).elim (hlo q) (hL q)) T' (by rw [g1, hh, h0]) X'
  exact ⟨t2, stp t2 a1, b1⟩
/-- what is outside is as at the start -/
theorem t_S (ho : ∀ q : Nat, q < q_base G → s.heap[q]? = G.2.2.1[q]?) (hH : ∀ q : Nat, q < q_base G → H[q]? = G.2.2.1[q]?) (hz : s.heap.size ≤ H.size) (hlo : ∀ q ∈ locs, q_base G ≤ q.base) : va_S (q_fr G) s.heap H locs :=
  ⟨hz, fun q _ h2 => by rw [ho q (Nat.not_le.mp h2), hH q (Nat.not_le.mp h2)], hlo⟩
theorem t_kept (ho : ∀ q : Nat, q < q_base G → s.heap[q]? = G.2.2.1[q]?) : ∀ a : Nat, a < G.2.2.1.size → ¬ q_fr G a → s.heap[a]? = G.2.2.1[a]? := fun a _ h2 => ho a (Nat.not_le.mp h2)
theorem t_str (hK : q_K G s) (ho : ∀ q : Nat, q < q_base G → s.heap[q]? = G.2.2.1[q]?) : vk_S 1 [q_bytes.length] [q_bytes] (fun _ => G.2.1.2.1) (fun _ => G.2.1.2.2) (q_fr G) s s.heap := hK.2.2.2.2.2.2.1.kept (t_kept ho)
theorem t_cmp (hK : q_K G s) (ho : ∀ q : Nat, q < q_base G → s.heap[q]? = G.2.2.1[q]?) : va_Z "java/lang/String" "COMPACT_STRINGS" "Z" (.int 1) (q_fr G) s s.heap := hK.2.2.2.2.2.2.2.1.kept (t_kept ho)
theorem t_fmt (hK : q_K G s) (ho : ∀ q : Nat, q < q_base G → s.heap[q]? = G.2.2.1[q]?) : va_Zq "jdk/internal/util/Preconditions" "SIOOBE_FORMATTER" "Ljava/util/function/BiFunction;" (q_fr G) s s.heap := hK.2.2.2.2.2.2.2.2.1.kept (t_kept ho)
end TText
theorem kYt_length : q_Y yJ0_length cJ0_length 1 (some .int) 0 := ⟨q_pl 383 rfl rfl, q_pl 12 rfl rfl, by decide, by decide +kernel⟩
theorem kYt_charAt : q_Y yJ0_charAt cJ0_charAt 2 (some .char) 1 := ⟨q_pl 393 rfl rfl, q_pl 12 rfl rfl, by decide, by decide +kernel⟩
theorem kYt_coder : q_Y yJ0_coder cJ0_coder 1 (some .byte) 0 := ⟨q_pl 387 rfl rfl, q_pl 12 rfl rfl, by decide, by decide +kernel⟩
theorem kYt_isLatin1 : q_Y yJ0_isLatin1 cJ0_isLatin1 1 (some .boolean) 0 := ⟨q_pl 397 rfl rfl, q_pl 12 rfl rfl, by decide, by decide +kernel⟩
theorem kYt_checkIndex : q_Y yJ0_checkIndex cJ0_checkIndex 2 none 2 := ⟨q_pl 403 rfl rfl, q_pl 12 rfl rfl, by decide, by decide +kernel⟩
theorem kYt_charAt1 : q_Y yJ1_charAt cJ1_charAt 2 (some .char) 2 := ⟨q_pl 400 rfl rfl, q_pl 13 rfl rfl, by decide, by decide +kernel⟩
theorem kYt_pre : q_Y yJ3_checkIndex cJ3_checkIndex 3 (some .int) 3 := ⟨q_pl 408 rfl rfl, q_pl 14 rfl rfl, by decide, by decide +kernel⟩
section TCall
variable {l : Launch} {d : Nat} {G : qG} {p : Program} {e : Env} {R : Room} {s : State} {m : MethodId} {args : Array Value} {below : List Frame} {meth : Method} {c : Code} {H : Heap} {locs : List Loc} {cells slots : Nat} {Q : State → Prop} {y : MethodName} {cc : ByteArray} {nL : Nat} {ret : Option FieldType} {pc : Nat} {lc : Array Slot} {rest : List Value}
set_option maxHeartbeats 1000000 in
theorem t_callS {i n d2 maxL2 : Nat} {y2 : MethodName} {cc2 : ByteArray} {ret2 : Option FieldType} {as : List Value} {r2 : Option Value} (E : q_Env G d y cc nL ret p R s m args meth c) (hH : ∀ q : Nat, q < q_base G → H[q]? = G.2.2.1[q]?) (hlo : ∀ q ∈ locs, q_base G ≤ q.base) (hl : lc.size = nL) (hc : cells ≤ R.cells) (hsl : slots ≤ R.slots)
    (hY : q_Y y2 cc2 maxL2 ret2 n) (hs : Cond.static y2 ∈ q_tbl) (hk : Cond.methodLink y.cls i y2 ∈ q_tbl) (hM : t_M l d2 G y2 cc2 maxL2 ret2 as r2) (hdd : d2 + 1 ≤ d) (hn : as.length = n) (hw : (rest.map fun v => v.category).sum ≤ 8) (hd : decode cc pc = .ok (.invokestatic i, 3))
    (k : ∀ locs1 : List Loc, (∀ q ∈ locs1, q_base G ≤ q.base) → W p l e R s m args below meth c H locs1 cells slots Q (F0 m (pc + 3) lc (r2.toList ++ rest))) : W p l e R s m args below meth c H locs cells slots Q (F0 m pc lc (as.reverse ++ rest)) := by
  obtain ⟨E1, E2, E3, E4, E5, E6, E7, E8, E9, E10, E11⟩ := id E
  obtain ⟨y1, y3, y4, y5⟩ := hY
  have hG := q_tbl_good _ y1
  have hroom : d2 + 1 ≤ R.frames ∧ 8 + (maxL2 + 11) + 60 * d2 ≤ R.locals := ⟨by omega, by omega⟩
  refine t_after (va_runS (bytes := cc2) (maxL := maxL2) (ret := ret2) (n := n) ⟨E1, E2, E4, E5, E8⟩ hM ⟨callB_of n E8 hG rfl rfl rfl (E8 _ y3) (E8 _ hk) y5 hroom, E8 _ hs⟩ ⟨t_blind _ _, fun U hU hW => ⟨rfl, by rw [hU]; exact hH, E9.warm hW⟩⟩ rfl hn hl rfl (by show 2 * 0 + _ ≤ 8; omega) hd ⟨by omega, by omega⟩) hlo k
set_option maxHeartbeats 1000000 in
theorem t_callV {i n d2 maxL2 : Nat} {y2 : MethodName} {cc2 : ByteArray} {ret2 : Option FieldType} {as : List Value} {o : Nat} {r2 : Option Value} (E : q_Env G d y cc nL ret p R s m args meth c) (hH : ∀ q : Nat, q < q_base G → H[q]? = G.2.2.1[q]?) (hlo : ∀ q ∈ locs, q_base G ≤ q.base) (hl : lc.size = nL) (hc : cells ≤ R.cells) (hsl : slots ≤ R.slots)
    (hY : q_Y y2 cc2 maxL2 ret2 n) (hin : Cond.instanceMethod y2 ∈ q_tbl) (hsel : Cond.selects y2.cls y2 y2 ∈ q_tbl) (hk : Cond.methodLink y.cls i y2 ∈ q_tbl) (hrecv : ∃ cellB : Cell, H[o]? = some cellB ∧ cellB.vm.isStatics = false ∧ s.vm.findClass y2.cls = some cellB.cls) (hM : t_M l d2 G y2 cc2 maxL2 ret2 (.ref o :: as) r2) (hdd : d2 + 1 ≤ d) (hn : as.length = n) (hw : (rest.map fun v => v.category).sum ≤ 8) (hd : decode cc pc = .ok (.invokevirtual i, 3))
    (k : ∀ locs1 : List Loc, (∀ q ∈ locs1, q_base G ≤ q.base) → W p l e R s m args below meth c H locs1 cells slots Q (F0 m (pc + 3) lc (r2.toList ++ rest))) : W p l e R s m args below meth c H locs cells slots Q (F0 m pc lc (as.reverse ++ .ref o :: rest)) := by
  obtain ⟨E1, E2, E3, E4, E5, E6, E7, E8, E9, E10, E11⟩ := id E
  obtain ⟨y1, y3, y4, y5⟩ := hY
  have hG := q_tbl_good _ y1
  have hroom : d2 + 1 ≤ R.frames ∧ 8 + (maxL2 + 11) + 60 * d2 ≤ R.locals := ⟨by omega, by omega⟩
  refine t_after (va_runV (C := y2.cls) (bytes := cc2) (maxL := maxL2) (ret := ret2) (n := n) ⟨E1, E2, E4, E5, E8⟩ hM ⟨callB_of n E8 hG rfl rfl rfl (E8 _ y3) (E8 _ hk) y5 hroom, E8 _ hin, E8 _ hsel⟩ ⟨t_blind _ _, hrecv, fun U hU hW => ⟨rfl, by rw [hU]; exact hH, E9.warm hW⟩⟩ rfl hn hl rfl (by show 2 * 0 + _ ≤ 8; omega) hd ⟨by omega, by omega⟩) hlo k
end TCall
section TMeths
variable {l : Launch} {G : qG}
set_option maxHeartbeats 1000000 in
theorem okT_coder : t_M l 1 G yJ0_coder cJ0_coder 1 (some .byte) [.ref G.2.1.2.1] (some (.int 0)) := by
  refine t_M.of (by decide) (Nat.le_of_ble_eq_true rfl) ?_
  intro p e R s m args below meth c lc E ho hl
  obtain ⟨E1, E2, E3, E4, E5, E6, E7, E8, E9, E10, E11⟩ := id E
  have hS : va_S (q_fr G) s.heap s.heap [] := va_S.rf
  have hstr := (t_str E9 ho).1 0 (by decide)
  refine va_gets E1 E2 (t_cmp E9 ho) hS E5 (E8 _ (q_pl 388 rfl rfl)) (fun _ h => h) (show decode cJ0_coder 0 = .ok (.getstatic 38, 3) by decide +kernel) ?_
  refine lv_if_eq (tgt := 13) E1 E2 (show decode cJ0_coder 3 = .ok (.ifCond .eq 10, 3) by decide +kernel) (by decide) (fun c0 => absurd c0 (by decide)) (fun _ => ?_)
  refine lv_aload_n E1 E2 (show decode cJ0_coder 6 = .ok (.aload_n 0, 1) by decide +kernel) rfl (lv_at hl 0 rfl) ?_
  refine vk_getf E1 E2 hstr.2.1 hS E5 (E8 _ (q_pl 1650 rfl rfl)) (fun _ h => h) (show decode cJ0_coder 7 = .ok (.getfield 15, 3) by decide +kernel) ?_
  refine lv_goto (tgt := 14) E1 E2 (show decode cJ0_coder 10 = .ok (.goto 4, 3) by decide +kernel) (by decide) ?_
  exact W.zret E1 E2 E3 rfl (fun t ht hW => ⟨rfl, ht⟩) (fun q hq => by cases hq) (show decode cJ0_coder 14 = .ok (.ireturn, 1) by decide +kernel) E6
set_option maxHeartbeats 1000000 in
theorem okT_isLatin1 : t_M l 1 G yJ0_isLatin1 cJ0_isLatin1 1 (some .boolean) [.ref G.2.1.2.1] (some (.int 1)) := by
  refine t_M.of (by decide) (Nat.le_of_ble_eq_true rfl) ?_
  intro p e R s m args below meth c lc E ho hl
  obtain ⟨E1, E2, E3, E4, E5, E6, E7, E8, E9, E10, E11⟩ := id E
  have hS : va_S (q_fr G) s.heap s.heap [] := va_S.rf
  have hstr := (t_str E9 ho).1 0 (by decide)
  refine va_gets E1 E2 (t_cmp E9 ho) hS E5 (E8 _ (q_pl 388 rfl rfl)) (fun _ h => h) (show decode cJ0_isLatin1 0 = .ok (.getstatic 38, 3) by decide +kernel) ?_
  refine lv_if_eq (tgt := 17) E1 E2 (show decode cJ0_isLatin1 3 = .ok (.ifCond .eq 14, 3) by decide +kernel) (by decide) (fun c0 => absurd c0 (by decide)) (fun _ => ?_)
  refine lv_aload_n E1 E2 (show decode cJ0_isLatin1 6 = .ok (.aload_n 0, 1) by decide +kernel) rfl (lv_at hl 0 rfl) ?_
  refine vk_getf E1 E2 hstr.2.1 hS E5 (E8 _ (q_pl 1650 rfl rfl)) (fun _ h => h) (show decode cJ0_isLatin1 7 = .ok (.getfield 15, 3) by decide +kernel) ?_
  refine lv_if_ne (tgt := 17) E1 E2 (show decode cJ0_isLatin1 10 = .ok (.ifCond .ne 7, 3) by decide +kernel) (by decide) (fun c0 => absurd rfl c0) (fun _ => ?_)
  refine lv_iconst (v := 1) E1 E2 (show decode cJ0_isLatin1 13 = .ok (.iconst 1, 1) by decide +kernel) (by decide) ?_
  refine lv_goto (tgt := 18) E1 E2 (show decode cJ0_isLatin1 14 = .ok (.goto 4, 3) by decide +kernel) (by decide) ?_
  exact W.zret E1 E2 E3 rfl (fun t ht hW => ⟨rfl, ht⟩) (fun q hq => by cases hq) (show decode cJ0_isLatin1 18 = .ok (.ireturn, 1) by decide +kernel) E6
set_option maxHeartbeats 1000000 in
theorem okT_length : t_M l 2 G yJ0_length cJ0_length 1 (some .int) [.ref G.2.1.2.1] (some (.int sLen)) := by
  refine t_M.of (by decide) (Nat.le_of_ble_eq_true rfl) ?_
  intro p e R s m args below meth c lc E ho hl
  obtain ⟨E1, E2, E3, E4, E5, E6, E7, E8, E9, E10, E11⟩ := id E
  have hS : va_S (q_fr G) s.heap s.heap [] := va_S.rf
  have hstr := (t_str E9 ho).1 0 (by decide)
  obtain ⟨cb, b1, b2, b3, b4, b5, b6, -⟩ := hstr.2.2.2
  refine lv_aload_n E1 E2 (show decode cJ0_length 0 = .ok (.aload_n 0, 1) by decide +kernel) rfl (lv_at hl 0 rfl) ?_
  refine vk_getf E1 E2 hstr.2.2.1 hS E5 (E8 _ (q_pl 1649 rfl rfl)) (fun _ h => h) (show decode cJ0_length 1 = .ok (.getfield 9, 3) by decide +kernel) ?_
  refine W.alen (n := sLen) E1 E2 b1 b2 b5 rfl rfl (show decode cJ0_length 4 = .ok (.arraylength, 1) by decide +kernel) ?_
  refine lv_aload_n E1 E2 (show decode cJ0_length 5 = .ok (.aload_n 0, 1) by decide +kernel) rfl (lv_at hl 0 rfl) ?_
  refine t_callV (as := []) (rest := [.int sLen]) E ho (fun q hq => by cases hq) hl.1 (Nat.zero_le _) (Nat.zero_le _) kYt_coder (q_pl 385 rfl rfl) (q_pl 386 rfl rfl) (q_pl 384 rfl rfl) (vk_recv (t_str E9 ho) (i := 0) (by decide) hS) okT_coder (by decide) rfl (by decide) (show decode cJ0_length 6 = .ok (.invokevirtual 335, 3) by decide +kernel) (fun locs1 hlo => ?_)
  refine lv_ishr (rest := []) E1 E2 (x := sLen) (y := 0) (show decode cJ0_length 9 = .ok (.ishr, 1) by decide +kernel) ?_
  exact W.zret (v := sLen >>> (0 &&& 31)) E1 E2 E3 rfl (fun t ht hW => ⟨by rw [show sLen >>> ((0 : Int32) &&& 31) = sLen by decide +kernel], ht⟩) hlo (show decode cJ0_length 10 = .ok (.ireturn, 1) by decide +kernel) E6
end TMeths
