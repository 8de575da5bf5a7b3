/-! A METHOD THAT THROWS, and the one that catches (written by rows3.py out of the rows of part 04 and the printed law of a throw). -/
def qthr (h : qH) : qH := (h.1, h.2.1 + 1, h.2.2 + 6)
def q_XC (G : qG) (h' : qH) : String → State → State → Prop := fun E _ t => E = "java/util/NoSuchElementException" ∧ q_R G t h' t.heap
def q_VT (G : qG) (l : Launch) (h' : qH) (p : Program) (e : Env) (R : Room) (s : State) (m : MethodId) (args : Array Value) (below : List Frame) (meth : Method) (c : Code) (nL pc : Nat) (ls : List (Nat × Value)) (st : List Value) (h : qH) : Prop :=
  ∀ (H : Heap) (locs : List Loc) (cells slots mc ms : Nat) (lc : Array Slot), q_R G s h H → q_R G s h s.heap ∨ True → (∀ q : Nat, q < q_base G → s.heap[q]? = G.2.2.1[q]?) → s.heap.size ≤ H.size → (∀ q ∈ locs, q_base G ≤ q.base) → cells + h'.2.1 = mc + h.2.1 → slots + h'.2.2 = ms + h.2.2 → mc ≤ R.cells → ms ≤ R.slots → lv_has lc nL (ls.map (q_lv G)) →
    W p l e R s m args below meth c H locs cells slots (vx_MQ below (fun _ _ _ _ => False) (q_XC G h') args s mc ms (q_fr G)) (F0 m pc lc (st.map (q_v G)))
/-- from this point the method throws a NoSuchElementException, with heap h' -/
def q_T (l : Launch) (d : Nat) (y : MethodName) (cc : ByteArray) (nL : Nat) (ret : Option FieldType) (h' : qH) (pc : Nat) (ls : List (Nat × Value)) (st : List Value) (h : qH) : Prop :=
  l.stackTraces = false → 2 ≤ h.2.1 → h.2.1 ≤ h'.2.1 ∧ h.2.2 ≤ h'.2.2 ∧
  ∀ (G : qG) (p : Program) (e : Env) (R : Room) (s : State) (m : MethodId) (args : Array Value) (below : List Frame) (meth : Method) (c : Code), q_Env G d y cc nL ret p R s m args meth c → (∀ x ∈ c.exceptionTable.toList, False) → q_VT G l h' p e R s m args below meth c nL pc ls st h
section QThrows
variable {l : Launch} {d : Nat} {y : MethodName} {cc : ByteArray} {nL : Nat} {ret : Option FieldType} {h' : qH} {pc : Nat} {ls : List (Nat × Value)} {st : List Value} {h : qH}
theorem q_T.go {pc' : Nat} {ls' : List (Nat × Value)} {st' : List Value} (k : q_T l d y cc nL ret h' pc' ls' st' h)
    (f : ∀ (G : qG) (p : Program) (e : Env) (R : Room) (s : State) (m : MethodId) (args : Array Value) (below : List Frame) (meth : Method) (c : Code) (H : Heap) (locs : List Loc) (cells slots : Nat) (Q : State → Prop) (lc : Array Slot), q_Env G d y cc nL ret p R s m args meth c → lv_has lc nL (ls.map (q_lv G)) → cells ≤ R.cells → slots ≤ R.slots →
      (∀ lc' : Array Slot, lv_has lc' nL (ls'.map (q_lv G)) → W p l e R s m args below meth c H locs cells slots Q (F0 m pc' lc' (st'.map (q_v G)))) → W p l e R s m args below meth c H locs cells slots Q (F0 m pc lc (st.map (q_v G)))) : q_T l d y cc nL ret h' pc ls st h := by
  intro hfl h2
  obtain ⟨k1, k2, k3⟩ := k hfl h2
  refine ⟨k1, k2, fun G p e R s m args below meth c E hx H locs cells slots mc ms lc hR o1 o2 o3 hlo e1 e2 e3 e4 hl => ?_⟩
  exact f G p e R s m args below meth c H locs cells slots _ lc E hl (by omega) (by omega) (fun lc' hl' => k3 G p e R s m args below meth c E hx H locs cells slots mc ms lc' hR o1 o2 o3 hlo e1 e2 e3 e4 hl')
theorem qt_iload_n {k : Fin 4} {x : Int32} (j : Nat) (hj : ls[j]? = some ((k : Nat), .int x)) (hd : decode cc pc = .ok (.iload_n k, 1)) (k : q_T l d y cc nL ret h' (pc + 1) ls (.int x :: st) h) : q_T l d y cc nL ret h' pc ls (st) h :=
  k.go fun G p e R s m args below meth c H locs cells slots Q lc E hl _ _ kk => lv_iload_n E.1 E.2.1 hd rfl (q_lat hl j hj) (kk lc hl)
theorem qt_iload {i : Nat} {x : Int32} (j : Nat) (hj : ls[j]? = some (i, .int x)) (hd : decode cc pc = .ok (.iload i, 2)) (k : q_T l d y cc nL ret h' (pc + 2) ls (.int x :: st) h) : q_T l d y cc nL ret h' pc ls (st) h :=
  k.go fun G p e R s m args below meth c H locs cells slots Q lc E hl _ _ kk => lv_iload E.1 E.2.1 hd (q_lat hl j hj) (kk lc hl)
theorem qt_iconst {n : Int} {x : Int32} (hx : Int32.ofInt n = x) (hd : decode cc pc = .ok (.iconst n, 1)) (k : q_T l d y cc nL ret h' (pc + 1) ls (.int x :: st) h) : q_T l d y cc nL ret h' pc ls (st) h :=
  k.go fun G p e R s m args below meth c H locs cells slots Q lc E hl _ _ kk => lv_iconst E.1 E.2.1 hd hx (kk lc hl)
theorem qt_bipush {n : Int} {x : Int32} (hx : (Int8.ofInt n).toInt32 = x) (hd : decode cc pc = .ok (.bipush n, 2)) (k : q_T l d y cc nL ret h' (pc + 2) ls (.int x :: st) h) : q_T l d y cc nL ret h' pc ls (st) h :=
  k.go fun G p e R s m args below meth c H locs cells slots Q lc E hl _ _ kk => lv_bipush E.1 E.2.1 hd hx (kk lc hl)
theorem qt_istore {i : Nat} {x : Int32} {ls' : List (Nat × Value)} (hn : i < nL) (hs : (i, Value.int x) :: ls.filter (fun q => !(q.1 == i) && !(q.1 + 1 == i && q.2.category == 2)) = ls') (hd : decode cc pc = .ok (.istore i, 2)) (k : q_T l d y cc nL ret h' (pc + 2) ls' (st) h) : q_T l d y cc nL ret h' pc ls (.int x :: st) h :=
  k.go fun G p e R s m args below meth c H locs cells slots Q lc E hl _ _ kk => lv_istore (lv' := ls'.map (q_lv G)) E.1 E.2.1 hd hl hn (by rw [q_flt, ← hs]; rfl) kk
theorem qt_iinc {i : Nat} {n : Int} {x x2 : Int32} {ls' : List (Nat × Value)} (j : Nat) (hj : ls[j]? = some (i, .int x)) (hv : x + Int32.ofInt n = x2) (hn : i < nL) (hs : (i, Value.int x2) :: ls.filter (fun q => !(q.1 == i) && !(q.1 + 1 == i && q.2.category == 2)) = ls') (hd : decode cc pc = .ok (.iinc i n, 3)) (k : q_T l d y cc nL ret h' (pc + 3) ls' (st) h) : q_T l d y cc nL ret h' pc ls (st) h :=
  k.go fun G p e R s m args below meth c H locs cells slots Q lc E hl _ _ kk => lv_iinc (lv' := ls'.map (q_lv G)) E.1 E.2.1 hd hl (k := j) (by rw [List.getElem?_map, hj]; rfl) hv hn (by rw [q_flt, ← hs]; rfl) kk
theorem qt_goto {off : Int} {tgt : Nat} (hd : decode cc pc = .ok (.goto off, 3)) (ht : (pc : Int) + off = (tgt : Int)) (k : q_T l d y cc nL ret h' tgt ls st h) : q_T l d y cc nL ret h' pc ls st h :=
  k.go fun G p e R s m args below meth c H locs cells slots Q lc E hl _ _ kk => lv_goto E.1 E.2.1 hd ht (kk lc hl)
theorem qt_icmp_ge {x z : Int32} {off : Int} {tgt : Nat} (hd : decode cc pc = .ok (.if_icmp .ge off, 3)) (ht : (pc : Int) + off = (tgt : Int)) (kt : z ≤ x → q_T l d y cc nL ret h' tgt ls st h) (kf : ¬ z ≤ x → q_T l d y cc nL ret h' (pc + 3) ls st h) : q_T l d y cc nL ret h' pc ls (.int z :: .int x :: st) h := by
  by_cases c0 : z ≤ x
  · exact (kt c0).go fun G p e R s m args below meth c H locs cells slots Q lc E hl _ _ kk => lv_icmp_ge E.1 E.2.1 hd ht (fun _ => kk lc hl) (fun n => absurd c0 (by first | exact n | exact fun q => q n))
  · exact (kf (by first | exact c0 | exact Classical.not_not.mp c0)).go fun G p e R s m args below meth c H locs cells slots Q lc E hl _ _ kk => lv_icmp_ge E.1 E.2.1 hd ht (fun n => absurd n c0) (fun _ => kk lc hl)
theorem qt_icmp_eq {x z : Int32} {off : Int} {tgt : Nat} (hd : decode cc pc = .ok (.if_icmp .eq off, 3)) (ht : (pc : Int) + off = (tgt : Int)) (kt : x = z → q_T l d y cc nL ret h' tgt ls st h) (kf : ¬ x = z → q_T l d y cc nL ret h' (pc + 3) ls st h) : q_T l d y cc nL ret h' pc ls (.int z :: .int x :: st) h := by
  by_cases c0 : x = z
  · exact (kt c0).go fun G p e R s m args below meth c H locs cells slots Q lc E hl _ _ kk => lv_icmp_eq E.1 E.2.1 hd ht (fun _ => kk lc hl) (fun n => absurd c0 (by first | exact n | exact fun q => q n))
  · exact (kf (by first | exact c0 | exact Classical.not_not.mp c0)).go fun G p e R s m args below meth c H locs cells slots Q lc E hl _ _ kk => lv_icmp_eq E.1 E.2.1 hd ht (fun n => absurd n c0) (fun _ => kk lc hl)
theorem qt_icmp_ne {x z : Int32} {off : Int} {tgt : Nat} (hd : decode cc pc = .ok (.if_icmp .ne off, 3)) (ht : (pc : Int) + off = (tgt : Int)) (kt : ¬ x = z → q_T l d y cc nL ret h' tgt ls st h) (kf : x = z → q_T l d y cc nL ret h' (pc + 3) ls st h) : q_T l d y cc nL ret h' pc ls (.int z :: .int x :: st) h := by
  by_cases c0 : ¬ x = z
  · exact (kt c0).go fun G p e R s m args below meth c H locs cells slots Q lc E hl _ _ kk => lv_icmp_ne E.1 E.2.1 hd ht (fun _ => kk lc hl) (fun n => absurd c0 (by first | exact n | exact fun q => q n))
  · exact (kf (by first | exact c0 | exact Classical.not_not.mp c0)).go fun G p e R s m args below meth c H locs cells slots Q lc E hl _ _ kk => lv_icmp_ne E.1 E.2.1 hd ht (fun n => absurd n c0) (fun _ => kk lc hl)
theorem qt_if_eq {x : Int32} {off : Int} {tgt : Nat} (hd : decode cc pc = .ok (.ifCond .eq off, 3)) (ht : (pc : Int) + off = (tgt : Int)) (kt : x = 0 → q_T l d y cc nL ret h' tgt ls st h) (kf : ¬ x = 0 → q_T l d y cc nL ret h' (pc + 3) ls st h) : q_T l d y cc nL ret h' pc ls (.int x :: st) h := by
  by_cases c0 : x = 0
  · exact (kt c0).go fun G p e R s m args below meth c H locs cells slots Q lc E hl _ _ kk => lv_if_eq E.1 E.2.1 hd ht (fun _ => kk lc hl) (fun n => absurd c0 (by first | exact n | exact fun q => q n))
  · exact (kf (by first | exact c0 | exact Classical.not_not.mp c0)).go fun G p e R s m args below meth c H locs cells slots Q lc E hl _ _ kk => lv_if_eq E.1 E.2.1 hd ht (fun n => absurd n c0) (fun _ => kk lc hl)
theorem qt_if_ne {x : Int32} {off : Int} {tgt : Nat} (hd : decode cc pc = .ok (.ifCond .ne off, 3)) (ht : (pc : Int) + off = (tgt : Int)) (kt : ¬ x = 0 → q_T l d y cc nL ret h' tgt ls st h) (kf : x = 0 → q_T l d y cc nL ret h' (pc + 3) ls st h) : q_T l d y cc nL ret h' pc ls (.int x :: st) h := by
  by_cases c0 : ¬ x = 0
  · exact (kt c0).go fun G p e R s m args below meth c H locs cells slots Q lc E hl _ _ kk => lv_if_ne E.1 E.2.1 hd ht (fun _ => kk lc hl) (fun n => absurd c0 (by first | exact n | exact fun q => q n))
  · exact (kf (by first | exact c0 | exact Classical.not_not.mp c0)).go fun G p e R s m args below meth c H locs cells slots Q lc E hl _ _ kk => lv_if_ne E.1 E.2.1 hd ht (fun n => absurd n c0) (fun _ => kk lc hl)
theorem qt_sub {ls' : List (Nat × Value)} (ks : List Nat) (hs : lv_pick ls ks = ls') (k : q_T l d y cc nL ret h' pc ls' st h) : q_T l d y cc nL ret h' pc ls st h :=
  k.go fun G p e R s m args below meth c H locs cells slots Q lc E hl _ _ kk => kk lc (lv_sub hl ks (by
    rw [← hs]
    unfold lv_pick
    rw [List.map_filterMap]
    congr 1
    funext k9
    rw [List.getElem?_map]))
theorem qt_to {ls' : List (Nat × Value)} {st' : List Value} (e1 : ls = ls') (e2 : st = st') (k : q_T l d y cc nL ret h' pc ls' st' h) : q_T l d y cc nL ret h' pc ls st h := by
  subst e1; subst e2; exact k
theorem qt_after {G : qG} {p : Program} {e : Env} {R : Room} {s : State} {m : MethodId} {args : Array Value} {below : List Frame} {meth : Method} {c : Code} {H : Heap} {locs : List Loc} {cells slots mc ms mc2 ms2 : Nat} {lc : Array Slot} {st0 : List Value} {a2 : Array Value} {r2 : Option Value} {h1 : qH}
    (hr : va_Run p l e R s m args below meth c H locs cells slots mc2 ms2 (F0 m pc lc st0) (st.map (q_v G)) (q_Qc G r2 h1 a2) (q_fr G)) (hlo : ∀ q ∈ locs, q_base G ≤ q.base) (e1 : cells + h'.2.1 = mc + h.2.1) (e2 : slots + h'.2.2 = ms + h.2.2) (m1 : mc2 + h.2.1 = h1.2.1) (m2 : ms2 + h.2.2 = h1.2.2) (e3 : mc ≤ R.cells) (e4 : ms ≤ R.slots) (hl : lv_has lc nL (ls.map (q_lv G)))
    (o2 : ∀ q : Nat, q < q_base G → s.heap[q]? = G.2.2.1[q]?) (o3 : s.heap.size ≤ H.size) (o4 : H.size + 2 = q_base G + h.2.1) (m3 : h.2.1 ≤ h1.2.1) (k : q_VT G l h' p e R s m args below meth c nL (pc + 3) ls (r2.toList ++ st) h1) : W p l e R s m args below meth c H locs cells slots (vx_MQ below (fun _ _ _ _ => False) (q_XC G h') args s mc ms (q_fr G)) (F0 m pc lc st0) := by
  intro T hT X
  obtain ⟨v, st₀, t, T', L, h0, X', hL, g1, g2, ⟨hv, hR1⟩, stp⟩ := hr T hT X
  cases hv
  have hR1 : q_R G s h1 T'.heap := by
    rw [g1]
    refine hR1.moved ?_
    rw [← g2]
    exact X'.warmed.alike.symm
  obtain ⟨t2, a1, b1⟩ := k T'.heap (locs ++ L) (cells + mc2) (slots + ms2) mc ms lc hR1 (Or.inr trivial) o2 (by have := hR1.1; omega) (fun q hq => (List.mem_append.mp hq).elim (hlo q) (hL q)) (by omega) (by omega) e3 e4 hl T' rfl X'
  refine ⟨t2, stp t2 ?_, b1⟩
  have e9 : (r2.map (q_v G)).toList ++ st.map (q_v G) = (r2.toList ++ st).map (q_v G) := by cases r2 <;> simp
  have e8 : ({ F0 m pc lc st0 with pc := pc + 3, stack := (r2.map (q_v G)).toList ++ st.map (q_v G) } : JFrame) = F0 m (pc + 3) lc ((r2.toList ++ st).map (q_v G)) := by rw [e9]
  rw [e8]
  exact a1
set_option maxHeartbeats 2000000 in
theorem qt_callS {i n d2 maxL2 : Nat} {y2 : MethodName} {cc2 : ByteArray} {ret2 : Option FieldType} {as : List Value} {r2 : Option Value} {h1 : qH} (hY : q_Y y2 cc2 maxL2 ret2 n) (hs : Cond.static y2 ∈ q_tbl) (hk : q_Lk y.cls i y2) (hM : q_M l d2 y2 cc2 maxL2 ret2 as h r2 h1) (hdd : d2 + 1 ≤ d) (hn : as.length = n) (hw : (st.map fun v => v.category).sum ≤ 8) (hd : decode cc pc = .ok (.invokestatic i, 3))
    (kk : q_T l d y cc nL ret h' (pc + 3) ls (r2.toList ++ st) h1) : q_T l d y cc nL ret h' pc ls (as.reverse ++ st) h := by
  intro hfl h2
  obtain ⟨m1, m2, hM⟩ := hM h2
  obtain ⟨k1, k2, k3⟩ := kk hfl (Nat.le_trans h2 m1)
  refine ⟨by omega, by omega, fun G p e R s m args below meth c E hx H locs cells slots mc ms lc hR o1 o2 o3 hlo e1 e2 e3 e4 hl => ?_⟩
  obtain ⟨E1, E2, E3, E4, E5, E6, E7, E8, E9, E10, E11⟩ := id E
  obtain ⟨y1, y3, y4, y5⟩ := hY
  have hG := q_tbl_good _ y1
  have hroom : d2 + 1 ≤ R.frames ∧ 8 + (maxL2 + 11) + 60 * d2 ≤ R.locals := ⟨by omega, by omega⟩
  have hW9 : 2 * (F0 m pc lc ((as.reverse ++ st).map (q_v G))).monitorRoom + ((st.map (q_v G)).map fun v => v.category).sum ≤ 8 := by
    rw [q_catsum]; show 2 * 0 + _ ≤ 8; omega
  have hstk : (F0 m pc lc ((as.reverse ++ st).map (q_v G))).stack = (as.map (q_v G)).reverse ++ st.map (q_v G) := by
    show (as.reverse ++ st).map (q_v G) = _
    rw [List.map_append, List.map_reverse]
  have hpre : PreS s H (q_Pc G as h) (as.map (q_v G)) := ⟨q_blind _ _ _, fun U hU hW => ⟨rfl, by rw [hU]; exact hR.moved hW.alike, E9.warm hW⟩⟩
  have hrun : va_Run p l e R s m args below meth c H locs cells slots (h1.2.1 - h.2.1) (h1.2.2 - h.2.2) (F0 m pc lc ((as.reverse ++ st).map (q_v G))) (st.map (q_v G)) (q_Qc G r2 h1 (as.map (q_v G)).toArray) (q_fr G) := by
    rcases hk with hk | ⟨host, hk⟩
    · exact va_runS (bytes := cc2) (maxL := maxL2) (ret := ret2) (n := n) ⟨E1, E2, E4, E5, E8⟩ (hM G) ⟨callB_of n E8 hG rfl rfl rfl (E8 _ y3) (E8 _ hk) y5 hroom, E8 _ hs⟩ hpre rfl (by rw [List.length_map]; exact hn) hl.1 hstk hW9 hd ⟨by omega, by omega⟩
    · exact va_runSN (host := host) (bytes := cc2) (maxL := maxL2) (ret := ret2) (n := n) ⟨E1, E2, E4, E5, E8⟩ (hM G) ⟨va_cnB n E8 hG rfl rfl rfl (E9.nest hk) (E8 _ y3) y5 hroom, E8 _ hs, trivial⟩ hpre rfl (by rw [List.length_map]; exact hn) hl.1 hstk hW9 hd ⟨by omega, by omega⟩
  exact qt_after hrun hlo e1 e2 (by omega) (by omega) e3 e4 hl o2 o3 hR.1 m1 (k3 G p e R s m args below meth c E hx)
end QThrows
set_option maxHeartbeats 2000000 in
theorem qx_throw0 {p : Program} {l : Launch} {e : Env} {R : Room} {s : State} {m : MethodId} {args : Array Value} {below : List Frame} {meth : Method} {c : Code} {H : Heap} {locs : List Loc} {cells slots : Nat} {free : Addr → Prop} {ls : Array Slot} {rest : List Value} {Qc : Array Value → State → Outcome → State → Prop} {XC : String → State → State → Prop} {cc : ByteArray} {pc : Nat} (hexec : p.tables.exec = Jvm.exec) (hb : c.code = cc) (hl : l.stackTraces = false) {own cls : String} {names : List String} {ik ic mc ms : Nat} {A : Nat → Prop}
    (hown : s.vm.findClass own = some m.cls) (hcls : Bundle.fit cls = true) (hnames : ∀ n ∈ names, Bundle.fit n = true)
    (hk : (Cond.classLink own ik cls).before args s = true) (hini : (Cond.initialized cls).before args s = true) (hat : ∀ w ∈ vx_at0 own ic cls names, w.before args s = true)
    (hgood : ∀ w ∈ Cond.classLink own ik cls :: Cond.initialized cls :: vx_at0 own ic cls names, vx_ot w = true)
    (hU : vx_Zq Bundle.tN "UNASSIGNED_STACK" Bundle.steD A s s.heap) (hN : vx_Zq Bundle.tN "SUPPRESSED_SENTINEL" Bundle.listD A s s.heap) (hS : va_S A s.heap H locs) (hsize : ls.size = c.maxLocals)
    (d0 : decode cc pc = .ok (.new ik, 3)) (d3 : decode cc (pc + 3) = .ok (.dup, 1)) (d4 : decode cc (pc + 4) = .ok (.invokespecial ic, 3)) (d7 : decode cc (pc + 7) = .ok (.athrow, 1))
    (hout : ∀ x ∈ c.exceptionTable.toList, covers x (pc + 7) = false)
    (hRframes : names.length + 3 < R.frames) (hRlocals : (rest.map fun v => v.category).sum + (13 * (names.length + 1) + 42) ≤ R.locals) (hRcells : cells + 1 ≤ R.cells) (hRslots : slots + 6 ≤ R.slots) (hlocks : meth.locks = false)
    (hx : ∀ t : State, s.vm.Alike t.vm → t.heap.size = H.size + 1 → (∀ q : Nat, q < H.size → t.heap[q]? = H[q]?) → XC cls s t)
    (hf : ∀ z ∈ locs, free z.base) (hc : cells + 1 ≤ mc) (hs : slots + 6 ≤ ms) :
    W p l e R s m args below meth c H locs cells slots (vx_MQ below Qc XC args s mc ms free) (F0 m pc ls rest) := by
  intro T hT X
  have htr : e.platform.stackTraces = false := (show e.platform.stackTraces = l.stackTraces by rw [X.admits.platform]).trans hl
  have Y := vx_rebase X (R' := { frames := R.frames, locals := R.locals, cells := 1, slots := 6 }) (Nat.le_refl _) (Nat.le_refl _) hRcells hRslots
  obtain ⟨s', hA⟩ : ∃ z, z = (T.setVm s.vm).setFrames (.invoking m args :: below) := ⟨_, rfl⟩
  rw [← hA] at Y
  have hvm : s'.vm = s.vm := by rw [hA]; rfl
  have hhp : s'.heap = H := by rw [hA]; exact hT
  have hW0 : s.WarmedH s'.vm := by rw [hvm]; exact State.WarmedH.refl s
  have hat' : ∀ w ∈ vx_at0 own ic cls names, w.before args s' = true := fun w hw => vx_ot_at hW0 hvm.symm (hgood w (List.mem_cons_of_mem _ (List.mem_cons_of_mem _ hw))) (hat w hw)
  have hk' : (Cond.classLink own ik cls).before args s' = true := vx_ot_at hW0 hvm.symm (hgood _ List.mem_cons_self) hk
  have hini' : (Cond.initialized cls).before args s' = true := vx_ot_at hW0 hvm.symm (hgood _ (List.mem_cons_of_mem _ List.mem_cons_self)) hini
  have hU' : vx_Zq Bundle.tN "UNASSIGNED_STACK" Bundle.steD A s' s'.heap := by rw [hhp]; exact vx_Zq.moved hW0.alike (hU.kept hS.2.1)
  have hN' : vx_Zq Bundle.tN "SUPPRESSED_SENTINEL" Bundle.listD A s' s'.heap := by rw [hhp]; exact vx_Zq.moved hW0.alike (hN.kept hS.2.1)
  have h : ∀ w ∈ Bundle.ownAtoms0 own ic cls names, w.before args s' = true := vx_own hat' (vx_isRefq hU'.1) (vx_isRefq hN'.1) hU'.2.word hN'.2.word
  have hown' : s'.vm.findClass own = some m.cls := by rw [hvm]; exact hown
  have hins : (Cond.instantiable cls 6).before args s' = true := h _ (by simp [Bundle.ownAtoms0])
  obtain ⟨vm₁, cX, kX, hfX, hkX, -, -, X₁, st1⟩ := Y.newCold hexec (own := own) (C := cls) (index := ik) (n := 6) hown' hk' hins hini'
    (g := F0 m pc ls rest) rfl (by rw [hb]; exact d0) (Nat.le_refl _) (Nat.le_refl _)
  generalize hT1 : (T.setVm vm₁).pushCell { cls := cX, slots := kX.instanceTypes.map defaultValue, vm := .none } = T1 at X₁ st1
  have hcat : (Value.ref T.heap.size).category = 1 := rfl
  have hcellA : T1.heap[T.heap.size]? = some (freshCell cX kX) := by rw [← hT1]; exact State.heap_pushCell_size _ _
  have d3' : decode c.code (pc + 3) = .ok (.dup, 1) := by rw [hb]; exact d3
  obtain ⟨U, hsteps, hrun, hend, hW, hsame, ce, hce, hO⟩ := X₁.ctorThrow0 hexec htr (own := own) (cls := cls) (names := names) (ic := ic) hown' hcls hnames h (fun x hx => nomatch hx) hfX hkX hcellA (by rw [hhp, hT]; exact Nat.le_refl _)
    (g := { method := m, pc := pc + 4, locals := ls, stack := .ref T.heap.size :: .ref T.heap.size :: rest, locked := none }) rfl hsize rfl rfl (rest := rest) rfl
    (by rw [hb]; exact d4) (by rw [hb]; exact d7) hout hRframes (by simp only [List.map_cons, List.sum_cons, hcat]; omega) hlocks
  obtain ⟨f1, f2⟩ := vx_frame hsame
  rw [hhp] at f1 f2
  have f3 : U.heap.size = H.size + 1 := by
    have u1 : U.heap.size ≤ s'.heap.size + 1 := hsame.2.2.1
    have u2 : T.heap.size < U.heap.size := (Array.getElem?_eq_some_iff.mp hce).1
    rw [hhp] at u1
    rw [hT] at u2
    omega
  have hWs : s.WarmedH U.vm := State.WarmedH.trans hW0 hW
  have hcl : s.vm.findClass cls = some ce.cls := by
    have h9 := hO.cls
    rw [hvm] at h9
    exact h9
  have hall : s.sameButNew ({ U with vm := s.vm } : State) locs mc ms := by
    subst hA
    obtain ⟨e1, e2⟩ := hsame
    rw [State.setFrames_setFrames] at e1
    have h2 : (T.setVm s.vm).sameButNew ({ U with vm := s.vm } : State) [] (0 + 1) (0 + 6) := ⟨e1, e2⟩
    have h3 := X.same.trans h2
    rw [List.append_nil] at h3
    exact h3.mono hc hs
  refine ⟨U, ?_, .threw T.heap.size, hrun, hend, Or.inr ⟨T.heap.size, rfl, cls, ce, locs, hx U hWs.alike f3 (fun q hq => f2 q hq (fun z hz => nomatch hz)), hce, hO.vm, hcl, hWs, hall, hf⟩⟩
  refine st1 _ ?_
  show Steps p.tables e below (T1.setTop { method := m, pc := pc + 3, locals := ls, stack := .ref T.heap.size :: rest, locked := none }) _
  jvm_step X₁.here [X₁.here.top, hexec, d3', Value.category]
  exact hsteps
theorem kN_throw : Cond.classLink RX9 302 "java/util/NoSuchElementException" ∈ q_tbl := q_p4 231 rfl rfl
theorem kZ_nse : Cond.initialized "java/util/NoSuchElementException" ∈ q_tbl := q_p1 21 rfl rfl
theorem kX_good : ∀ w ∈ (vx_at0 RX9 304 "java/util/NoSuchElementException" ["java/lang/RuntimeException", "java/lang/Exception"]).filter goodWord, w ∈ lw_tbl := by decide +kernel
def kX_rest : List Cond := (vx_at0 RX9 304 "java/util/NoSuchElementException" ["java/lang/RuntimeException", "java/lang/Exception"]).filter (fun w => !goodWord w)
theorem kX_ot : ∀ w ∈ Cond.classLink RX9 302 "java/util/NoSuchElementException" :: Cond.initialized "java/util/NoSuchElementException" :: vx_at0 RX9 304 "java/util/NoSuchElementException" ["java/lang/RuntimeException", "java/lang/Exception"], vx_ot w = true := by decide +kernel
def kX_kind (w : Cond) : Bool := match w with
  | .castable _ _ => true
  | .declares _ => true
  | _ => false
theorem kX_rest_ok : ∀ w ∈ kX_rest, kX_kind w = true ∧ w ∈ lw_tbl := by decide +kernel
theorem kX_restK {G : qG} {s : State} {args : Array Value} (hK : q_K G s) : ∀ w ∈ kX_rest, w.before args s = true := by
  intro w hw
  obtain ⟨h1, h2⟩ := kX_rest_ok w hw
  obtain ⟨-, -, -, -, -, -, -, -, -, -, hc, hd, -, -⟩ := hK
  match w, h1, h2 with
  | .castable C T, _, h2 => exact va_Nw.use rfl (hc C T h2)
  | .declares x, _, h2 => exact va_Nw.use rfl (hd x h2)
theorem kX_fit : Bundle.fit "java/util/NoSuchElementException" = true ∧ ∀ n ∈ ["java/lang/RuntimeException", "java/lang/Exception"], Bundle.fit n = true := by decide +kernel
set_option maxHeartbeats 2000000 in
theorem qt_throw {l : Launch} {d : Nat} {nL : Nat} {ret : Option FieldType} {h h' : qH} {pc : Nat} {ls : List (Nat × Value)} {y : MethodName} {cc : ByteArray} (hy : y.cls = RX9)
    (d0 : decode cc pc = .ok (.new 302, 3)) (d3 : decode cc (pc + 3) = .ok (.dup, 1)) (d4 : decode cc (pc + 4) = .ok (.invokespecial 304, 3)) (d7 : decode cc (pc + 7) = .ok (.athrow, 1)) (hd0 : 8 ≤ d) (hyp : some (qthr h) = some h') : q_T l d y cc nL ret h' pc ls [] h := by
  intro hfl h2
  cases hyp
  refine ⟨Nat.le_succ _, Nat.le_add_right _ _, fun G p e R s m args below meth c E hx H locs cells slots mc ms lc hR o1 o2 o3 hlo e1 e2 e3 e4 hl => ?_⟩
  obtain ⟨E1, E2, E3, E4, E5, E6, E7, E8, E9, E10, E11⟩ := id E
  have e1 : cells + (h.2.1 + 1) = mc + h.2.1 := e1
  have e2 : slots + (h.2.2 + 6) = ms + h.2.2 := e2
  have hS : va_S (q_fr G) s.heap H locs := ⟨o3, fun q _ z => by rw [o2 q (Nat.not_le.mp z)]; exact hR.2.1 q (Nat.not_le.mp z), hlo⟩
  have hkept : ∀ a : Nat, a < G.2.2.1.size → ¬ q_fr G a → s.heap[a]? = G.2.2.1[a]? := fun a _ z => o2 a (Nat.not_le.mp z)
  refine qx_throw0 (own := RX9) (cls := "java/util/NoSuchElementException") (names := ["java/lang/RuntimeException", "java/lang/Exception"]) (A := q_fr G) E1 E2 hfl (by rw [← hy]; exact E5) kX_fit.1 kX_fit.2 (E8 _ kN_throw) (E8 _ kZ_nse)
    (vx_hat (B := kX_rest) (fun w hw => E8 _ (q_in (kX_good w hw) (List.mem_filter.mp hw).2)) (fun w hw => hw) (kX_restK E9)) kX_ot (E9.2.2.2.2.2.2.2.2.2.2.2.2.1.kept hkept) (E9.2.2.2.2.2.2.2.2.2.2.2.2.2.kept hkept) hS (by rw [E4]; exact hl.1) d0 d3 d4 d7
    (fun x h9 => absurd (hx x h9) id) (by show 2 + 3 < _; omega) (by show 0 + (13 * (2 + 1) + 42) ≤ _; omega) (by omega) (by omega) E6 (fun t hvm hz hq => ⟨rfl, ?_⟩) hlo (by omega) (by omega)
  refine ⟨?_, fun q z => ?_, fun i c9 hc => ?_⟩
  · rw [hz]
    show _ = q_base G + (h.2.1 + 1)
    have := hR.1
    omega
  · rw [hq q (by have := hR.1; omega)]
    exact hR.2.1 q z
  · rcases hR.2.2 i c9 hc with z | z
    · exact Or.inl ⟨z.1, Nat.lt_succ_of_lt z.2.1, (z.2.2.kept (hq _ z.2.2.lt)).moved hvm⟩
    · exact Or.inr z
/-- the contract of a call that throws -/
def q_MT (l : Launch) (d : Nat) (y : MethodName) (cc : ByteArray) (maxL : Nat) (ret : Option FieldType) (as : List Value) (h : qH) (h' : qH) : Prop :=
  l.stackTraces = false → 2 ≤ h.2.1 → h.2.1 ≤ h'.2.1 ∧ h.2.2 ≤ h'.2.2 ∧ ∀ G : qG, vx_Met l y (.code y cc maxL ret :: q_tbl) { frames := d, cells := h'.2.1 - h.2.1, slots := h'.2.2 - h.2.2, locals := 60 * d } (q_Pc G as h) (fun _ _ _ _ => False) (q_XC G h') (h'.2.1 - h.2.1) (h'.2.2 - h.2.2) (q_fr G)
set_option maxHeartbeats 1000000 in
theorem q_MT.of {l : Launch} {d : Nat} {y : MethodName} {cc : ByteArray} {maxL : Nat} {ret : Option FieldType} {as : List Value} {h h' : qH} (hy : plainName y.cls = true) (hlen : (lg_sl as).length ≤ maxL) (k : q_T l d y cc maxL ret h' 0 (lv_args 0 as) [] h) : q_MT l d y cc maxL ret as h h' := by
  intro hfl h2
  obtain ⟨k1, k2, k3⟩ := k hfl h2
  refine ⟨k1, k2, fun G => ?_⟩
  refine vx_ofW (cc := cc) (maxL := maxL) (ret := ret) hy rfl ?_
  intro p e s m args below meth c s₁ B hml hxt hv
  obtain ⟨rfl, hR, hK⟩ := hv
  have hts := atoms_spec (ws := .code y cc maxL ret :: q_tbl) B.pre
  have hnm : meth.name = y.name := (name_of_methodNamed B.named B.method).1
  have E : q_Env G d y cc maxL ret p (headSpec (.code y cc maxL ret :: q_tbl) { frames := d, cells := h'.2.1 - h.2.1, slots := h'.2.2 - h.2.2, locals := 60 * d }).room s m (as.map (q_v G)).toArray meth c :=
    ⟨B.exec, B.bytes, B.returns, hml, findClass_of_methodNamed B.named, B.notSynchronized, hnm, fun w hw => hts w (List.mem_cons_of_mem _ hw), hK, Nat.le_refl _, Nat.le_refl _⟩
  have hl := lv_entry (as.map (q_v G)) (n := maxL) (by rw [q_sl_map]; exact hlen)
  rw [lg_entry_eq]
  generalize (lg_sl (as.map (q_v G)) ++ List.replicate (maxL - (lg_sl (as.map (q_v G))).length) Slot.unset).toArray = lc at hl ⊢
  rw [q_args_map] at hl
  exact k3 G p e _ s m _ below meth c E hxt s.heap [] 0 0 _ _ lc hR (Or.inr trivial) hR.2.1 (Nat.le_refl _) (fun q hq => by cases hq) (by omega) (by omega) (Nat.le_refl _) (Nat.le_refl _) hl
theorem dX9_rests_0 : decode cX9_rests 0 = .ok (.iload_n 1, 1) := by decide +kernel
theorem dX9_rests_1 : decode cX9_rests 1 = .ok (.iconst 0, 1) := by decide +kernel
theorem dX9_rests_2 : decode cX9_rests 2 = .ok (.bipush 9, 2) := by decide +kernel
theorem dX9_rests_4 : decode cX9_rests 4 = .ok (.invokestatic 180, 3) := by decide +kernel
theorem dX9_rests_7 : decode cX9_rests 7 = .ok (.ifCond .eq 23, 3) := by decide +kernel
theorem dX9_rests_10 : decode cX9_rests 10 = .ok (.iload_n 2, 1) := by decide +kernel
theorem dX9_rests_11 : decode cX9_rests 11 = .ok (.iconst 0, 1) := by decide +kernel
theorem dX9_rests_12 : decode cX9_rests 12 = .ok (.bipush 9, 2) := by decide +kernel
theorem dX9_rests_14 : decode cX9_rests 14 = .ok (.invokestatic 180, 3) := by decide +kernel
theorem dX9_rests_17 : decode cX9_rests 17 = .ok (.ifCond .eq 13, 3) := by decide +kernel
theorem dX9_rests_20 : decode cX9_rests 20 = .ok (.iload_n 3, 1) := by decide +kernel
theorem dX9_rests_21 : decode cX9_rests 21 = .ok (.iconst 0, 1) := by decide +kernel
theorem dX9_rests_22 : decode cX9_rests 22 = .ok (.bipush 9, 2) := by decide +kernel
theorem dX9_rests_24 : decode cX9_rests 24 = .ok (.invokestatic 180, 3) := by decide +kernel
theorem dX9_rests_27 : decode cX9_rests 27 = .ok (.ifCond .ne 11, 3) := by decide +kernel
theorem dX9_rests_30 : decode cX9_rests 30 = .ok (.new 302, 3) := by decide +kernel
theorem dX9_rests_33 : decode cX9_rests 33 = .ok (.dup, 1) := by decide +kernel
theorem dX9_rests_34 : decode cX9_rests 34 = .ok (.invokespecial 304, 3) := by decide +kernel
theorem dX9_rests_37 : decode cX9_rests 37 = .ok (.athrow, 1) := by decide +kernel
theorem dX9_rests_38 : decode cX9_rests 38 = .ok (.iconst 0, 1) := by decide +kernel
theorem dX9_rests_39 : decode cX9_rests 39 = .ok (.istore 5, 2) := by decide +kernel
theorem dX9_rests_41 : decode cX9_rests 41 = .ok (.iconst 0, 1) := by decide +kernel
theorem dX9_rests_42 : decode cX9_rests 42 = .ok (.istore 6, 2) := by decide +kernel
theorem dX9_rests_44 : decode cX9_rests 44 = .ok (.iload 6, 2) := by decide +kernel
theorem dX9_rests_46 : decode cX9_rests 46 = .ok (.iconst 4, 1) := by decide +kernel
theorem dX9_rests_47 : decode cX9_rests 47 = .ok (.if_icmp .ge 33, 3) := by decide +kernel
theorem dX9_rests_50 : decode cX9_rests 50 = .ok (.iload_n 1, 1) := by decide +kernel
theorem dX9_rests_51 : decode cX9_rests 51 = .ok (.iload_n 2, 1) := by decide +kernel
theorem dX9_rests_52 : decode cX9_rests 52 = .ok (.iload_n 3, 1) := by decide +kernel
theorem dX9_rests_53 : decode cX9_rests 53 = .ok (.iload 6, 2) := by decide +kernel
theorem dX9_rests_55 : decode cX9_rests 55 = .ok (.invokestatic 305, 3) := by decide +kernel
theorem dX9_rests_58 : decode cX9_rests 58 = .ok (.ifCond .eq 16, 3) := by decide +kernel
theorem dX9_rests_61 : decode cX9_rests 61 = .ok (.iload 5, 2) := by decide +kernel
theorem dX9_rests_63 : decode cX9_rests 63 = .ok (.iload 4, 2) := by decide +kernel
theorem dX9_rests_65 : decode cX9_rests 65 = .ok (.if_icmp .ne 6, 3) := by decide +kernel
theorem dX9_rests_68 : decode cX9_rests 68 = .ok (.iload 6, 2) := by decide +kernel
theorem dX9_rests_70 : decode cX9_rests 70 = .ok (.ireturn, 1) := by decide +kernel
theorem dX9_rests_71 : decode cX9_rests 71 = .ok (.iinc 5 1, 3) := by decide +kernel
theorem dX9_rests_74 : decode cX9_rests 74 = .ok (.iinc 6 1, 3) := by decide +kernel
theorem dX9_rests_77 : decode cX9_rests 77 = .ok (.goto (-33), 3) := by decide +kernel
theorem dX9_rests_80 : decode cX9_rests 80 = .ok (.iload 4, 2) := by decide +kernel
theorem dX9_rests_82 : decode cX9_rests 82 = .ok (.iconst (-1), 1) := by decide +kernel
theorem dX9_rests_83 : decode cX9_rests 83 = .ok (.if_icmp .eq 11, 3) := by decide +kernel
theorem dX9_rests_86 : decode cX9_rests 86 = .ok (.new 302, 3) := by decide +kernel
theorem dX9_rests_89 : decode cX9_rests 89 = .ok (.dup, 1) := by decide +kernel
theorem dX9_rests_90 : decode cX9_rests 90 = .ok (.invokespecial 304, 3) := by decide +kernel
theorem dX9_rests_93 : decode cX9_rests 93 = .ok (.athrow, 1) := by decide +kernel
theorem dX9_rests_94 : decode cX9_rests 94 = .ok (.iload 5, 2) := by decide +kernel
theorem dX9_rests_96 : decode cX9_rests 96 = .ok (.ireturn, 1) := by decide +kernel
def fX9_rests_b44 (n : Nat) : Nat → Int32 → Int32 → Int32 → Int32 → Int32 → Int32 → qH → Option (Int32 × qH)
  | 0, _, _, _, _, _, _, _ => none
  | w + 1, v1, v2, v3, v4, v5, v6, h =>
    if 4 ≤ v6 then
    (if v4 = ((-1)) then
    (some (v5, h))
    else
    (none))
    else
    ((fX9_isRest v1 v2 v3 v6 h).bind fun p3 =>
    if p3.1 = 0 then
    (fX9_rests_b44 n w v1 v2 v3 v4 v5 (v6 + 1) p3.2)
    else
    (if v5 = v4 then
    (some (v6, p3.2))
    else
    (fX9_rests_b44 n w v1 v2 v3 v4 (v5 + 1) (v6 + 1) p3.2)))
set_option maxHeartbeats 4000000 in
set_option maxRecDepth 100000 in
theorem okX9_rests_b44 {l : Launch} {n : Nat} {r : Int32} {h' : qH} : ∀ (w : Nat) (v1 : Int32) (v2 : Int32) (v3 : Int32) (v4 : Int32) (v5 : Int32) (v6 : Int32) (h : qH), fX9_rests_b44 n w v1 v2 v3 v4 v5 v6 h = some (r, h') → q_W l 8 yX9_rests cX9_rests 7 (some .int) (some (.int r)) h' 44 [(1, .int v1), (2, .int v2), (3, .int v3), (4, .int v4), (5, .int v5), (6, .int v6)] [] h := by
  intro w
  induction w with
  | zero => intro v1 v2 v3 v4 v5 v6 h hyp; cases hyp
  | succ w ih =>
    intro v1 v2 v3 v4 v5 v6 h hyp
    unfold fX9_rests_b44 at hyp
    refine q_iload 5 rfl dX9_rests_44 ?_
    refine q_iconst (x := 4) rfl dX9_rests_46 ?_
    refine q_icmp_ge (tgt := 80) dX9_rests_47 (by decide) (fun c1 => ?_) (fun c1 => ?_)
    · have hyp := q_pos c1 hyp
      refine q_iload 3 rfl dX9_rests_80 ?_
      refine q_iconst (x := (-1)) rfl dX9_rests_82 ?_
      refine q_icmp_eq (tgt := 94) dX9_rests_83 (by decide) (fun c2 => ?_) (fun c2 => ?_)
      · have hyp := q_pos c2 hyp
        refine q_iload 4 rfl dX9_rests_94 ?_
        exact q_iretH rfl rfl dX9_rests_96 hyp
      · have hyp := q_neg c2 hyp
        cases hyp
    · have hyp := q_neg c1 hyp
      refine q_iload_n 0 rfl dX9_rests_50 ?_
      refine q_iload_n 1 rfl dX9_rests_51 ?_
      refine q_iload_n 2 rfl dX9_rests_52 ?_
      refine q_iload 5 rfl dX9_rests_53 ?_
      refine q_bind hyp (fun p3 e6 hyp => ?_)
      refine q_callS (as := [.int v1, .int v2, .int v3, .int v6]) (st := []) kY_X9_isRest kS_X9_isRest kL_X9_305 (okX9_isRest (l := l) e6) (by decide) rfl (Nat.le_of_ble_eq_true rfl) dX9_rests_55 ?_
      refine q_to (ls' := [(1, .int v1), (2, .int v2), (3, .int v3), (4, .int v4), (5, .int v5), (6, .int v6)]) (st' := [.int p3.1]) rfl rfl ?_
      refine q_if_eq (tgt := 74) dX9_rests_58 (by decide) (fun c4 => ?_) (fun c4 => ?_)
      · have hyp := q_pos c4 hyp
        refine q_iinc (ls' := [(6, .int (v6 + 1)), (1, .int v1), (2, .int v2), (3, .int v3), (4, .int v4), (5, .int v5)]) 5 rfl rfl (by decide) rfl dX9_rests_74 ?_
        refine q_goto (tgt := 44) dX9_rests_77 (by decide) ?_
        exact q_sub [1, 2, 3, 4, 5, 0] rfl (ih v1 v2 v3 v4 v5 (v6 + 1) p3.2 hyp)
      · have hyp := q_neg c4 hyp
        refine q_iload 4 rfl dX9_rests_61 ?_
        refine q_iload 3 rfl dX9_rests_63 ?_
        refine q_icmp_ne (tgt := 71) dX9_rests_65 (by decide) (fun c5 => ?_) (fun c5 => ?_)
        · have hyp := q_neg c5 hyp
          refine q_iinc (ls' := [(5, .int (v5 + 1)), (1, .int v1), (2, .int v2), (3, .int v3), (4, .int v4), (6, .int v6)]) 4 rfl rfl (by decide) rfl dX9_rests_71 ?_
          refine q_iinc (ls' := [(6, .int (v6 + 1)), (5, .int (v5 + 1)), (1, .int v1), (2, .int v2), (3, .int v3), (4, .int v4)]) 5 rfl rfl (by decide) rfl dX9_rests_74 ?_
          refine q_goto (tgt := 44) dX9_rests_77 (by decide) ?_
          exact q_sub [2, 3, 4, 5, 1, 0] rfl (ih v1 v2 v3 v4 (v5 + 1) (v6 + 1) p3.2 hyp)
        · have hyp := q_pos c5 hyp
          refine q_iload 5 rfl dX9_rests_68 ?_
          exact q_iretH rfl rfl dX9_rests_70 hyp
def fX9_rests_b30 (n : Nat)  (h : qH) : Option (Int32 × qH) :=
  none
set_option maxHeartbeats 4000000 in
set_option maxRecDepth 100000 in
theorem okX9_rests_b30 {l : Launch} {n : Nat}  {h : qH} {r : Int32} {h' : qH} (hyp : fX9_rests_b30 n  h = some (r, h')) : q_W l 8 yX9_rests cX9_rests 7 (some .int) (some (.int r)) h' 30 [] [] h := by
  unfold fX9_rests_b30 at hyp
  cases hyp
def fX9_rests (n : Nat) (v0 : Nat) (v1 : Int32) (v2 : Int32) (v3 : Int32) (v4 : Int32) (h : qH) : Option (Int32 × qH) :=
  (isO h v0 9).bind fun _ =>
  (fX9_within v1 0 9 h).bind fun p1 =>
  if p1.1 = 0 then
  (fX9_rests_b30 n p1.2)
  else
  ((fX9_within v2 0 9 p1.2).bind fun p3 =>
  if p3.1 = 0 then
  (fX9_rests_b30 n p3.2)
  else
  ((fX9_within v3 0 9 p3.2).bind fun p5 =>
  if p5.1 = 0 then
  (fX9_rests_b30 n p5.2)
  else
  (fX9_rests_b44 n n v1 v2 v3 v4 0 0 p5.2)))
theorem obX9_rests {n : Nat} {v0 : Nat} {v1 : Int32} {v2 : Int32} {v3 : Int32} {v4 : Int32} {h : qH} {p : Int32 × qH} (hyp : fX9_rests n v0 v1 v2 v3 v4 h = some p) : ∃ fs, h.1 v0 = some (.inr (9, fs)) := by
  unfold fX9_rests at hyp
  exact q_bind hyp (fun _ e _ => isO_some e)
set_option maxHeartbeats 4000000 in
set_option maxRecDepth 100000 in
theorem okX9_rests {l : Launch} {n : Nat} {v0 : Nat} {v1 : Int32} {v2 : Int32} {v3 : Int32} {v4 : Int32} {h : qH} {p : Int32 × qH} (hyp : fX9_rests n v0 v1 v2 v3 v4 h = some p) : q_M l 8 yX9_rests cX9_rests 7 (some .int) [.ref v0, .int v1, .int v2, .int v3, .int v4] h (some (.int p.1)) p.2 := by
  obtain ⟨r, h'⟩ := p
  unfold fX9_rests at hyp
  refine q_bind hyp (fun _ _ hyp => ?_)
  refine q_M.of (by decide) (Nat.le_of_ble_eq_true rfl) ?_
  refine q_to (ls' := [(0, .ref v0), (1, .int v1), (2, .int v2), (3, .int v3), (4, .int v4)]) (st' := []) rfl rfl ?_
  refine q_iload_n 1 rfl dX9_rests_0 ?_
  refine q_iconst (x := 0) rfl dX9_rests_1 ?_
  refine q_bipush (x := 9) (by decide) dX9_rests_2 ?_
  refine q_bind hyp (fun p1 e9 hyp => ?_)
  refine q_callS (as := [.int v1, .int 0, .int 9]) (st := []) kY_X9_within kS_X9_within kL_X9_180 (okX9_within (l := l) e9) (by decide) rfl (Nat.le_of_ble_eq_true rfl) dX9_rests_4 ?_
  refine q_to (ls' := [(0, .ref v0), (1, .int v1), (2, .int v2), (3, .int v3), (4, .int v4)]) (st' := [.int p1.1]) rfl rfl ?_
  refine q_if_eq (tgt := 30) dX9_rests_7 (by decide) (fun c2 => ?_) (fun c2 => ?_)
  · have hyp := q_pos c2 hyp
    exact q_sub [] rfl (okX9_rests_b30 hyp)
  · have hyp := q_neg c2 hyp
    refine q_iload_n 2 rfl dX9_rests_10 ?_
    refine q_iconst (x := 0) rfl dX9_rests_11 ?_
    refine q_bipush (x := 9) (by decide) dX9_rests_12 ?_
    refine q_bind hyp (fun p3 e8 hyp => ?_)
    refine q_callS (as := [.int v2, .int 0, .int 9]) (st := []) kY_X9_within kS_X9_within kL_X9_180 (okX9_within (l := l) e8) (by decide) rfl (Nat.le_of_ble_eq_true rfl) dX9_rests_14 ?_
    refine q_to (ls' := [(0, .ref v0), (1, .int v1), (2, .int v2), (3, .int v3), (4, .int v4)]) (st' := [.int p3.1]) rfl rfl ?_
    refine q_if_eq (tgt := 30) dX9_rests_17 (by decide) (fun c4 => ?_) (fun c4 => ?_)
    · have hyp := q_pos c4 hyp
      exact q_sub [] rfl (okX9_rests_b30 hyp)
    · have hyp := q_neg c4 hyp
      refine q_iload_n 3 rfl dX9_rests_20 ?_
      refine q_iconst (x := 0) rfl dX9_rests_21 ?_
      refine q_bipush (x := 9) (by decide) dX9_rests_22 ?_
      refine q_bind hyp (fun p5 e7 hyp => ?_)
      refine q_callS (as := [.int v3, .int 0, .int 9]) (st := []) kY_X9_within kS_X9_within kL_X9_180 (okX9_within (l := l) e7) (by decide) rfl (Nat.le_of_ble_eq_true rfl) dX9_rests_24 ?_
      refine q_to (ls' := [(0, .ref v0), (1, .int v1), (2, .int v2), (3, .int v3), (4, .int v4)]) (st' := [.int p5.1]) rfl rfl ?_
      refine q_if_ne (tgt := 38) dX9_rests_27 (by decide) (fun c6 => ?_) (fun c6 => ?_)
      · have hyp := q_neg c6 hyp
        refine q_iconst (x := 0) rfl dX9_rests_38 ?_
        refine q_istore (ls' := [(5, .int 0), (0, .ref v0), (1, .int v1), (2, .int v2), (3, .int v3), (4, .int v4)]) (by decide) rfl dX9_rests_39 ?_
        refine q_iconst (x := 0) rfl dX9_rests_41 ?_
        refine q_istore (ls' := [(6, .int 0), (5, .int 0), (0, .ref v0), (1, .int v1), (2, .int v2), (3, .int v3), (4, .int v4)]) (by decide) rfl dX9_rests_42 ?_
        exact q_sub [3, 4, 5, 6, 1, 0] rfl (okX9_rests_b44 _ v1 v2 v3 v4 0 0 p5.2 hyp)
      · have hyp := q_pos c6 hyp
        exact q_sub [] rfl (okX9_rests_b30 hyp)
def fX9_restsT_b44 (n : Nat) : Nat → Int32 → Int32 → Int32 → Int32 → Int32 → Int32 → qH → Option (qH)
  | 0, _, _, _, _, _, _, _ => none
  | w + 1, v1, v2, v3, v4, v5, v6, h =>
    if 4 ≤ v6 then
    (if v4 = ((-1)) then
    (none)
    else
    (some (qthr h)))
    else
    ((fX9_isRest v1 v2 v3 v6 h).bind fun p3 =>
    if p3.1 = 0 then
    (fX9_restsT_b44 n w v1 v2 v3 v4 v5 (v6 + 1) p3.2)
    else
    (if v5 = v4 then
    (none)
    else
    (fX9_restsT_b44 n w v1 v2 v3 v4 (v5 + 1) (v6 + 1) p3.2)))
set_option maxHeartbeats 4000000 in
set_option maxRecDepth 100000 in
theorem okX9_restsT_b44 {l : Launch} {n : Nat} {h' : qH} : ∀ (w : Nat) (v1 : Int32) (v2 : Int32) (v3 : Int32) (v4 : Int32) (v5 : Int32) (v6 : Int32) (h : qH), fX9_restsT_b44 n w v1 v2 v3 v4 v5 v6 h = some h' → q_T l 8 yX9_rests cX9_rests 7 (some .int) h' 44 [(1, .int v1), (2, .int v2), (3, .int v3), (4, .int v4), (5, .int v5), (6, .int v6)] [] h := by
  intro w
  induction w with
  | zero => intro v1 v2 v3 v4 v5 v6 h hyp; cases hyp
  | succ w ih =>
    intro v1 v2 v3 v4 v5 v6 h hyp
    unfold fX9_restsT_b44 at hyp
    refine qt_iload 5 rfl dX9_rests_44 ?_
    refine qt_iconst (x := 4) rfl dX9_rests_46 ?_
    refine qt_icmp_ge (tgt := 80) dX9_rests_47 (by decide) (fun c1 => ?_) (fun c1 => ?_)
    · have hyp := q_pos c1 hyp
      refine qt_iload 3 rfl dX9_rests_80 ?_
      refine qt_iconst (x := (-1)) rfl dX9_rests_82 ?_
      refine qt_icmp_eq (tgt := 94) dX9_rests_83 (by decide) (fun c2 => ?_) (fun c2 => ?_)
      · have hyp := q_pos c2 hyp
        refine qt_iload 4 rfl dX9_rests_94 ?_
        cases hyp
      · have hyp := q_neg c2 hyp
        exact qt_throw rfl dX9_rests_86 dX9_rests_89 dX9_rests_90 dX9_rests_93 (by decide) hyp
    · have hyp := q_neg c1 hyp
      refine qt_iload_n 0 rfl dX9_rests_50 ?_
      refine qt_iload_n 1 rfl dX9_rests_51 ?_
      refine qt_iload_n 2 rfl dX9_rests_52 ?_
      refine qt_iload 5 rfl dX9_rests_53 ?_
      refine q_bind hyp (fun p3 e6 hyp => ?_)
      refine qt_callS (as := [.int v1, .int v2, .int v3, .int v6]) (st := []) kY_X9_isRest kS_X9_isRest kL_X9_305 (okX9_isRest (l := l) e6) (by decide) rfl (Nat.le_of_ble_eq_true rfl) dX9_rests_55 ?_
      refine qt_to (ls' := [(1, .int v1), (2, .int v2), (3, .int v3), (4, .int v4), (5, .int v5), (6, .int v6)]) (st' := [.int p3.1]) rfl rfl ?_
      refine qt_if_eq (tgt := 74) dX9_rests_58 (by decide) (fun c4 => ?_) (fun c4 => ?_)
      · have hyp := q_pos c4 hyp
        refine qt_iinc (ls' := [(6, .int (v6 + 1)), (1, .int v1), (2, .int v2), (3, .int v3), (4, .int v4), (5, .int v5)]) 5 rfl rfl (by decide) rfl dX9_rests_74 ?_
        refine qt_goto (tgt := 44) dX9_rests_77 (by decide) ?_
        exact qt_sub [1, 2, 3, 4, 5, 0] rfl (ih v1 v2 v3 v4 v5 (v6 + 1) p3.2 hyp)
      · have hyp := q_neg c4 hyp
        refine qt_iload 4 rfl dX9_rests_61 ?_
        refine qt_iload 3 rfl dX9_rests_63 ?_
        refine qt_icmp_ne (tgt := 71) dX9_rests_65 (by decide) (fun c5 => ?_) (fun c5 => ?_)
        · have hyp := q_neg c5 hyp
          refine qt_iinc (ls' := [(5, .int (v5 + 1)), (1, .int v1), (2, .int v2), (3, .int v3), (4, .int v4), (6, .int v6)]) 4 rfl rfl (by decide) rfl dX9_rests_71 ?_
          refine qt_iinc (ls' := [(6, .int (v6 + 1)), (5, .int (v5 + 1)), (1, .int v1), (2, .int v2), (3, .int v3), (4, .int v4)]) 5 rfl rfl (by decide) rfl dX9_rests_74 ?_
          refine qt_goto (tgt := 44) dX9_rests_77 (by decide) ?_
          exact qt_sub [2, 3, 4, 5, 1, 0] rfl (ih v1 v2 v3 v4 (v5 + 1) (v6 + 1) p3.2 hyp)
        · have hyp := q_pos c5 hyp
          refine qt_iload 5 rfl dX9_rests_68 ?_
          cases hyp
def fX9_restsT_b30 (n : Nat)  (h : qH) : Option (qH) :=
  some (qthr h)
set_option maxHeartbeats 4000000 in
set_option maxRecDepth 100000 in
theorem okX9_restsT_b30 {l : Launch} {n : Nat}  {h : qH} {h' : qH} (hyp : fX9_restsT_b30 n  h = some h') : q_T l 8 yX9_rests cX9_rests 7 (some .int) h' 30 [] [] h := by
  unfold fX9_restsT_b30 at hyp
  exact qt_throw rfl dX9_rests_30 dX9_rests_33 dX9_rests_34 dX9_rests_37 (by decide) hyp
def fX9_restsT (n : Nat) (v0 : Nat) (v1 : Int32) (v2 : Int32) (v3 : Int32) (v4 : Int32) (h : qH) : Option (qH) :=
  (isO h v0 9).bind fun _ =>
  (fX9_within v1 0 9 h).bind fun p1 =>
  if p1.1 = 0 then
  (fX9_restsT_b30 n p1.2)
  else
  ((fX9_within v2 0 9 p1.2).bind fun p3 =>
  if p3.1 = 0 then
  (fX9_restsT_b30 n p3.2)
  else
  ((fX9_within v3 0 9 p3.2).bind fun p5 =>
  if p5.1 = 0 then
  (fX9_restsT_b30 n p5.2)
  else
  (fX9_restsT_b44 n n v1 v2 v3 v4 0 0 p5.2)))
theorem obX9_restsT {n : Nat} {v0 : Nat} {v1 : Int32} {v2 : Int32} {v3 : Int32} {v4 : Int32} {h : qH} {p : qH} (hyp : fX9_restsT n v0 v1 v2 v3 v4 h = some p) : ∃ fs, h.1 v0 = some (.inr (9, fs)) := by
  unfold fX9_restsT at hyp
  exact q_bind hyp (fun _ e _ => isO_some e)
set_option maxHeartbeats 4000000 in
set_option maxRecDepth 100000 in
theorem okX9_restsT {l : Launch} {n : Nat} {v0 : Nat} {v1 : Int32} {v2 : Int32} {v3 : Int32} {v4 : Int32} {h : qH} {h' : qH} (hyp : fX9_restsT n v0 v1 v2 v3 v4 h = some h') : q_MT l 8 yX9_rests cX9_rests 7 (some .int) [.ref v0, .int v1, .int v2, .int v3, .int v4] h h' := by
  unfold fX9_restsT at hyp
  refine q_bind hyp (fun _ _ hyp => ?_)
  refine q_MT.of (by decide) (Nat.le_of_ble_eq_true rfl) ?_
  refine qt_to (ls' := [(0, .ref v0), (1, .int v1), (2, .int v2), (3, .int v3), (4, .int v4)]) (st' := []) rfl rfl ?_
  refine qt_iload_n 1 rfl dX9_rests_0 ?_
  refine qt_iconst (x := 0) rfl dX9_rests_1 ?_
  refine qt_bipush (x := 9) (by decide) dX9_rests_2 ?_
  refine q_bind hyp (fun p1 e9 hyp => ?_)
  refine qt_callS (as := [.int v1, .int 0, .int 9]) (st := []) kY_X9_within kS_X9_within kL_X9_180 (okX9_within (l := l) e9) (by decide) rfl (Nat.le_of_ble_eq_true rfl) dX9_rests_4 ?_
  refine qt_to (ls' := [(0, .ref v0), (1, .int v1), (2, .int v2), (3, .int v3), (4, .int v4)]) (st' := [.int p1.1]) rfl rfl ?_
  refine qt_if_eq (tgt := 30) dX9_rests_7 (by decide) (fun c2 => ?_) (fun c2 => ?_)
  · have hyp := q_pos c2 hyp
    exact qt_sub [] rfl (okX9_restsT_b30 hyp)
  · have hyp := q_neg c2 hyp
    refine qt_iload_n 2 rfl dX9_rests_10 ?_
    refine qt_iconst (x := 0) rfl dX9_rests_11 ?_
    refine qt_bipush (x := 9) (by decide) dX9_rests_12 ?_
    refine q_bind hyp (fun p3 e8 hyp => ?_)
    refine qt_callS (as := [.int v2, .int 0, .int 9]) (st := []) kY_X9_within kS_X9_within kL_X9_180 (okX9_within (l := l) e8) (by decide) rfl (Nat.le_of_ble_eq_true rfl) dX9_rests_14 ?_
    refine qt_to (ls' := [(0, .ref v0), (1, .int v1), (2, .int v2), (3, .int v3), (4, .int v4)]) (st' := [.int p3.1]) rfl rfl ?_
    refine qt_if_eq (tgt := 30) dX9_rests_17 (by decide) (fun c4 => ?_) (fun c4 => ?_)
    · have hyp := q_pos c4 hyp
      exact qt_sub [] rfl (okX9_restsT_b30 hyp)
    · have hyp := q_neg c4 hyp
      refine qt_iload_n 3 rfl dX9_rests_20 ?_
      refine qt_iconst (x := 0) rfl dX9_rests_21 ?_
      refine qt_bipush (x := 9) (by decide) dX9_rests_22 ?_
      refine q_bind hyp (fun p5 e7 hyp => ?_)
      refine qt_callS (as := [.int v3, .int 0, .int 9]) (st := []) kY_X9_within kS_X9_within kL_X9_180 (okX9_within (l := l) e7) (by decide) rfl (Nat.le_of_ble_eq_true rfl) dX9_rests_24 ?_
      refine qt_to (ls' := [(0, .ref v0), (1, .int v1), (2, .int v2), (3, .int v3), (4, .int v4)]) (st' := [.int p5.1]) rfl rfl ?_
      refine qt_if_ne (tgt := 38) dX9_rests_27 (by decide) (fun c6 => ?_) (fun c6 => ?_)
      · have hyp := q_neg c6 hyp
        refine qt_iconst (x := 0) rfl dX9_rests_38 ?_
        refine qt_istore (ls' := [(5, .int 0), (0, .ref v0), (1, .int v1), (2, .int v2), (3, .int v3), (4, .int v4)]) (by decide) rfl dX9_rests_39 ?_
        refine qt_iconst (x := 0) rfl dX9_rests_41 ?_
        refine qt_istore (ls' := [(6, .int 0), (5, .int 0), (0, .ref v0), (1, .int v1), (2, .int v2), (3, .int v3), (4, .int v4)]) (by decide) rfl dX9_rests_42 ?_
        exact qt_sub [3, 4, 5, 6, 1, 0] rfl (okX9_restsT_b44 _ v1 v2 v3 v4 0 0 p5.2 hyp)
      · have hyp := q_pos c6 hyp
        exact qt_sub [] rfl (okX9_restsT_b30 hyp)
