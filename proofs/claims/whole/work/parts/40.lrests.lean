/-! THE CATCH: a thrown object is taken by the one row of the method's table. -/
theorem qx_find {e : Env} {s : State} {f : JFrame} {a : Addr} {meth : Method} {cd : Code} (hm : s.vm.method? f.method = some meth) (hc : meth.code = some cd) {x : ExceptionTableEntry} (htab : cd.exceptionTable.toList = [x]) (hx : covers x f.pc = true) (h0 : x.catchType ≠ 0) {c : ClassId} {ce : Cell}
    (hl : s.vm.ClassLinks e.platform f.method.cls x.catchType c) (hcell : s.heap[a]? = some ce) (hobj : ∀ k, ce.vm ≠ .statics k) (hk : ∃ k, s.vm.classes[ce.cls]? = some k) (hcl : ∃ k, s.vm.classes[c]? = some k) (hfit : s.vm.assignable ce.cls c = true) :
    ∀ (Q : Handler → Pre) (E : CtlPost) (d : Bool) (acts : List Action), wp (findHandler f a) Q E e d acts s ↔ Q (.found x.handlerPc) d acts (s.setVm (s.vm.noted f.method.cls x.catchType (.cls c))) := by
  intro Q E d acts
  rw [Jvm.W.findHandler_eq hm hc, htab]
  simp only [covers] at hx
  obtain ⟨ha, ht⟩ := (resolveClass_links e.toSetting hl).op (op := VmOp.resolveClass f.method.cls x.catchType) rfl
  have hal : s.vm.Alike (s.vm.noted f.method.cls x.catchType (.cls c)) := (Vm.Alike.refl s.vm).noted _ _ _
  obtain ⟨k1, hk1⟩ := hk
  obtain ⟨k2, hk2⟩ := hcl
  obtain ⟨k1', hk1', -⟩ := hal.2.2 _ _ hk1
  obtain ⟨k2', hk2', -⟩ := hal.2.2 _ _ hk2
  have hfit' : (s.vm.noted f.method.cls x.catchType (.cls c)).assignable ce.cls c = true := by rw [hal.assignable]; exact hfit
  simp [findHandler.go, hx, h0, ha, ht, hcell, hobj, hk1', hk2', hfit', VmOp.dirties, VmOp.acts]
theorem qx_step {e : Env} {s : State} {a : Addr} {f : JFrame} {r : List Frame} {pc : Nat} {vm' : Vm} (hfind : ∀ (Q : Handler → Pre) (E : CtlPost) (d : Bool) (acts : List Action), wp (findHandler f a) Q E e d acts s ↔ Q (.found pc) d acts (s.setVm vm')) :
    (stepThrowing e s a (.java f :: r)).Is ((s.setVm vm').setFrames (.java { f with pc := pc, stack := [.ref a] } :: r)) [] := by
  simp only [stepThrowing, searchFrame, vmDo]
  generalize hr : Sem.go _ e false [] s = res
  obtain ⟨as, rfl, ha⟩ := Sem.eq_ok_of hr (a := Handler.found pc) (s' := s.setVm vm') (acts' := []) (by simp [hfind _ _ _ _])
  exact ⟨rfl, ha⟩
theorem qx_fr (u : State) (vm' : Vm) (F G : List Frame) : ((u.setFrames F).setVm vm').setFrames G = (u.setVm vm').setFrames G := by
  have h1 : (u.setFrames F).setVm vm' = (u.setVm vm').setFrames F := rfl
  rw [h1, State.setFrames_setFrames]
section QCatch
variable {p : Program} {l : Launch} {e : Env} {R : Room} {s : State} {m : MethodId} {args : Array Value} {below : List Frame} {meth : Method} {c : Code} {H : Heap} {locs : List Loc} {cells slots : Nat} {Q : State → Prop} {pc : Nat} {ls : Array Slot} {rest : List Value}
theorem qx_catch {own name E : String} {ce : Cell} {q : Addr} {x : ExceptionTableEntry} (hown : s.vm.findClass own = some m.cls) (htab : c.exceptionTable.toList = [x]) (hx : covers x pc = true) (h0 : x.catchType ≠ 0)
    (hlink : (Cond.classLink own x.catchType name).before args s = true) (hcast : (Cond.castable E name).before args s = true) (hcell : H[q]? = some ce) (hv : ce.vm = .none) (hcl : s.vm.findClass E = some ce.cls)
    (kk : W p l e R s m args below meth c H locs cells slots Q (F0 m x.handlerPc ls [.ref q])) : vx_W p l e R s m args below meth c H locs cells slots Q (F0 m pc ls rest) q := by
  intro T hT X
  have hpl : e.platform.magicAccessors = ({} : Platform).magicAccessors := by rw [X.admits.platform]
  obtain ⟨c3, c4, hc3, hc4, hasg⟩ := Cond.castable_spec hcast
  cases Option.some.inj (hc3.symm.trans hcl)
  obtain ⟨c5, hc5, hcl5⟩ := Cond.classLink_spec hown hlink e.platform hpl
  cases Option.some.inj (hc4.symm.trans hc5)
  obtain ⟨dk, _, _, kt, hd, _, _, _, _, hkt, _, hopen⟩ := hcl5.here
  obtain ⟨k9, h9, -⟩ := Vm.findClass_spec hcl
  have hW := X.warmed
  obtain ⟨k0', hk0', -⟩ := hW.alike.2.2 _ _ h9
  obtain ⟨kt', hkt', -⟩ := hW.alike.2.2 _ _ hkt
  have hW' : s.WarmedH (T.vm.noted m.cls x.catchType (.cls c4)) := hW.noted hd hopen (State.rightAt_cls hcl5)
  have hf := qx_find (e := e) (s := (T.setTop (F0 m pc ls rest)).pushFrame (.throwing q)) (f := F0 m pc ls rest) (a := q) (meth := meth) (cd := c) X.method' X.code htab hx h0 (c := c4) (ce := ce) (hW.classLinks hcl5) (by show T.heap[q]? = some ce; rw [hT]; exact hcell) (fun k h => by rw [hv] at h; cases h) ⟨k0', hk0'⟩ ⟨kt', hkt'⟩ (by show T.vm.assignable _ _ = true; rw [hW.alike.assignable]; exact hasg)
  obtain ⟨t, a1, b1⟩ := kk (T.setVm (T.vm.noted m.cls x.catchType (.cls c4))) hT (X.noted hW')
  refine ⟨t, ?_, b1⟩
  have h := X.here
  obtain ⟨hgo, hw⟩ := h.throwing (g := F0 m pc ls rest) q
  refine Steps.head hgo hw ?_
  rw [stepThread_throwing (frames_entered h.top _), (qx_step (s := (T.setTop (F0 m pc ls rest)).pushFrame (.throwing q)) hf).1]
  obtain ⟨g₀, hg⟩ := Option.isSome_iff_exists.mp h.top
  obtain ⟨r, hr⟩ := State.topJava?_eq_some.mp hg
  have hr' : (T.setVm (T.vm.noted m.cls x.catchType (.cls c4))).frames = .java g₀ :: r := hr
  rw [State.setTop_of_frames _ hr'] at a1
  rw [hr, List.tail_cons, State.pushFrame, qx_fr, State.setTop_of_frames _ hr, qx_fr]
  exact a1
end QCatch
theorem met_of_vx {l : Launch} {y : MethodName} {ws : List Cond} {rm : Room} {Pc : Array Value → State → Prop} {Qc : Array Value → State → Outcome → State → Prop} {mc ms : Nat} {free : Addr → Prop} (h : vx_Met l y ws rm Pc Qc (fun _ _ _ => False) mc ms free) : Met l y ws rm Pc Qc mc ms free := by
  intro p e h1 h2 h3 s m args below h4 h5 h6 h7
  obtain ⟨n, o, a1, a2, a3, a4⟩ := h p e h1 h2 h3 s m args below h4 h5 h6 h7
  refine ⟨n, o, a1, a2, a3, ?_⟩
  rcases a4 with a4 | ⟨q, -, E, ce, L, hF, -⟩
  · exact a4
  · exact absurd hF id
abbrev hhL : List (Nat × Nat × Nat × Nat) := [(0, 14, 17, 13)]
/-- the contract of a call of a method with a table -/
def q_MW (l : Launch) (d : Nat) (y : MethodName) (cc : ByteArray) (maxL : Nat) (ret : Option FieldType) (as : List Value) (h : qH) (r : Option Value) (h' : qH) : Prop :=
  2 ≤ h.2.1 → h.2.1 ≤ h'.2.1 ∧ h.2.2 ≤ h'.2.2 ∧ ∀ G : qG, Met l y (.codeWith y cc maxL ret hhL :: q_tbl) { frames := d, cells := h'.2.1 - h.2.1, slots := h'.2.2 - h.2.2, locals := 60 * d } (q_Pc G as h) (q_Qc G r h') (h'.2.1 - h.2.1) (h'.2.2 - h.2.2) (q_fr G)
set_option maxHeartbeats 1000000 in
theorem q_MW.of {l : Launch} {d : Nat} {y : MethodName} {cc : ByteArray} {maxL : Nat} {ret : Option FieldType} {as : List Value} {h : qH} {r : Option Value} {h' : qH} (hy : plainName y.cls = true) (hlen : (lg_sl as).length ≤ maxL) (k : q_W l d y cc maxL ret r h' 0 (lv_args 0 as) [] h) : q_MW l d y cc maxL ret as h r h' := by
  intro h2
  obtain ⟨k1, k2, k3⟩ := k h2
  refine ⟨k1, k2, fun G => met_of_vx ?_⟩
  refine vx_ofWH (cc := cc) (maxL := maxL) (ret := ret) (hh := hhL) hy rfl ?_
  intro p e s m args below meth c s₁ B hml hv
  obtain ⟨rfl, hR, hK⟩ := hv
  have hts := atoms_spec (ws := .codeWith y cc maxL ret hhL :: q_tbl) B.pre
  have hnm : meth.name = y.name := (name_of_methodNamed B.named B.method).1
  have E : q_Env G d y cc maxL ret p (headSpec (.codeWith y cc maxL ret hhL :: q_tbl) { frames := d, cells := h'.2.1 - h.2.1, slots := h'.2.2 - h.2.2, locals := 60 * d }).room s m (as.map (q_v G)).toArray meth c :=
    ⟨B.exec, B.bytes, B.returns, hml, findClass_of_methodNamed B.named, B.notSynchronized, hnm, fun w hw => hts w (List.mem_cons_of_mem _ hw), hK, Nat.le_refl _, Nat.le_refl _⟩
  have hl := lv_entry (as.map (q_v G)) (n := maxL) (by rw [q_sl_map]; exact hlen)
  rw [lg_entry_eq]
  generalize (lg_sl (as.map (q_v G)) ++ List.replicate (maxL - (lg_sl (as.map (q_v G))).length) Slot.unset).toArray = lc at hl ⊢
  rw [q_args_map] at hl
  exact vx_ret (k3 G p e _ s m _ below meth c E s.heap [] 0 0 _ _ lc hR (fun q hq => by cases hq) (by omega) (by omega) (Nat.le_refl _) (Nat.le_refl _) hl)
theorem dL_rests_0 : decode cL_rests 0 = .ok (.aload 5, 2) := by decide +kernel
theorem dL_rests_2 : decode cL_rests 2 = .ok (.iconst 0, 1) := by decide +kernel
theorem dL_rests_3 : decode cL_rests 3 = .ok (.aload_n 0, 1) := by decide +kernel
theorem dL_rests_4 : decode cL_rests 4 = .ok (.iload_n 1, 1) := by decide +kernel
theorem dL_rests_5 : decode cL_rests 5 = .ok (.iload_n 2, 1) := by decide +kernel
theorem dL_rests_6 : decode cL_rests 6 = .ok (.iload_n 3, 1) := by decide +kernel
theorem dL_rests_7 : decode cL_rests 7 = .ok (.iload 4, 2) := by decide +kernel
theorem dL_rests_9 : decode cL_rests 9 = .ok (.invokevirtual 7, 3) := by decide +kernel
theorem dL_rests_12 : decode cL_rests 12 = .ok (.i2l, 1) := by decide +kernel
theorem dL_rests_13 : decode cL_rests 13 = .ok (.lastore, 1) := by decide +kernel
theorem dL_rests_14 : decode cL_rests 14 = .ok (.goto 7, 3) := by decide +kernel
theorem dL_rests_17 : decode cL_rests 17 = .ok (.astore 6, 2) := by decide +kernel
theorem dL_rests_19 : decode cL_rests 19 = .ok (.iconst 1, 1) := by decide +kernel
theorem dL_rests_20 : decode cL_rests 20 = .ok (.ireturn, 1) := by decide +kernel
theorem dL_rests_21 : decode cL_rests 21 = .ok (.iconst 0, 1) := by decide +kernel
theorem dL_rests_22 : decode cL_rests 22 = .ok (.ireturn, 1) := by decide +kernel
def fL_rests (n : Nat) (v0 : Nat) (v1 v2 v3 v4 : Int32) (v5 : Nat) (h : qH) : Option (Int32 × qH) := match fX9_rests n v0 v1 v2 v3 v4 h with
  | some p => (sL p.2 v5 0 p.1.toInt64).bind fun h2 => some (0, h2)
  | none => (fX9_restsT n v0 v1 v2 v3 v4 h).bind fun h2 => some (1, h2)
set_option maxHeartbeats 4000000 in
set_option maxRecDepth 100000 in
theorem okL_restsR {l : Launch} {n : Nat} {v0 : Nat} {v1 v2 v3 v4 : Int32} {v5 : Nat} {h : qH} {p : Int32 × qH} {h2 : qH} (e1 : fX9_rests n v0 v1 v2 v3 v4 h = some p) (e2 : sL p.2 v5 0 p.1.toInt64 = some h2) : q_MW l 9 yL_rests cL_rests 7 (some .int) [.ref v0, .int v1, .int v2, .int v3, .int v4, .ref v5] h (some (.int 0)) h2 := by
  refine q_MW.of (by decide) (Nat.le_of_ble_eq_true rfl) ?_
  refine q_to (ls' := [(0, .ref v0), (1, .int v1), (2, .int v2), (3, .int v3), (4, .int v4), (5, .ref v5)]) (st' := []) rfl rfl ?_
  refine q_aload 5 rfl dL_rests_0 ?_
  refine q_iconst (x := 0) rfl dL_rests_2 ?_
  refine q_aload_n 0 rfl dL_rests_3 ?_
  refine q_iload_n 1 rfl dL_rests_4 ?_
  refine q_iload_n 2 rfl dL_rests_5 ?_
  refine q_iload_n 3 rfl dL_rests_6 ?_
  refine q_iload 4 rfl dL_rests_7 ?_
  refine q_callV (as := [.int v1, .int v2, .int v3, .int v4]) (st := [.int 0, .ref v5]) kY_X9_rests kL_L_7 (okX9_rests (l := l) e1) (by decide) rfl (obX9_rests e1) (Nat.le_of_ble_eq_true rfl) dL_rests_9 ?_
  refine q_to (ls' := [(0, .ref v0), (1, .int v1), (2, .int v2), (3, .int v3), (4, .int v4), (5, .ref v5)]) (st' := [.int p.1, .int 0, .ref v5]) rfl rfl ?_
  refine q_i2l dL_rests_12 ?_
  refine q_last dL_rests_13 e2 ?_
  refine q_goto (tgt := 21) dL_rests_14 (by decide) ?_
  refine q_iconst (x := 0) rfl dL_rests_21 ?_
  exact q_iretH rfl rfl dL_rests_22 rfl
set_option maxHeartbeats 4000000 in
set_option maxRecDepth 100000 in
theorem okL_restsT {l : Launch} (hfl : l.stackTraces = false) {n : Nat} {v0 : Nat} {v1 v2 v3 v4 : Int32} {v5 : Nat} {h : qH} {h1 : qH} (e1 : fX9_restsT n v0 v1 v2 v3 v4 h = some h1) : q_MW l 9 yL_rests cL_rests 7 (some .int) [.ref v0, .int v1, .int v2, .int v3, .int v4, .ref v5] h (some (.int 1)) h1 := by
  intro h2
  obtain ⟨m1, m2, hM⟩ := okX9_restsT e1 hfl h2
  refine ⟨m1, m2, fun G => met_of_vx ?_⟩
  refine vx_ofWH (cc := cL_rests) (maxL := 7) (ret := some .int) (hh := hhL) (by decide) rfl ?_
  intro p e s m args below meth c s₁ B hml hv
  obtain ⟨rfl, hR, hK⟩ := hv
  have hts := atoms_spec (ws := .codeWith yL_rests cL_rests 7 (some .int) hhL :: q_tbl) B.pre
  have htab : c.exceptionTable.toList = tableOf hhL := vx_table (x := yL_rests) B (hts _ List.mem_cons_self)
  have hnm : meth.name = yL_rests.name := (name_of_methodNamed B.named B.method).1
  have E8 : ∀ w ∈ q_tbl, w.before ([Value.ref v0, .int v1, .int v2, .int v3, .int v4, .ref v5].map (q_v G)).toArray s = true := fun w hw => hts w (List.mem_cons_of_mem _ hw)
  have E1 := B.exec
  have E2 := B.bytes
  have E3 := B.returns
  have E5 : s.vm.findClass RL = some m.cls := findClass_of_methodNamed B.named
  have hl := lv_entry ([Value.ref v0, .int v1, .int v2, .int v3, .int v4, .ref v5].map (q_v G)) (n := 7) (by rw [q_sl_map]; exact Nat.le_of_ble_eq_true rfl)
  rw [lg_entry_eq]
  generalize (lg_sl ([Value.ref v0, .int v1, .int v2, .int v3, .int v4, .ref v5].map (q_v G)) ++ List.replicate (7 - (lg_sl ([Value.ref v0, .int v1, .int v2, .int v3, .int v4, .ref v5].map (q_v G))).length) Slot.unset).toArray = lc at hl ⊢
  have hl : lv_has lc 7 [(0, .ref (q_ad G v0)), (1, .int v1), (2, .int v2), (3, .int v3), (4, .int v4), (5, .ref (q_ad G v5))] := hl
  refine lv_aload E1 E2 dL_rests_0 (lv_at hl 5 rfl) ?_
  refine lv_iconst (v := 0) E1 E2 dL_rests_2 rfl ?_
  refine lv_aload_n E1 E2 dL_rests_3 rfl (lv_at hl 0 rfl) ?_
  refine lv_iload_n E1 E2 dL_rests_4 rfl (lv_at hl 1 rfl) ?_
  refine lv_iload_n E1 E2 dL_rests_5 rfl (lv_at hl 2 rfl) ?_
  refine lv_iload_n E1 E2 dL_rests_6 rfl (lv_at hl 3 rfl) ?_
  refine lv_iload E1 E2 dL_rests_7 (lv_at hl 4 rfl) ?_
  obtain ⟨⟨y1, y3, y4, y5⟩, y6, y7, T9, N9, y8⟩ := kY_X9_rests
  obtain ⟨fs, ho⟩ := obX9_restsT e1
  obtain ⟨-, r', hr', cellB, g1, g2, g3, -⟩ := hR.obj ho
  have hcls := (hK.1.1 9 _ y8).2
  have hrun := vx_runV (C := yX9_rests.cls) (bytes := cX9_rests) (maxL := 7) (ret := some .int) (n := 4) (l := l) (p := p) (e := e) (R := (headSpec (.codeWith yL_rests cL_rests 7 (some .int) hhL :: q_tbl) { frames := 9, cells := h1.2.1 - h.2.1, slots := h1.2.2 - h.2.2, locals := 60 * 9 }).room) (below := below) (meth := meth) (locs := []) (cells := 0) (slots := 0) (As := [.int v1, .int v2, .int v3, .int v4]) (rest := [.int 0, .ref (q_ad G v5)]) (b := q_ad G v0) (g := F0 m 9 lc [.int v4, .int v3, .int v2, .int v1, .ref (q_ad G v0), .int 0, .ref (q_ad G v5)]) (H := s.heap) (nL := 7)
    ⟨E1, E2, hml, E5, E8⟩ (hM G) ⟨callB_of 4 E8 (q_tbl_good _ y1) rfl rfl rfl (E8 _ y3) (E8 _ (q_p4 227 rfl rfl)) y5 ⟨Nat.le_of_ble_eq_true rfl, Nat.le_of_ble_eq_true rfl⟩, E8 _ y6, E8 _ y7⟩
    ⟨q_blind _ _ _, ⟨cellB, g1, by rw [g3]; rfl, by rw [g2]; exact hcls.1⟩, fun U hU hW => ⟨rfl, by rw [hU]; exact hR.moved hW.alike, hK.warm hW⟩⟩ rfl rfl hl.1 rfl (Nat.le_of_ble_eq_true rfl) dL_rests_9 ⟨by simp [headSpec], by simp [headSpec]⟩
  intro T hT X
  rcases hrun T hT X with ⟨v, st₀, t, T', L, h0, X', hL, g4, g5, hF, -⟩ | ⟨q, st₀, t, T', L, E, ce, h0, X', hL, g4, g5, ⟨rfl, hR1⟩, hce, hcv, hcl, stp⟩
  · exact absurd hF id
  · have hR2 : q_R G s h1 T'.heap := by
      rw [g4]
      refine hR1.moved ?_
      rw [← g5]
      exact X'.warmed.alike.symm
    have hend := qx_catch (p := p) (l := l) (e := e) (R := (headSpec (.codeWith yL_rests cL_rests 7 (some .int) hhL :: q_tbl) { frames := 9, cells := h1.2.1 - h.2.1, slots := h1.2.2 - h.2.2, locals := 60 * 9 }).room) (meth := meth) (below := below) (own := RL) (name := "java/util/NoSuchElementException") (E := "java/util/NoSuchElementException") (x := ⟨0, 14, 17, 13⟩) (pc := 9) (ls := lc) (rest := [.int 0, .ref (q_ad G v5)]) (Q := vx_MQ below (q_Qc G (some (.int 1)) h1) (fun _ _ _ => False) ([Value.ref v0, .int v1, .int v2, .int v3, .int v4, .ref v5].map (q_v G)).toArray s (h1.2.1 - h.2.1) (h1.2.2 - h.2.2) (q_fr G)) E5 (htab.trans rfl) (by decide) (by decide) (E8 _ (q_p4 226 rfl rfl)) (va_Nw.use rfl (hK.2.2.2.2.2.2.2.2.2.2.1 _ _ (q_lw 953 rfl))) (H := T'.heap) (by rw [g4]; exact hce) hcv hcl (locs := [] ++ L) (cells := 0 + (h1.2.1 - h.2.1)) (slots := 0 + (h1.2.2 - h.2.2)) (by
        refine vx_ret ?_
        refine lv_astore (lv' := [(6, .ref q), (0, .ref (q_ad G v0)), (1, .int v1), (2, .int v2), (3, .int v3), (4, .int v4), (5, .ref (q_ad G v5))]) E1 E2 dL_rests_17 hl (by decide) rfl (fun lc2 hl2 => ?_)
        refine lv_iconst (v := 1) E1 E2 dL_rests_19 rfl ?_
        rw [Nat.zero_add, Nat.zero_add]
        exact W.zret E1 E2 E3 rfl (fun t ht hW => ⟨rfl, by rw [ht]; exact hR2.moved hW.alike⟩) (fun z hz => hL z (by simpa using hz)) dL_rests_20 B.notSynchronized)
    obtain ⟨t2, a1, b1⟩ := hend T' rfl X'
    exact ⟨t2, stp.trans a1, b1⟩
