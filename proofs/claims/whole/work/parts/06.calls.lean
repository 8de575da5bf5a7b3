/-! ROWS of the layer: arrays, makings, returns, calls (written by rows2.py). -/
section QArr
variable {l : Launch} {d : Nat} {y : MethodName} {cc : ByteArray} {nL : Nat} {ret : Option FieldType} {r : Option Value} {h' : qH} {pc : Nat} {ls : List (Nat × Value)} {st : List Value} {h : qH}
theorem q_R.arr {G : qG} {s : State} {H : Heap} (hR : q_R G s h H) {a n : Nat} {ty : FieldType} {v : qK} (ha : 2 ≤ a) (e : h.1 a = some (.inl (ty, n, v))) : ∃ cA : ClassId, H[q_ad G a]? = some (arrV cA n (q_el G v)) ∧ ArrOfT s cA ty ∧ va_RA s cA ty := by
  rcases hR.2.2 a _ e with q | q
  · exact q.2.2
  · omega
theorem q_R.arr' {G : qG} {s : State} {H : Heap} (hR : q_R G s h H) (hK : q_K G s) {a n : Nat} {ty : FieldType} {v : qK} (e : h.1 a = some (.inl (ty, n, v))) : ∃ ce : Cell, H[q_ad G a]? = some ce ∧ s.isArrayOf ce ty ∧ ce.vm ≠ .unknown ∧ ce.slots.size = n ∧ ∀ j, j < n → ce.slots[j]? = some (q_el G v j) := by
  rcases hR.2.2 a _ e with q | q
  · obtain ⟨cA, q1, q2, q3⟩ := q.2.2
    exact ⟨_, q1, q2 _ _, (fun z => by cases z), arrV_size _ _ _, fun j hj => arrV_read _ _ hj⟩
  · obtain ⟨rfl, q⟩ := q
    cases q
    obtain ⟨scr, z1, z2, z3, z4, z5⟩ := hK.2.1
    exact ⟨scr, by rw [← z1]; exact hR.2.1 _ hK.2.2.1, z2, z3, z4, z5⟩
theorem q_iald {a : Nat} {i : Int32} {x : Int32} (hd : decode cc pc = .ok (.iaload, 1)) (hv : aI .int h a i = some x) (kk : q_W l d y cc nL ret r h' (pc + 1) ls (.int x :: st) h) : q_W l d y cc nL ret r h' pc ls (.int i :: .ref a :: st) h := by
  intro h2
  obtain ⟨k1, k2, k3⟩ := kk h2
  refine ⟨k1, k2, fun G p e R s m args below meth c E H locs cells slots mc ms lc hR hlo e1 e2 e3 e4 hl => ?_⟩
  obtain ⟨n, f, hh, i1, i2, rfl⟩ := aI_some hv
  obtain ⟨E1, E2, E3, E4, E5, E6, E7, E8, E9, E10, E11⟩ := id E
  obtain ⟨ce, c1, c2, c3, c4, c5⟩ := hR.arr' E9 hh
  exact W.iald E1 E2 c1 c2 c3 (by rw [c4]; exact fun q => q.elim i1 (fun z => by omega)) (c5 _ i2) rfl rfl hd (k3 G p e R s m args below meth c E H locs cells slots mc ms lc hR hlo e1 e2 e3 e4 hl)
theorem q_zald {a : Nat} {i : Int32} {x : Int32} (hd : decode cc pc = .ok (.baload, 1)) (hv : aI .boolean h a i = some x) (kk : q_W l d y cc nL ret r h' (pc + 1) ls (.int x :: st) h) : q_W l d y cc nL ret r h' pc ls (.int i :: .ref a :: st) h := by
  intro h2
  obtain ⟨k1, k2, k3⟩ := kk h2
  refine ⟨k1, k2, fun G p e R s m args below meth c E H locs cells slots mc ms lc hR hlo e1 e2 e3 e4 hl => ?_⟩
  obtain ⟨n, f, hh, i1, i2, rfl⟩ := aI_some hv
  obtain ⟨E1, E2, E3, E4, E5, E6, E7, E8, E9, E10, E11⟩ := id E
  obtain ⟨ce, c1, c2, c3, c4, c5⟩ := hR.arr' E9 hh
  exact W.zald E1 E2 c1 c2 c3 (by rw [c4]; exact fun q => q.elim i1 (fun z => by omega)) (c5 _ i2) rfl rfl hd (k3 G p e R s m args below meth c E H locs cells slots mc ms lc hR hlo e1 e2 e3 e4 hl)
theorem q_cald {a : Nat} {i : Int32} {x : Int32} (hd : decode cc pc = .ok (.caload, 1)) (hv : aI .char h a i = some x) (kk : q_W l d y cc nL ret r h' (pc + 1) ls (.int x :: st) h) : q_W l d y cc nL ret r h' pc ls (.int i :: .ref a :: st) h := by
  intro h2
  obtain ⟨k1, k2, k3⟩ := kk h2
  refine ⟨k1, k2, fun G p e R s m args below meth c E H locs cells slots mc ms lc hR hlo e1 e2 e3 e4 hl => ?_⟩
  obtain ⟨n, f, hh, i1, i2, rfl⟩ := aI_some hv
  obtain ⟨E1, E2, E3, E4, E5, E6, E7, E8, E9, E10, E11⟩ := id E
  obtain ⟨ce, c1, c2, c3, c4, c5⟩ := hR.arr' E9 hh
  exact W.cald E1 E2 c1 c2 c3 (by rw [c4]; exact fun q => q.elim i1 (fun z => by omega)) (c5 _ i2) rfl rfl hd (k3 G p e R s m args below meth c E H locs cells slots mc ms lc hR hlo e1 e2 e3 e4 hl)
theorem q_lald {a : Nat} {i : Int32} {x : Int64} (hd : decode cc pc = .ok (.laload, 1)) (hv : aL h a i = some x) (kk : q_W l d y cc nL ret r h' (pc + 1) ls (.long x :: st) h) : q_W l d y cc nL ret r h' pc ls (.int i :: .ref a :: st) h := by
  intro h2
  obtain ⟨k1, k2, k3⟩ := kk h2
  refine ⟨k1, k2, fun G p e R s m args below meth c E H locs cells slots mc ms lc hR hlo e1 e2 e3 e4 hl => ?_⟩
  obtain ⟨n, f, hh, i1, i2, rfl⟩ := aL_some hv
  obtain ⟨E1, E2, E3, E4, E5, E6, E7, E8, E9, E10, E11⟩ := id E
  obtain ⟨ce, c1, c2, c3, c4, c5⟩ := hR.arr' E9 hh
  exact W.lald E1 E2 c1 c2 c3 (by rw [c4]; exact fun q => q.elim i1 (fun z => by omega)) (c5 _ i2) rfl rfl hd (k3 G p e R s m args below meth c E H locs cells slots mc ms lc hR hlo e1 e2 e3 e4 hl)
theorem q_aald {a : Nat} {i : Int32} {x : Nat} (hd : decode cc pc = .ok (.aaload, 1)) (hv : aR h a i = some x) (kk : q_W l d y cc nL ret r h' (pc + 1) ls (.ref x :: st) h) : q_W l d y cc nL ret r h' pc ls (.int i :: .ref a :: st) h := by
  intro h2
  obtain ⟨k1, k2, k3⟩ := kk h2
  refine ⟨k1, k2, fun G p e R s m args below meth c E H locs cells slots mc ms lc hR hlo e1 e2 e3 e4 hl => ?_⟩
  obtain ⟨t, n, f, hh, ht, i1, i2, hx⟩ := aR_some hv
  obtain ⟨E1, E2, E3, E4, E5, E6, E7, E8, E9, E10, E11⟩ := id E
  obtain ⟨ce, c1, c2, c3, c4, c5⟩ := hR.arr' E9 hh
  have c6 := c5 _ i2
  simp only [q_el, hx, Option.map_some, va_rf] at c6
  exact W.aald E1 E2 c1 c2 ht c3 (by rw [c4]; exact fun q => q.elim i1 (fun z => by omega)) c6 rfl rfl hd (k3 G p e R s m args below meth c E H locs cells slots mc ms lc hR hlo e1 e2 e3 e4 hl)
theorem q_alen {a : Nat} {x : Int32} (hd : decode cc pc = .ok (.arraylength, 1)) (hv : aN h a = some x) (kk : q_W l d y cc nL ret r h' (pc + 1) ls (.int x :: st) h) : q_W l d y cc nL ret r h' pc ls (.ref a :: st) h := by
  intro h2
  obtain ⟨k1, k2, k3⟩ := kk h2
  refine ⟨k1, k2, fun G p e R s m args below meth c E H locs cells slots mc ms lc hR hlo e1 e2 e3 e4 hl => ?_⟩
  obtain ⟨t, n, f, hh, rfl⟩ := aN_some hv
  obtain ⟨E1, E2, E3, E4, E5, E6, E7, E8, E9, E10, E11⟩ := id E
  obtain ⟨ce, c1, c2, c3, c4, c5⟩ := hR.arr' E9 hh
  exact W.alen (n := Int32.ofNat n) E1 E2 c1 c2 (by rw [c4]) rfl rfl hd (k3 G p e R s m args below meth c E H locs cells slots mc ms lc hR hlo e1 e2 e3 e4 hl)
theorem q_iast {a : Nat} {i : Int32} {x : Int32} {h1 : qH} (hd : decode cc pc = .ok (.iastore, 1)) (hv : sI .int h a i x = some h1) (kk : q_W l d y cc nL ret r h' (pc + 1) ls st h1) : q_W l d y cc nL ret r h' pc ls (.int x :: .int i :: .ref a :: st) h := by
  intro h2
  obtain ⟨n, f, hh, ha, i1, i2, rfl⟩ := sI_some hv
  obtain ⟨k1, k2, k3⟩ := kk h2
  refine ⟨k1, k2, fun G p e R s m args below meth c E H locs cells slots mc ms lc hR hlo e1 e2 e3 e4 hl => ?_⟩
  obtain ⟨E1, E2, E3, E4, E5, E6, E7, E8, E9, E10, E11⟩ := id E
  obtain ⟨cA, c1, c2, c3⟩ := hR.arr ha hh
  refine W.iast E1 E2 c1 (c2 _ _) (fun z => by cases z) (by rw [arrV_size]; exact fun q => q.elim i1 (fun z => by omega)) rfl rfl hd fun H' e5 e6 e7 => ?_
  refine k3 G p e R s m args below meth c E H' _ cells slots mc ms lc (hR.put hh ha ⟨cA, ?_, c2, c3⟩ e6 e7) (q_lo hlo (q_ad_ge ha)) e1 e2 e3 e4 hl
  rw [e5, arrV_store]
  congr 2
  funext q
  by_cases hq : q = i.toNatClampNeg
  · subst hq
    simp [updV, upd, q_el, qnar, vp_nar, narrow]
  · simp [updV, upd, q_el, hq]
theorem q_zast {a : Nat} {i : Int32} {x : Int32} {h1 : qH} (hd : decode cc pc = .ok (.bastore, 1)) (hv : sI .boolean h a i x = some h1) (kk : q_W l d y cc nL ret r h' (pc + 1) ls st h1) : q_W l d y cc nL ret r h' pc ls (.int x :: .int i :: .ref a :: st) h := by
  intro h2
  obtain ⟨n, f, hh, ha, i1, i2, rfl⟩ := sI_some hv
  obtain ⟨k1, k2, k3⟩ := kk h2
  refine ⟨k1, k2, fun G p e R s m args below meth c E H locs cells slots mc ms lc hR hlo e1 e2 e3 e4 hl => ?_⟩
  obtain ⟨E1, E2, E3, E4, E5, E6, E7, E8, E9, E10, E11⟩ := id E
  obtain ⟨cA, c1, c2, c3⟩ := hR.arr ha hh
  refine W.zast E1 E2 c1 (c2 _ _) (fun z => by cases z) (by rw [arrV_size]; exact fun q => q.elim i1 (fun z => by omega)) rfl rfl hd fun H' e5 e6 e7 => ?_
  refine k3 G p e R s m args below meth c E H' _ cells slots mc ms lc (hR.put hh ha ⟨cA, ?_, c2, c3⟩ e6 e7) (q_lo hlo (q_ad_ge ha)) e1 e2 e3 e4 hl
  rw [e5, arrV_store]
  congr 2
  funext q
  by_cases hq : q = i.toNatClampNeg
  · subst hq
    simp [updV, upd, q_el, qnar, vp_nar, narrow]
  · simp [updV, upd, q_el, hq]
theorem q_cast {a : Nat} {i : Int32} {x : Int32} {h1 : qH} (hd : decode cc pc = .ok (.castore, 1)) (hv : sI .char h a i x = some h1) (kk : q_W l d y cc nL ret r h' (pc + 1) ls st h1) : q_W l d y cc nL ret r h' pc ls (.int x :: .int i :: .ref a :: st) h := by
  intro h2
  obtain ⟨n, f, hh, ha, i1, i2, rfl⟩ := sI_some hv
  obtain ⟨k1, k2, k3⟩ := kk h2
  refine ⟨k1, k2, fun G p e R s m args below meth c E H locs cells slots mc ms lc hR hlo e1 e2 e3 e4 hl => ?_⟩
  obtain ⟨E1, E2, E3, E4, E5, E6, E7, E8, E9, E10, E11⟩ := id E
  obtain ⟨cA, c1, c2, c3⟩ := hR.arr ha hh
  refine W.cast E1 E2 c1 (c2 _ _) (fun z => by cases z) (by rw [arrV_size]; exact fun q => q.elim i1 (fun z => by omega)) rfl rfl hd fun H' e5 e6 e7 => ?_
  refine k3 G p e R s m args below meth c E H' _ cells slots mc ms lc (hR.put hh ha ⟨cA, ?_, c2, c3⟩ e6 e7) (q_lo hlo (q_ad_ge ha)) e1 e2 e3 e4 hl
  rw [e5, arrV_store]
  congr 2
  funext q
  by_cases hq : q = i.toNatClampNeg
  · subst hq
    simp [updV, upd, q_el, qnar, vp_nar, narrow]
  · simp [updV, upd, q_el, hq]
theorem q_last {a : Nat} {i : Int32} {x : Int64} {h1 : qH} (hd : decode cc pc = .ok (.lastore, 1)) (hv : sL h a i x = some h1) (kk : q_W l d y cc nL ret r h' (pc + 1) ls st h1) : q_W l d y cc nL ret r h' pc ls (.long x :: .int i :: .ref a :: st) h := by
  intro h2
  obtain ⟨n, f, hh, ha, i1, i2, rfl⟩ := sL_some hv
  obtain ⟨k1, k2, k3⟩ := kk h2
  refine ⟨k1, k2, fun G p e R s m args below meth c E H locs cells slots mc ms lc hR hlo e1 e2 e3 e4 hl => ?_⟩
  obtain ⟨E1, E2, E3, E4, E5, E6, E7, E8, E9, E10, E11⟩ := id E
  obtain ⟨cA, c1, c2, c3⟩ := hR.arr ha hh
  refine W.last E1 E2 c1 (c2 _ _) (fun z => by cases z) (by rw [arrV_size]; exact fun q => q.elim i1 (fun z => by omega)) rfl rfl hd fun H' e5 e6 e7 => ?_
  refine k3 G p e R s m args below meth c E H' _ cells slots mc ms lc (hR.put hh ha ⟨cA, ?_, c2, c3⟩ e6 e7) (q_lo hlo (q_ad_ge ha)) e1 e2 e3 e4 hl
  rw [e5, arrV_store]
  congr 2
  funext q
  by_cases hq : q = i.toNatClampNeg
  · subst hq
    simp [updV, vp_updL, q_el, qnar, vp_nar, narrow]
  · simp [updV, vp_updL, q_el, hq]
theorem q_aast {C : String} {T : u_T} {N ci a v : Nat} {i : Int32} {h1 : qH} (hc : classes[ci]? = some (C, T, N)) (hd : decode cc pc = .ok (.aastore, 1)) (hv : sR C ci h a i v = some h1) (kk : q_W l d y cc nL ret r h' (pc + 1) ls st h1) : q_W l d y cc nL ret r h' pc ls (.ref v :: .int i :: .ref a :: st) h := by
  intro h2
  obtain ⟨n, f, fs, hh, hvv, ha, i1, i2, rfl⟩ := sR_some hv
  obtain ⟨k1, k2, k3⟩ := kk h2
  refine ⟨k1, k2, fun G p e R s m args below meth c E H locs cells slots mc ms lc hR hlo e1 e2 e3 e4 hl => ?_⟩
  obtain ⟨E1, E2, E3, E4, E5, E6, E7, E8, E9, E10, E11⟩ := id E
  obtain ⟨cA, c1, c2, c3⟩ := hR.arr ha hh
  obtain ⟨-, r', hr', cellV, g1, g2, g3, -⟩ := hR.obj hvv
  have hcls := (E9.1.1 ci _ hc).2
  obtain ⟨kA, comp, z1, z2, z3, z4⟩ := id c3
  have hcomp : comp = G.1.1 ci := Option.some.inj (z3.symm.trans hcls.1)
  subst hcomp
  obtain ⟨kC, hkC, -⟩ := hcls.2
  refine W.aast E1 E2 c1 (fun q h => by cases h) (fun h => by cases h) z1 z2 rfl hkC ⟨i1, by rw [arrV_size]; exact i2⟩ g1 (fun q h => by rw [g3] at h; cases h) (by rw [g2]; exact hkC) (by rw [g2]; exact va_assign hcls) rfl rfl hd fun H' e5 e6 e7 => ?_
  refine k3 G p e R s m args below meth c E H' _ cells slots mc ms lc (hR.put hh ha ⟨cA, ?_, c2, c3⟩ e6 e7) (q_lo hlo (q_ad_ge ha)) e1 e2 e3 e4 hl
  rw [e5, arrV_store]
  congr 2
  funext q
  by_cases hq : q = i.toNatClampNeg
  · subst hq
    simp [updV, va_up, q_el, va_rf]
  · simp [updV, va_up, q_el, hq]
/-- new -/
theorem q_new {i ci : Nat} {C : String} {T : u_T} {N : Nat} {ty0 : Nat → FieldType} {fs : List Value} (lk : q_Cl ci C T N ty0) (hcl : Cond.classLink y.cls i C ∈ q_tbl) (hins : Cond.instantiable C N ∈ q_tbl) (hini : Cond.initialized C ∈ q_tbl) (hfs : ∀ G : qG, ∀ j, j < N → defaultValue (ty0 j) = vp_V (fs.map (q_v G)) j) (hd : decode cc pc = .ok (.new i, 3))
    (kk : q_W l d y cc nL ret r h' (pc + 3) ls (.ref h.2.1 :: st) (nwE (.inr (ci, fs)) N h)) : q_W l d y cc nL ret r h' pc ls st h := by
  intro h2
  obtain ⟨k1, k2, k3⟩ := kk (Nat.le_succ_of_le h2)
  have k1 : h.2.1 + 1 ≤ h'.2.1 := k1
  have k2 : h.2.2 + N ≤ h'.2.2 := k2
  refine ⟨by omega, by omega, fun G p e R s m args below meth c E H locs cells slots mc ms lc hR hlo e1 e2 e3 e4 hl => ?_⟩
  obtain ⟨c1, c2, c3, c4, c5⟩ := lk
  obtain ⟨E1, E2, E3, E4, E5, E6, E7, E8, E9, E10, E11⟩ := id E
  have hKn := E9.1.1 ci _ c1
  refine W.newcK E1 E2 E5 (E8 _ hcl) (E8 _ hins) (E8 _ hini) rfl hd (by omega) (by omega) hKn.2.1 rfl fun H1 kC hkC z1 z2 z3 => ?_
  obtain ⟨a1, hR1⟩ := hR.new (c' := .inr (ci, fs)) (k := h.2.2 + N) h2 ⟨_, c1, (u_born ty0 E8 c2 hKn hkC z1 c3).to (hfs G)⟩ z2 z3
  have := k3 G p e R s m args below meth c E H1 locs (cells + 1) (slots + N) mc ms lc hR1 hlo (by show _ = mc + (h.2.1 + 1); omega) (by show _ = ms + (h.2.2 + N); omega) e3 e4 hl
  simpa [q_v, a1] using this
/-- newarray -/
theorem q_newa {atype : ArrayType} {ty : FieldType} {n : Int32} {N : Nat} {k : qK} (hN : n.toNatClampNeg = N) (hty : newarray.typeOf atype = ty) (hcl : Cond.arrayClass ty ∈ q_tbl) (hk : ∀ (G : qG) (j : Nat), q_el G k j = defaultValue ty) (hra : ∀ (s : State) (cA : ClassId), s.vm.findClass ("[" ++ ty.toString) = some cA → va_RA s cA ty) (hn : ¬ n < 0) (hby : N * componentBytes ty ≤ 536870912) (hd : decode cc pc = .ok (.newarray atype, 2))
    (kk : q_W l d y cc nL ret r h' (pc + 2) ls (.ref h.2.1 :: st) (nwE (.inl (ty, N, k)) N h)) : q_W l d y cc nL ret r h' pc ls (.int n :: st) h := by
  intro h2
  subst hty
  subst hN
  obtain ⟨k1, k2, k3⟩ := kk (Nat.le_succ_of_le h2)
  have k1 : h.2.1 + 1 ≤ h'.2.1 := k1
  have k2 : h.2.2 + n.toNatClampNeg ≤ h'.2.2 := k2
  refine ⟨by omega, by omega, fun G p e R s m args below meth c E H locs cells slots mc ms lc hR hlo e1 e2 e3 e4 hl => ?_⟩
  obtain ⟨E1, E2, E3, E4, E5, E6, E7, E8, E9, E10, E11⟩ := id E
  refine va_newaK E1 E2 (E8 _ hcl) rfl hd rfl hn rfl hby (by omega) (by omega) rfl fun H1 cA z1 z2 z3 z4 z5 => ?_
  have z1 : H1[H.size]? = some (arrV cA n.toNatClampNeg (q_el G k)) := by
    rw [z1]
    congr 2
    funext j
    exact (hk G j).symm
  obtain ⟨a1, hR1⟩ := hR.new (c' := .inl (newarray.typeOf atype, n.toNatClampNeg, k)) (k := h.2.2 + n.toNatClampNeg) h2 ⟨cA, z1, z4, hra s cA z5⟩ z2 z3
  have := k3 G p e R s m args below meth c E H1 locs (cells + 1) (slots + n.toNatClampNeg) mc ms lc hR1 hlo (by show _ = mc + (h.2.1 + 1); omega) (by show _ = ms + (h.2.2 + n.toNatClampNeg); omega) e3 e4 hl
  simpa [q_v, a1] using this
/-- anewarray -/
theorem q_anew {C : String} {i : Nat} {n : Int32} {N : Nat} (hN : n.toNatClampNeg = N) (hcl : Cond.classLink y.cls i C ∈ q_tbl) (hov : ∀ (G : qG) (s : State), q_K G s → va_AO C s) (hn : ¬ n < 0) (hby : N * 4 ≤ 536870912) (hd : decode cc pc = .ok (.anewarray i, 3))
    (kk : q_W l d y cc nL ret r h' (pc + 3) ls (.ref h.2.1 :: st) (nwE (.inl (.object C, N, .inr (.inr (fun _ => none)))) N h)) : q_W l d y cc nL ret r h' pc ls (.int n :: st) h := by
  intro h2
  subst hN
  obtain ⟨k1, k2, k3⟩ := kk (Nat.le_succ_of_le h2)
  have k1 : h.2.1 + 1 ≤ h'.2.1 := k1
  have k2 : h.2.2 + n.toNatClampNeg ≤ h'.2.2 := k2
  refine ⟨by omega, by omega, fun G p e R s m args below meth c E H locs cells slots mc ms lc hR hlo e1 e2 e3 e4 hl => ?_⟩
  obtain ⟨E1, E2, E3, E4, E5, E6, E7, E8, E9, E10, E11⟩ := id E
  refine W.anew E1 E2 E5 (E8 _ hcl) (va_AO.use (hov G s E9)) rfl hd rfl hn hby (by omega) (by omega) fun cA kA comp f1 f2 f3 f4 => ?_
  generalize hH1 : H.push ({ cls := cA, slots := Array.replicate n.toNatClampNeg .null, vm := .none } : Cell) = H1
  have z2 : H1.size = H.size + 1 := by rw [← hH1, Array.size_push]
  have z1 : H1[H.size]? = some (arrV cA n.toNatClampNeg (q_el G (.inr (.inr (fun _ => none))))) := by rw [← hH1, Array.getElem?_push_size, arrV_new]; rfl
  have z3 : ∀ q : Nat, q < H.size → H1[q]? = H[q]? := fun q hq => by rw [← hH1, Array.getElem?_push, if_neg (Nat.ne_of_lt hq)]
  have hAr : ArrOfT s cA (.object C) := fun N z => ⟨(fun k h => by cases h), kA, f2, comp, f3⟩
  obtain ⟨a1, hR1⟩ := hR.new (c' := .inl (.object C, n.toNatClampNeg, .inr (.inr (fun _ => none)))) (k := h.2.2 + n.toNatClampNeg) h2 ⟨cA, z1, hAr, ⟨kA, comp, f2, f3, f4, f1⟩⟩ z2 z3
  have := k3 G p e R s m args below meth c E H1 locs (cells + 1) (slots + n.toNatClampNeg) mc ms lc hR1 hlo (by show _ = mc + (h.2.1 + 1); omega) (by show _ = ms + (h.2.2 + n.toNatClampNeg); omega) e3 e4 hl
  simpa [q_v, a1] using this
end QArr
section QRet
variable {l : Launch} {d : Nat} {y : MethodName} {cc : ByteArray} {nL : Nat} {ret : Option FieldType} {pc : Nat} {ls : List (Nat × Value)} {st : List Value} {h : qH}
theorem q_vret (hr : ret = none) (hd : decode cc pc = .ok (.return_, 1)) : q_W l d y cc nL ret none h pc ls [] h := by
  intro h2
  refine ⟨Nat.le_refl _, Nat.le_refl _, fun G p e R s m args below meth c E H locs cells slots mc ms lc hR hlo e1 e2 e3 e4 hl => ?_⟩
  obtain ⟨E1, E2, E3, E4, E5, E6, E7, E8, E9, E10, E11⟩ := id E
  obtain rfl : cells = mc := by omega
  obtain rfl : slots = ms := by omega
  exact W.vret E1 E2 (E3.trans hr) (fun t ht hW => ⟨rfl, by rw [ht]; exact hR.moved hW.alike⟩) hlo hd E6
theorem q_iret {x : Int32} {ty : FieldType} (hr : ret = some ty) (hn : narrow ty (.int x) = .int x) (hd : decode cc pc = .ok (.ireturn, 1)) : q_W l d y cc nL ret (some (.int x)) h pc ls [.int x] h := by
  intro h2
  refine ⟨Nat.le_refl _, Nat.le_refl _, fun G p e R s m args below meth c E H locs cells slots mc ms lc hR hlo e1 e2 e3 e4 hl => ?_⟩
  obtain ⟨E1, E2, E3, E4, E5, E6, E7, E8, E9, E10, E11⟩ := id E
  obtain rfl : cells = mc := by omega
  obtain rfl : slots = ms := by omega
  exact W.zret E1 E2 (E3.trans hr) hn (fun t ht hW => ⟨rfl, by rw [ht]; exact hR.moved hW.alike⟩) hlo hd E6
theorem q_lret {x : Int64} (hr : ret = some .long) (hd : decode cc pc = .ok (.lreturn, 1)) : q_W l d y cc nL ret (some (.long x)) h pc ls [.long x] h := by
  intro h2
  refine ⟨Nat.le_refl _, Nat.le_refl _, fun G p e R s m args below meth c E H locs cells slots mc ms lc hR hlo e1 e2 e3 e4 hl => ?_⟩
  obtain ⟨E1, E2, E3, E4, E5, E6, E7, E8, E9, E10, E11⟩ := id E
  obtain rfl : cells = mc := by omega
  obtain rfl : slots = ms := by omega
  exact W.lret E1 E2 (E3.trans hr) (fun t ht hW => ⟨rfl, by rw [ht]; exact hR.moved hW.alike⟩) hlo hd E6
end QRet
section QCall
variable {l : Launch} {d : Nat} {y : MethodName} {cc : ByteArray} {nL : Nat} {ret : Option FieldType} {r : Option Value} {h' : qH} {pc : Nat} {ls : List (Nat × Value)} {st : List Value} {h : qH}
/-- a method that may be called: its code and class are in the tables; n parameters -/
def q_Y (y2 : MethodName) (cc2 : ByteArray) (maxL2 : Nat) (ret2 : Option FieldType) (n : Nat) : Prop :=
  Cond.code y2 cc2 maxL2 ret2 ∈ q_tbl ∧ Cond.initialized y2.cls ∈ q_tbl ∧ maxL2 ≤ 40 ∧ (y2.cls ≠ "java/lang/invoke/MethodHandle" ∧ y2.cls ≠ "java/lang/invoke/VarHandle" ∧ (parseMethodDescriptor y2.desc).map (fun d => d.parameters.length) = some n)
/-- an instance method -/
def q_YV (y2 : MethodName) (cc2 : ByteArray) (maxL2 : Nat) (ret2 : Option FieldType) (n : Nat) (ci : Nat) : Prop :=
  q_Y y2 cc2 maxL2 ret2 n ∧ Cond.instanceMethod y2 ∈ q_tbl ∧ Cond.selects y2.cls y2 y2 ∈ q_tbl ∧ ∃ T N, classes[ci]? = some (y2.cls, T, N)
/-- the entry i of own leads to y2 -/
def q_Lk (own : String) (i : Nat) (y2 : MethodName) : Prop := Cond.methodLink own i y2 ∈ q_tbl ∨ ∃ host, Cond.methodLinkNest own i y2 host ∈ lw_tbl
theorem q_after {G : qG} {p : Program} {e : Env} {R : Room} {s : State} {m : MethodId} {args : Array Value} {below : List Frame} {meth : Method} {c : Code} {H : Heap} {locs : List Loc} {cells slots mc ms mc2 ms2 : Nat} {lc : Array Slot} {st0 : List Value} {a2 : Array Value} {r2 : Option Value} {h1 : qH}
    (hr : va_Run p l e R s m args below meth c H locs cells slots mc2 ms2 (F0 m pc lc st0) (st.map (q_v G)) (q_Qc G r2 h1 a2) (q_fr G)) (hlo : ∀ q ∈ locs, q_base G ≤ q.base) (e1 : cells + h'.2.1 = mc + h.2.1) (e2 : slots + h'.2.2 = ms + h.2.2) (m1 : mc2 + h.2.1 = h1.2.1) (m2 : ms2 + h.2.2 = h1.2.2) (e3 : mc ≤ R.cells) (e4 : ms ≤ R.slots) (hl : lv_has lc nL (ls.map (q_lv G)))
    (k : q_V G l r h' p e R s m args below meth c nL (pc + 3) ls (r2.toList ++ st) h1) : W p l e R s m args below meth c H locs cells slots (MQ below (q_Qc G r h') args s mc ms (q_fr G)) (F0 m pc lc st0) := by
  intro T hT X
  obtain ⟨v, st₀, t, T', L, h0, X', hL, g1, g2, ⟨hv, hR1⟩, stp⟩ := hr T hT X
  cases hv
  have hR1 : q_R G s h1 T'.heap := by
    rw [g1]
    refine hR1.moved ?_
    rw [← g2]
    exact X'.warmed.alike.symm
  obtain ⟨t2, a1, b1⟩ := k T'.heap (locs ++ L) (cells + mc2) (slots + ms2) mc ms lc hR1 (fun q hq => (List.mem_append.mp hq).elim (hlo q) (hL q)) (by omega) (by omega) e3 e4 hl T' rfl X'
  refine ⟨t2, stp t2 ?_, b1⟩
  have e9 : (r2.map (q_v G)).toList ++ st.map (q_v G) = (r2.toList ++ st).map (q_v G) := by cases r2 <;> simp
  have e8 : ({ F0 m pc lc st0 with pc := pc + 3, stack := (r2.map (q_v G)).toList ++ st.map (q_v G) } : JFrame) = F0 m (pc + 3) lc ((r2.toList ++ st).map (q_v G)) := by rw [e9]
  rw [e8]
  exact a1
set_option maxHeartbeats 2000000 in
/-- a call of an instance method -/
theorem q_callV {i n ci d2 o maxL2 : Nat} {y2 : MethodName} {cc2 : ByteArray} {ret2 : Option FieldType} {as : List Value} {r2 : Option Value} {h1 : qH} (hY : q_YV y2 cc2 maxL2 ret2 n ci) (hk : q_Lk y.cls i y2) (hM : q_M l d2 y2 cc2 maxL2 ret2 (.ref o :: as) h r2 h1) (hdd : d2 + 1 ≤ d) (hn : as.length = n) (ho : ∃ fs, h.1 o = some (.inr (ci, fs))) (hw : (st.map fun v => v.category).sum ≤ 8) (hd : decode cc pc = .ok (.invokevirtual i, 3))
    (kk : q_W l d y cc nL ret r h' (pc + 3) ls (r2.toList ++ st) h1) : q_W l d y cc nL ret r h' pc ls (as.reverse ++ .ref o :: st) h := by
  intro h2
  obtain ⟨m1, m2, hM⟩ := hM h2
  obtain ⟨k1, k2, k3⟩ := kk (Nat.le_trans h2 m1)
  refine ⟨by omega, by omega, fun G p e R s m args below meth c E H locs cells slots mc ms lc hR hlo e1 e2 e3 e4 hl => ?_⟩
  obtain ⟨E1, E2, E3, E4, E5, E6, E7, E8, E9, E10, E11⟩ := id E
  obtain ⟨⟨y1, y3, y4, y5⟩, y6, y7, T, N, y8⟩ := hY
  obtain ⟨fs, ho⟩ := ho
  obtain ⟨-, r', hr', cellB, g1, g2, g3, -⟩ := hR.obj ho
  have hcls := (E9.1.1 ci _ y8).2
  have hrecv : ∃ cellB : Cell, H[q_ad G o]? = some cellB ∧ cellB.vm.isStatics = false ∧ s.vm.findClass y2.cls = some cellB.cls := ⟨cellB, g1, by rw [g3]; rfl, by rw [g2]; exact hcls.1⟩
  have hG := q_tbl_good _ y1
  have hroom : d2 + 1 ≤ R.frames ∧ 8 + (maxL2 + 11) + 60 * d2 ≤ R.locals := ⟨by omega, by omega⟩
  have hW9 : 2 * (F0 m pc lc ((as.reverse ++ .ref o :: st).map (q_v G))).monitorRoom + ((st.map (q_v G)).map fun v => v.category).sum ≤ 8 := by
    rw [q_catsum]; show 2 * 0 + _ ≤ 8; omega
  have hstk : (F0 m pc lc ((as.reverse ++ .ref o :: st).map (q_v G))).stack = (as.map (q_v G)).reverse ++ .ref (q_ad G o) :: st.map (q_v G) := by
    show (as.reverse ++ .ref o :: st).map (q_v G) = _
    rw [List.map_append, List.map_reverse]; rfl
  have hpre : PreV s H y2.cls (q_ad G o) (q_Pc G (.ref o :: as) h) (as.map (q_v G)) := ⟨q_blind _ _ _, hrecv, fun U hU hW => ⟨rfl, by rw [hU]; exact hR.moved hW.alike, E9.warm hW⟩⟩
  have hrun : va_Run p l e R s m args below meth c H locs cells slots (h1.2.1 - h.2.1) (h1.2.2 - h.2.2) (F0 m pc lc ((as.reverse ++ .ref o :: st).map (q_v G))) (st.map (q_v G)) (q_Qc G r2 h1 (Value.ref (q_ad G o) :: as.map (q_v G)).toArray) (q_fr G) := by
    rcases hk with hk | ⟨host, hk⟩
    · exact va_runV (C := y2.cls) (bytes := cc2) (maxL := maxL2) (ret := ret2) (n := n) ⟨E1, E2, E4, E5, E8⟩ (hM G) ⟨callB_of n E8 hG rfl rfl rfl (E8 _ y3) (E8 _ hk) y5 hroom, E8 _ y6, E8 _ y7⟩ hpre rfl (by rw [List.length_map]; exact hn) hl.1 hstk hW9 hd ⟨by omega, by omega⟩
    · exact va_runVN (C := y2.cls) (host := host) (bytes := cc2) (maxL := maxL2) (ret := ret2) (n := n) ⟨E1, E2, E4, E5, E8⟩ (hM G) ⟨va_cnB n E8 hG rfl rfl rfl (E9.nest hk) (E8 _ y3) y5 hroom, E8 _ y6, E8 _ y7⟩ hpre rfl (by rw [List.length_map]; exact hn) hl.1 hstk hW9 hd ⟨by omega, by omega⟩
  exact q_after hrun hlo e1 e2 (by omega) (by omega) e3 e4 hl (k3 G p e R s m args below meth c E)
set_option maxHeartbeats 2000000 in
/-- a call of a static method -/
theorem q_callS {i n d2 maxL2 : Nat} {y2 : MethodName} {cc2 : ByteArray} {ret2 : Option FieldType} {as : List Value} {r2 : Option Value} {h1 : qH} (hY : q_Y y2 cc2 maxL2 ret2 n) (hs : Cond.static y2 ∈ q_tbl) (hk : q_Lk y.cls i y2) (hM : q_M l d2 y2 cc2 maxL2 ret2 as h r2 h1) (hdd : d2 + 1 ≤ d) (hn : as.length = n) (hw : (st.map fun v => v.category).sum ≤ 8) (hd : decode cc pc = .ok (.invokestatic i, 3))
    (kk : q_W l d y cc nL ret r h' (pc + 3) ls (r2.toList ++ st) h1) : q_W l d y cc nL ret r h' pc ls (as.reverse ++ st) h := by
  intro h2
  obtain ⟨m1, m2, hM⟩ := hM h2
  obtain ⟨k1, k2, k3⟩ := kk (Nat.le_trans h2 m1)
  refine ⟨by omega, by omega, fun G p e R s m args below meth c E H locs cells slots mc ms lc hR hlo e1 e2 e3 e4 hl => ?_⟩
  obtain ⟨E1, E2, E3, E4, E5, E6, E7, E8, E9, E10, E11⟩ := id E
  obtain ⟨y1, y3, y4, y5⟩ := hY
  have hG := q_tbl_good _ y1
  have hroom : d2 + 1 ≤ R.frames ∧ 8 + (maxL2 + 11) + 60 * d2 ≤ R.locals := ⟨by omega, by omega⟩
  have hW9 : 2 * (F0 m pc lc ((as.reverse ++ st).map (q_v G))).monitorRoom + ((st.map (q_v G)).map fun v => v.category).sum ≤ 8 := by
    rw [q_catsum]; show 2 * 0 + _ ≤ 8; omega
  have hstk : (F0 m pc lc ((as.reverse ++ st).map (q_v G))).stack = (as.map (q_v G)).reverse ++ st.map (q_v G) := by
    show (as.reverse ++ st).map (q_v G) = _
    rw [List.map_append, List.map_reverse]
  have hpre : PreS s H (q_Pc G as h) (as.map (q_v G)) := ⟨q_blind _ _ _, fun U hU hW => ⟨rfl, by rw [hU]; exact hR.moved hW.alike, E9.warm hW⟩⟩
  have hrun : va_Run p l e R s m args below meth c H locs cells slots (h1.2.1 - h.2.1) (h1.2.2 - h.2.2) (F0 m pc lc ((as.reverse ++ st).map (q_v G))) (st.map (q_v G)) (q_Qc G r2 h1 (as.map (q_v G)).toArray) (q_fr G) := by
    rcases hk with hk | ⟨host, hk⟩
    · exact va_runS (bytes := cc2) (maxL := maxL2) (ret := ret2) (n := n) ⟨E1, E2, E4, E5, E8⟩ (hM G) ⟨callB_of n E8 hG rfl rfl rfl (E8 _ y3) (E8 _ hk) y5 hroom, E8 _ hs⟩ hpre rfl (by rw [List.length_map]; exact hn) hl.1 hstk hW9 hd ⟨by omega, by omega⟩
    · exact va_runSN (host := host) (bytes := cc2) (maxL := maxL2) (ret := ret2) (n := n) ⟨E1, E2, E4, E5, E8⟩ (hM G) ⟨va_cnB n E8 hG rfl rfl rfl (E9.nest hk) (E8 _ y3) y5 hroom, E8 _ hs, trivial⟩ hpre rfl (by rw [List.length_map]; exact hn) hl.1 hstk hW9 hd ⟨by omega, by omega⟩
  exact q_after hrun hlo e1 e2 (by omega) (by omega) e3 e4 hl (k3 G p e R s m args below meth c E)
set_option maxHeartbeats 2000000 in
/-- a call of a constructor -/
theorem q_callI {i n d2 o maxL2 : Nat} {y2 : MethodName} {cc2 : ByteArray} {as : List Value} {r2 : Option Value} {h1 : qH} (hY : q_Y y2 cc2 maxL2 none n) (hin : Cond.instanceMethod y2 ∈ q_tbl) (hnm : y2.name = "<init>") (hk : q_Lk y.cls i y2) (hM : q_M l d2 y2 cc2 maxL2 none (.ref o :: as) h r2 h1) (hdd : d2 + 1 ≤ d) (hn : as.length = n) (hw : (st.map fun v => v.category).sum ≤ 8) (hd : decode cc pc = .ok (.invokespecial i, 3))
    (kk : q_W l d y cc nL ret r h' (pc + 3) ls (r2.toList ++ st) h1) : q_W l d y cc nL ret r h' pc ls (as.reverse ++ .ref o :: st) h := by
  intro h2
  obtain ⟨m1, m2, hM⟩ := hM h2
  obtain ⟨k1, k2, k3⟩ := kk (Nat.le_trans h2 m1)
  refine ⟨by omega, by omega, fun G p e R s m args below meth c E H locs cells slots mc ms lc hR hlo e1 e2 e3 e4 hl => ?_⟩
  obtain ⟨E1, E2, E3, E4, E5, E6, E7, E8, E9, E10, E11⟩ := id E
  obtain ⟨y1, y3, y4, y5⟩ := hY
  have hG := q_tbl_good _ y1
  have hroom : d2 + 1 ≤ R.frames ∧ 8 + (maxL2 + 11) + 60 * d2 ≤ R.locals := ⟨by omega, by omega⟩
  have hW9 : 2 * (F0 m pc lc ((as.reverse ++ .ref o :: st).map (q_v G))).monitorRoom + ((st.map (q_v G)).map fun v => v.category).sum ≤ 8 := by
    rw [q_catsum]; show 2 * 0 + _ ≤ 8; omega
  have hstk : (F0 m pc lc ((as.reverse ++ .ref o :: st).map (q_v G))).stack = (as.map (q_v G)).reverse ++ .ref (q_ad G o) :: st.map (q_v G) := by
    show (as.reverse ++ .ref o :: st).map (q_v G) = _
    rw [List.map_append, List.map_reverse]; rfl
  have hpre : PreS s H (q_Pc G (.ref o :: as) h) (.ref (q_ad G o) :: as.map (q_v G)) := ⟨q_blind _ _ _, fun U hU hW => ⟨rfl, by rw [hU]; exact hR.moved hW.alike, E9.warm hW⟩⟩
  have hrun : va_Run p l e R s m args below meth c H locs cells slots (h1.2.1 - h.2.1) (h1.2.2 - h.2.2) (F0 m pc lc ((as.reverse ++ .ref o :: st).map (q_v G))) (st.map (q_v G)) (q_Qc G r2 h1 (Value.ref (q_ad G o) :: as.map (q_v G)).toArray) (q_fr G) := by
    rcases hk with hk | ⟨host, hk⟩
    · exact va_runI (bytes := cc2) (maxL := maxL2) (n := n) ⟨E1, E2, E4, E5, E8⟩ (hM G) ⟨callB_of n E8 hG rfl rfl rfl (E8 _ y3) (E8 _ hk) y5 hroom, hnm, E8 _ hin⟩ hpre rfl (by rw [List.length_map]; exact hn) hl.1 hstk hW9 hd ⟨by omega, by omega⟩
    · exact va_runIN (host := host) (bytes := cc2) (maxL := maxL2) (n := n) ⟨E1, E2, E4, E5, E8⟩ (hM G) ⟨va_cnB n E8 hG rfl rfl rfl (E9.nest hk) (E8 _ y3) y5 hroom, hnm, E8 _ hin⟩ hpre rfl (by rw [List.length_map]; exact hn) hl.1 hstk hW9 hd ⟨by omega, by omega⟩
  exact q_after hrun hlo e1 e2 (by omega) (by omega) e3 e4 hl (k3 G p e R s m args below meth c E)
end QCall
section QHelp
theorem q_bind {α β : Type} {o : Option α} {f : α → Option β} {r : β} {P : Prop} (hyp : o.bind f = some r) (k : ∀ x, o = some x → f x = some r → P) : P := by
  cases o with
  | none => cases hyp
  | some x => exact k x rfl hyp
theorem q_pos {α : Type} {c : Prop} [Decidable c] {a b r : α} (h : c) (hyp : (if c then a else b) = r) : a = r := by rw [if_pos h] at hyp; exact hyp
theorem q_neg {α : Type} {c : Prop} [Decidable c] {a b r : α} (h : ¬ c) (hyp : (if c then a else b) = r) : b = r := by rw [if_neg h] at hyp; exact hyp
theorem q_ite {α : Type} {c : Prop} [Decidable c] {a b r : α} {P : Prop} (hyp : (if c then a else b) = r) (kt : c → a = r → P) (kf : ¬ c → b = r → P) : P := by
  by_cases h : c
  · exact kt h (q_pos h hyp)
  · exact kf h (q_neg h hyp)
/-- the receiver is an object of class ci -/
def isO (h : qH) (o ci : Nat) : Option Unit := match h.1 o with
  | some (.inr (c, _)) => if c = ci then some () else none
  | _ => none
theorem isO_some {h : qH} {o ci : Nat} {u : Unit} (e : isO h o ci = some u) : ∃ fs, h.1 o = some (.inr (ci, fs)) := by
  unfold isO at e
  split at e
  · rename_i c fs hh
    split at e
    · rename_i hc
      subst hc
      exact ⟨fs, hh⟩
    · cases e
  · cases e
/-- a boolean is 0 or 1 -/
def qB (x : Int32) : Option Unit := if x = 0 ∨ x = 1 then some () else none
theorem qB_some {x : Int32} {u : Unit} (e : qB x = some u) : narrow .boolean (.int x) = .int x := by
  unfold qB at e
  split at e
  · rename_i hc
    rcases hc with rfl | rfl <;> rfl
  · cases e
theorem qB_fits {x : Int32} {u : Unit} (e : qB x = some u) (G : qG) : narrow .boolean (q_v G (.int x)) = q_v G (.int x) ∧ fits .boolean (q_v G (.int x)) = true := by
  unfold qB at e
  split at e
  · rename_i hc
    rcases hc with rfl | rfl <;> exact ⟨rfl, rfl⟩
  · cases e
/-- a divisor is not 0 -/
def qZ (x : Int32) : Option Unit := if x = 0 then none else some ()
theorem qZ_some {x : Int32} {u : Unit} (e : qZ x = some u) : ¬ x = 0 := by
  unfold qZ at e
  split at e
  · cases e
  · assumption
def qZL (x : Int64) : Option Unit := if x = 0 then none else some ()
theorem qZL_some {x : Int64} {u : Unit} (e : qZL x = some u) : ¬ x = 0 := by
  unfold qZL at e
  split at e
  · cases e
  · assumption
theorem q_iretH {l : Launch} {d : Nat} {y : MethodName} {cc : ByteArray} {nL : Nat} {ret : Option FieldType} {pc : Nat} {ls : List (Nat × Value)} {h h' : qH} {x r : Int32} {ty : FieldType} (hr : ret = some ty) (hn : narrow ty (.int x) = .int x) (hd : decode cc pc = .ok (.ireturn, 1)) (hyp : some (x, h) = some (r, h')) : q_W l d y cc nL ret (some (.int r)) h' pc ls [.int x] h := by
  cases hyp
  exact q_iret hr hn hd
theorem q_lretH {l : Launch} {d : Nat} {y : MethodName} {cc : ByteArray} {nL : Nat} {ret : Option FieldType} {pc : Nat} {ls : List (Nat × Value)} {h h' : qH} {x r : Int64} (hr : ret = some .long) (hd : decode cc pc = .ok (.lreturn, 1)) (hyp : some (x, h) = some (r, h')) : q_W l d y cc nL ret (some (.long r)) h' pc ls [.long x] h := by
  cases hyp
  exact q_lret hr hd
theorem q_vretH {l : Launch} {d : Nat} {y : MethodName} {cc : ByteArray} {nL : Nat} {ret : Option FieldType} {pc : Nat} {ls : List (Nat × Value)} {h h' : qH} (hr : ret = none) (hd : decode cc pc = .ok (.return_, 1)) (hyp : some h = some h') : q_W l d y cc nL ret none h' pc ls [] h := by
  cases hyp
  exact q_vret hr hd
theorem q_ni {x v : Int32} (h : ¬ x = v) : x.toInt ≠ v.toInt := fun e => h (Int32.toInt_inj.mp e)
end QHelp
