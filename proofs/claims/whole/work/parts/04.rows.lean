/-! ROWS of the layer that leave the heap alone (written by rows.py). -/
section QRows
variable {l : Launch} {d : Nat} {y : MethodName} {cc : ByteArray} {nL : Nat} {ret : Option FieldType} {r : Option Value} {h' : qH} {pc : Nat} {ls : List (Nat × Value)} {st : List Value} {h : qH}
theorem q_W.go {pc' : Nat} {ls' : List (Nat × Value)} {st' : List Value} (k : q_W l d y cc nL ret r h' pc' ls' st' h)
    (f : ∀ (G : qG) (p : Program) (e : Env) (R : Room) (s : State) (m : MethodId) (args : Array Value) (below : List Frame) (meth : Method) (c : Code) (H : Heap) (locs : List Loc) (cells slots : Nat) (Q : State → Prop) (lc : Array Slot), q_Env G d y cc nL ret p R s m args meth c → lv_has lc nL (ls.map (q_lv G)) → cells ≤ R.cells → slots ≤ R.slots →
      (∀ lc' : Array Slot, lv_has lc' nL (ls'.map (q_lv G)) → W p l e R s m args below meth c H locs cells slots Q (F0 m pc' lc' (st'.map (q_v G)))) → W p l e R s m args below meth c H locs cells slots Q (F0 m pc lc (st.map (q_v G)))) : q_W l d y cc nL ret r h' pc ls st h := by
  intro h2
  obtain ⟨k1, k2, k3⟩ := k h2
  refine ⟨k1, k2, fun G p e R s m args below meth c E H locs cells slots mc ms lc hR hlo e1 e2 e3 e4 hl => ?_⟩
  exact f G p e R s m args below meth c H locs cells slots _ lc E hl (by omega) (by omega) (fun lc' hl' => k3 G p e R s m args below meth c E H locs cells slots mc ms lc' hR hlo e1 e2 e3 e4 hl')
theorem q_lat {G : qG} {lc : Array Slot} (hl : lv_has lc nL (ls.map (q_lv G))) (j : Nat) {i : Nat} {v : Value} (hj : ls[j]? = some (i, v)) : lc[i]? = some (.val (q_v G v)) :=
  lv_at hl j (by rw [List.getElem?_map, hj]; rfl)
theorem q_flt (G : qG) (i : Nat) (l0 : List (Nat × Value)) : (l0.map (q_lv G)).filter (fun q => !(q.1 == i) && !(q.1 + 1 == i && q.2.category == 2)) = (l0.filter (fun q => !(q.1 == i) && !(q.1 + 1 == i && q.2.category == 2))).map (q_lv G) := by
  induction l0 with
  | nil => rfl
  | cons a l0 ih =>
    simp only [List.map_cons, List.filter_cons, ih]
    simp only [q_lv, q_v_cat]
    split <;> simp_all [q_lv]
theorem q_flt2 (G : qG) (i : Nat) (l0 : List (Nat × Value)) : (l0.map (q_lv G)).filter (fun q => !(q.1 == i) && (!(q.1 == i + 1) && !(q.1 + 1 == i && q.2.category == 2))) = (l0.filter (fun q => !(q.1 == i) && (!(q.1 == i + 1) && !(q.1 + 1 == i && q.2.category == 2)))).map (q_lv G) := by
  induction l0 with
  | nil => rfl
  | cons a l0 ih =>
    simp only [List.map_cons, List.filter_cons, ih]
    simp only [q_lv, q_v_cat]
    split <;> simp_all [q_lv]
/-- fewer locals are kept in sight -/
theorem q_sub {ls' : List (Nat × Value)} (ks : List Nat) (hs : lv_pick ls ks = ls') (k : q_W l d y cc nL ret r h' pc ls' st h) : q_W l d y cc nL ret r h' pc ls st h :=
  k.go fun G p e R s m args below meth c H locs cells slots Q lc E hl _ _ kk => kk lc (lv_sub hl ks (by
    rw [← hs]
    unfold lv_pick
    rw [List.map_filterMap]
    congr 1
    funext k9
    rw [List.getElem?_map]))
/-- the same state under other words -/
theorem q_to {ls' : List (Nat × Value)} {st' : List Value} (e1 : ls = ls') (e2 : st = st') (k : q_W l d y cc nL ret r h' pc ls' st' h) : q_W l d y cc nL ret r h' pc ls st h := by
  subst e1; subst e2; exact k
theorem q_iadd {x z : Int32} (hd : decode cc pc = .ok (.iadd, 1)) (k : q_W l d y cc nL ret r h' (pc + 1) ls (.int (x + z) :: st) h) : q_W l d y cc nL ret r h' pc ls (.int z :: .int x :: st) h :=
  k.go fun G p e R s m args below meth c H locs cells slots Q lc E hl _ _ kk => lv_iadd E.1 E.2.1 hd (kk lc hl)
theorem q_isub {x z : Int32} (hd : decode cc pc = .ok (.isub, 1)) (k : q_W l d y cc nL ret r h' (pc + 1) ls (.int (x - z) :: st) h) : q_W l d y cc nL ret r h' pc ls (.int z :: .int x :: st) h :=
  k.go fun G p e R s m args below meth c H locs cells slots Q lc E hl _ _ kk => lv_isub E.1 E.2.1 hd (kk lc hl)
theorem q_imul {x z : Int32} (hd : decode cc pc = .ok (.imul, 1)) (k : q_W l d y cc nL ret r h' (pc + 1) ls (.int (x * z) :: st) h) : q_W l d y cc nL ret r h' pc ls (.int z :: .int x :: st) h :=
  k.go fun G p e R s m args below meth c H locs cells slots Q lc E hl _ _ kk => lv_imul E.1 E.2.1 hd (kk lc hl)
theorem q_iand {x z : Int32} (hd : decode cc pc = .ok (.iand, 1)) (k : q_W l d y cc nL ret r h' (pc + 1) ls (.int (x &&& z) :: st) h) : q_W l d y cc nL ret r h' pc ls (.int z :: .int x :: st) h :=
  k.go fun G p e R s m args below meth c H locs cells slots Q lc E hl _ _ kk => lv_iand E.1 E.2.1 hd (kk lc hl)
theorem q_ior {x z : Int32} (hd : decode cc pc = .ok (.ior, 1)) (k : q_W l d y cc nL ret r h' (pc + 1) ls (.int (x ||| z) :: st) h) : q_W l d y cc nL ret r h' pc ls (.int z :: .int x :: st) h :=
  k.go fun G p e R s m args below meth c H locs cells slots Q lc E hl _ _ kk => lv_ior E.1 E.2.1 hd (kk lc hl)
theorem q_ixor {x z : Int32} (hd : decode cc pc = .ok (.ixor, 1)) (k : q_W l d y cc nL ret r h' (pc + 1) ls (.int (x ^^^ z) :: st) h) : q_W l d y cc nL ret r h' pc ls (.int z :: .int x :: st) h :=
  k.go fun G p e R s m args below meth c H locs cells slots Q lc E hl _ _ kk => lv_ixor E.1 E.2.1 hd (kk lc hl)
theorem q_ishl {x z : Int32} (hd : decode cc pc = .ok (.ishl, 1)) (k : q_W l d y cc nL ret r h' (pc + 1) ls (.int (x <<< (z &&& 31)) :: st) h) : q_W l d y cc nL ret r h' pc ls (.int z :: .int x :: st) h :=
  k.go fun G p e R s m args below meth c H locs cells slots Q lc E hl _ _ kk => lv_ishl E.1 E.2.1 hd (kk lc hl)
theorem q_ishr {x z : Int32} (hd : decode cc pc = .ok (.ishr, 1)) (k : q_W l d y cc nL ret r h' (pc + 1) ls (.int (x >>> (z &&& 31)) :: st) h) : q_W l d y cc nL ret r h' pc ls (.int z :: .int x :: st) h :=
  k.go fun G p e R s m args below meth c H locs cells slots Q lc E hl _ _ kk => lv_ishr E.1 E.2.1 hd (kk lc hl)
theorem q_iushr {x z : Int32} (hd : decode cc pc = .ok (.iushr, 1)) (k : q_W l d y cc nL ret r h' (pc + 1) ls (.int ((x.toUInt32 >>> (z.toUInt32 &&& Int32.toUInt32 31)).toInt32) :: st) h) : q_W l d y cc nL ret r h' pc ls (.int z :: .int x :: st) h :=
  k.go fun G p e R s m args below meth c H locs cells slots Q lc E hl _ _ kk => lv_iushr E.1 E.2.1 hd rfl (kk lc hl)
theorem q_ineg {x : Int32} (hd : decode cc pc = .ok (.ineg, 1)) (k : q_W l d y cc nL ret r h' (pc + 1) ls (.int (-x) :: st) h) : q_W l d y cc nL ret r h' pc ls (.int x :: st) h :=
  k.go fun G p e R s m args below meth c H locs cells slots Q lc E hl _ _ kk => lv_ineg E.1 E.2.1 hd (kk lc hl)
theorem q_idiv {x z : Int32} (hd : decode cc pc = .ok (.idiv, 1)) (hz : ¬ z = 0) (k : q_W l d y cc nL ret r h' (pc + 1) ls (.int (x / z) :: st) h) : q_W l d y cc nL ret r h' pc ls (.int z :: .int x :: st) h :=
  k.go fun G p e R s m args below meth c H locs cells slots Q lc E hl _ _ kk => lv_idiv E.1 E.2.1 hd hz (kk lc hl)
theorem q_irem {x z : Int32} (hd : decode cc pc = .ok (.irem, 1)) (hz : ¬ z = 0) (k : q_W l d y cc nL ret r h' (pc + 1) ls (.int (x - x / z * z) :: st) h) : q_W l d y cc nL ret r h' pc ls (.int z :: .int x :: st) h :=
  k.go fun G p e R s m args below meth c H locs cells slots Q lc E hl _ _ kk => lv_irem E.1 E.2.1 hd hz (kk lc hl)
theorem q_ladd {x z : Int64} (hd : decode cc pc = .ok (.ladd, 1)) (k : q_W l d y cc nL ret r h' (pc + 1) ls (.long (x + z) :: st) h) : q_W l d y cc nL ret r h' pc ls (.long z :: .long x :: st) h :=
  k.go fun G p e R s m args below meth c H locs cells slots Q lc E hl _ _ kk => lv_ladd E.1 E.2.1 hd (kk lc hl)
theorem q_lsub {x z : Int64} (hd : decode cc pc = .ok (.lsub, 1)) (k : q_W l d y cc nL ret r h' (pc + 1) ls (.long (x - z) :: st) h) : q_W l d y cc nL ret r h' pc ls (.long z :: .long x :: st) h :=
  k.go fun G p e R s m args below meth c H locs cells slots Q lc E hl _ _ kk => lv_lsub E.1 E.2.1 hd (kk lc hl)
theorem q_lmul {x z : Int64} (hd : decode cc pc = .ok (.lmul, 1)) (k : q_W l d y cc nL ret r h' (pc + 1) ls (.long (x * z) :: st) h) : q_W l d y cc nL ret r h' pc ls (.long z :: .long x :: st) h :=
  k.go fun G p e R s m args below meth c H locs cells slots Q lc E hl _ _ kk => lv_lmul E.1 E.2.1 hd (kk lc hl)
theorem q_land {x z : Int64} (hd : decode cc pc = .ok (.land, 1)) (k : q_W l d y cc nL ret r h' (pc + 1) ls (.long (x &&& z) :: st) h) : q_W l d y cc nL ret r h' pc ls (.long z :: .long x :: st) h :=
  k.go fun G p e R s m args below meth c H locs cells slots Q lc E hl _ _ kk => lv_land E.1 E.2.1 hd (kk lc hl)
theorem q_lor {x z : Int64} (hd : decode cc pc = .ok (.lor, 1)) (k : q_W l d y cc nL ret r h' (pc + 1) ls (.long (x ||| z) :: st) h) : q_W l d y cc nL ret r h' pc ls (.long z :: .long x :: st) h :=
  k.go fun G p e R s m args below meth c H locs cells slots Q lc E hl _ _ kk => lv_lor E.1 E.2.1 hd (kk lc hl)
theorem q_ldiv {x z : Int64} (hd : decode cc pc = .ok (.ldiv, 1)) (hz : ¬ z = 0) (k : q_W l d y cc nL ret r h' (pc + 1) ls (.long (x / z) :: st) h) : q_W l d y cc nL ret r h' pc ls (.long z :: .long x :: st) h :=
  k.go fun G p e R s m args below meth c H locs cells slots Q lc E hl _ _ kk => lv_ldiv E.1 E.2.1 hd hz (kk lc hl)
theorem q_lrem {x z : Int64} (hd : decode cc pc = .ok (.lrem, 1)) (hz : ¬ z = 0) (k : q_W l d y cc nL ret r h' (pc + 1) ls (.long (x - x / z * z) :: st) h) : q_W l d y cc nL ret r h' pc ls (.long z :: .long x :: st) h :=
  k.go fun G p e R s m args below meth c H locs cells slots Q lc E hl _ _ kk => lv_lrem E.1 E.2.1 hd hz (kk lc hl)
theorem q_lshl {x : Int64} {z : Int32} (hd : decode cc pc = .ok (.lshl, 1)) (k : q_W l d y cc nL ret r h' (pc + 1) ls (.long (x <<< (z.toInt64 &&& 63)) :: st) h) : q_W l d y cc nL ret r h' pc ls (.int z :: .long x :: st) h :=
  k.go fun G p e R s m args below meth c H locs cells slots Q lc E hl _ _ kk => lv_lshl E.1 E.2.1 hd rfl (kk lc hl)
theorem q_lushr {x : Int64} {z : Int32} (hd : decode cc pc = .ok (.lushr, 1)) (k : q_W l d y cc nL ret r h' (pc + 1) ls (.long ((x.toUInt64 >>> (z.toInt64.toUInt64 &&& Int64.toUInt64 63)).toInt64) :: st) h) : q_W l d y cc nL ret r h' pc ls (.int z :: .long x :: st) h :=
  k.go fun G p e R s m args below meth c H locs cells slots Q lc E hl _ _ kk => lv_lushr E.1 E.2.1 hd rfl (kk lc hl)
theorem q_i2l {x : Int32} (hd : decode cc pc = .ok (.i2l, 1)) (k : q_W l d y cc nL ret r h' (pc + 1) ls (.long x.toInt64 :: st) h) : q_W l d y cc nL ret r h' pc ls (.int x :: st) h :=
  k.go fun G p e R s m args below meth c H locs cells slots Q lc E hl _ _ kk => lv_i2l E.1 E.2.1 hd rfl (kk lc hl)
theorem q_l2i {x : Int64} (hd : decode cc pc = .ok (.l2i, 1)) (k : q_W l d y cc nL ret r h' (pc + 1) ls (.int x.toInt32 :: st) h) : q_W l d y cc nL ret r h' pc ls (.long x :: st) h :=
  k.go fun G p e R s m args below meth c H locs cells slots Q lc E hl _ _ kk => lv_l2i E.1 E.2.1 hd rfl (kk lc hl)
theorem q_i2c {x : Int32} (hd : decode cc pc = .ok (.i2c, 1)) (k : q_W l d y cc nL ret r h' (pc + 1) ls (.int ((x.toUInt32 % 65536).toInt32) :: st) h) : q_W l d y cc nL ret r h' pc ls (.int x :: st) h :=
  k.go fun G p e R s m args below meth c H locs cells slots Q lc E hl _ _ kk => lv_i2c E.1 E.2.1 hd rfl (kk lc hl)
theorem q_lcmp {x z : Int64} (hd : decode cc pc = .ok (.lcmp, 1)) (k : q_W l d y cc nL ret r h' (pc + 1) ls (.int (lg_cmp x z) :: st) h) : q_W l d y cc nL ret r h' pc ls (.long z :: .long x :: st) h :=
  k.go fun G p e R s m args below meth c H locs cells slots Q lc E hl _ _ kk => W.lcmp E.1 E.2.1 hd (kk lc hl)
theorem q_iconst {n : Int} {x : Int32} (hx : Int32.ofInt n = x) (hd : decode cc pc = .ok (.iconst n, 1)) (k : q_W l d y cc nL ret r h' (pc + 1) ls (.int x :: st) h) : q_W l d y cc nL ret r h' pc ls (st) h :=
  k.go fun G p e R s m args below meth c H locs cells slots Q lc E hl _ _ kk => lv_iconst E.1 E.2.1 hd hx (kk lc hl)
theorem q_bipush {n : Int} {x : Int32} (hx : (Int8.ofInt n).toInt32 = x) (hd : decode cc pc = .ok (.bipush n, 2)) (k : q_W l d y cc nL ret r h' (pc + 2) ls (.int x :: st) h) : q_W l d y cc nL ret r h' pc ls (st) h :=
  k.go fun G p e R s m args below meth c H locs cells slots Q lc E hl _ _ kk => lv_bipush E.1 E.2.1 hd hx (kk lc hl)
theorem q_sipush {n : Int} {x : Int32} (hx : (Int16.ofInt n).toInt32 = x) (hd : decode cc pc = .ok (.sipush n, 3)) (k : q_W l d y cc nL ret r h' (pc + 3) ls (.int x :: st) h) : q_W l d y cc nL ret r h' pc ls (st) h :=
  k.go fun G p e R s m args below meth c H locs cells slots Q lc E hl _ _ kk => lv_sipush E.1 E.2.1 hd hx (kk lc hl)
theorem q_lconst {n : Fin 2} {x : Int64} (hx : Int64.ofNat n = x) (hd : decode cc pc = .ok (.lconst n, 1)) (k : q_W l d y cc nL ret r h' (pc + 1) ls (.long x :: st) h) : q_W l d y cc nL ret r h' pc ls (st) h :=
  k.go fun G p e R s m args below meth c H locs cells slots Q lc E hl _ _ kk => lv_lconst E.1 E.2.1 hd hx (kk lc hl)
theorem q_ldc2 {i : Nat} {x : Int64} (hc : Cond.constantLong y.cls i x ∈ q_tbl) (hd : decode cc pc = .ok (.ldc2_w i, 3)) (k : q_W l d y cc nL ret r h' (pc + 3) ls (.long x :: st) h) : q_W l d y cc nL ret r h' pc ls (st) h :=
  k.go fun G p e R s m args below meth c H locs cells slots Q lc E hl _ _ kk => lv_ldc2 E.1 E.2.1 E.2.2.2.2.1 (E.2.2.2.2.2.2.2.1 _ hc) hd (kk lc hl)
theorem q_ldcw {i : Nat} {x : Int32} (hc : Cond.constant y.cls i x ∈ q_tbl) (hd : decode cc pc = .ok (.ldc_w i, 3)) (k : q_W l d y cc nL ret r h' (pc + 3) ls (.int x :: st) h) : q_W l d y cc nL ret r h' pc ls (st) h :=
  k.go fun G p e R s m args below meth c H locs cells slots Q lc E hl _ _ kk => lv_ldcw E.1 E.2.1 E.2.2.2.2.1 (E.2.2.2.2.2.2.2.1 _ hc) hd (kk lc hl)
theorem q_ldc {i : Nat} {x : Int32} (hc : Cond.constant y.cls i x ∈ q_tbl) (hd : decode cc pc = .ok (.ldc i, 2)) (k : q_W l d y cc nL ret r h' (pc + 2) ls (.int x :: st) h) : q_W l d y cc nL ret r h' pc ls (st) h :=
  k.go fun G p e R s m args below meth c H locs cells slots Q lc E hl _ _ kk => lv_ldc E.1 E.2.1 E.2.2.2.2.1 (E.2.2.2.2.2.2.2.1 _ hc) hd (kk lc hl)
theorem q_iload_n {k : Fin 4} {x : Int32} (j : Nat) (hj : ls[j]? = some ((k : Nat), .int x)) (hd : decode cc pc = .ok (.iload_n k, 1)) (k : q_W l d y cc nL ret r h' (pc + 1) ls (.int x :: st) h) : q_W l d y cc nL ret r h' pc ls (st) h :=
  k.go fun G p e R s m args below meth c H locs cells slots Q lc E hl _ _ kk => lv_iload_n E.1 E.2.1 hd rfl (q_lat hl j hj) (kk lc hl)
theorem q_iload {i : Nat} {x : Int32} (j : Nat) (hj : ls[j]? = some (i, .int x)) (hd : decode cc pc = .ok (.iload i, 2)) (k : q_W l d y cc nL ret r h' (pc + 2) ls (.int x :: st) h) : q_W l d y cc nL ret r h' pc ls (st) h :=
  k.go fun G p e R s m args below meth c H locs cells slots Q lc E hl _ _ kk => lv_iload E.1 E.2.1 hd (q_lat hl j hj) (kk lc hl)
theorem q_istore_n {k : Fin 4} {x : Int32} {ls' : List (Nat × Value)} (hn : (k : Nat) < nL) (hs : ((k : Nat), Value.int x) :: ls.filter (fun q => !(q.1 == (k : Nat)) && !(q.1 + 1 == (k : Nat) && q.2.category == 2)) = ls') (hd : decode cc pc = .ok (.istore_n k, 1)) (k : q_W l d y cc nL ret r h' (pc + 1) ls' (st) h) : q_W l d y cc nL ret r h' pc ls (.int x :: st) h :=
  k.go fun G p e R s m args below meth c H locs cells slots Q lc E hl _ _ kk => lv_istore_n (lv' := ls'.map (q_lv G)) E.1 E.2.1 hd rfl hl hn (by rw [q_flt, ← hs]; rfl) kk
theorem q_istore {i : Nat} {x : Int32} {ls' : List (Nat × Value)} (hn : i < nL) (hs : (i, Value.int x) :: ls.filter (fun q => !(q.1 == i) && !(q.1 + 1 == i && q.2.category == 2)) = ls') (hd : decode cc pc = .ok (.istore i, 2)) (k : q_W l d y cc nL ret r h' (pc + 2) ls' (st) h) : q_W l d y cc nL ret r h' pc ls (.int x :: st) h :=
  k.go fun G p e R s m args below meth c H locs cells slots Q lc E hl _ _ kk => lv_istore (lv' := ls'.map (q_lv G)) E.1 E.2.1 hd hl hn (by rw [q_flt, ← hs]; rfl) kk
theorem q_lload_n {k : Fin 4} {x : Int64} (j : Nat) (hj : ls[j]? = some ((k : Nat), .long x)) (hd : decode cc pc = .ok (.lload_n k, 1)) (k : q_W l d y cc nL ret r h' (pc + 1) ls (.long x :: st) h) : q_W l d y cc nL ret r h' pc ls (st) h :=
  k.go fun G p e R s m args below meth c H locs cells slots Q lc E hl _ _ kk => lv_lload_n E.1 E.2.1 hd rfl (q_lat hl j hj) (kk lc hl)
theorem q_lload {i : Nat} {x : Int64} (j : Nat) (hj : ls[j]? = some (i, .long x)) (hd : decode cc pc = .ok (.lload i, 2)) (k : q_W l d y cc nL ret r h' (pc + 2) ls (.long x :: st) h) : q_W l d y cc nL ret r h' pc ls (st) h :=
  k.go fun G p e R s m args below meth c H locs cells slots Q lc E hl _ _ kk => lv_lload E.1 E.2.1 hd (q_lat hl j hj) (kk lc hl)
theorem q_lstore_n {k : Fin 4} {x : Int64} {ls' : List (Nat × Value)} (hn : (k : Nat) + 1 < nL) (hs : ((k : Nat), Value.long x) :: ls.filter (fun q => !(q.1 == (k : Nat)) && (!(q.1 == (k : Nat) + 1) && !(q.1 + 1 == (k : Nat) && q.2.category == 2))) = ls') (hd : decode cc pc = .ok (.lstore_n k, 1)) (k : q_W l d y cc nL ret r h' (pc + 1) ls' (st) h) : q_W l d y cc nL ret r h' pc ls (.long x :: st) h :=
  k.go fun G p e R s m args below meth c H locs cells slots Q lc E hl _ _ kk => lv_lstore_n (lv' := ls'.map (q_lv G)) E.1 E.2.1 hd rfl hl hn (by rw [q_flt2, ← hs]; rfl) kk
theorem q_lstore {i : Nat} {x : Int64} {ls' : List (Nat × Value)} (hn : i + 1 < nL) (hs : (i, Value.long x) :: ls.filter (fun q => !(q.1 == i) && (!(q.1 == i + 1) && !(q.1 + 1 == i && q.2.category == 2))) = ls') (hd : decode cc pc = .ok (.lstore i, 2)) (k : q_W l d y cc nL ret r h' (pc + 2) ls' (st) h) : q_W l d y cc nL ret r h' pc ls (.long x :: st) h :=
  k.go fun G p e R s m args below meth c H locs cells slots Q lc E hl _ _ kk => lv_lstore (lv' := ls'.map (q_lv G)) E.1 E.2.1 hd hl hn (by rw [q_flt2, ← hs]; rfl) kk
theorem q_aload_n {k : Fin 4} {x : Nat} (j : Nat) (hj : ls[j]? = some ((k : Nat), .ref x)) (hd : decode cc pc = .ok (.aload_n k, 1)) (k : q_W l d y cc nL ret r h' (pc + 1) ls (.ref x :: st) h) : q_W l d y cc nL ret r h' pc ls (st) h :=
  k.go fun G p e R s m args below meth c H locs cells slots Q lc E hl _ _ kk => lv_aload_n E.1 E.2.1 hd rfl (q_lat hl j hj) (kk lc hl)
theorem q_aload {i : Nat} {x : Nat} (j : Nat) (hj : ls[j]? = some (i, .ref x)) (hd : decode cc pc = .ok (.aload i, 2)) (k : q_W l d y cc nL ret r h' (pc + 2) ls (.ref x :: st) h) : q_W l d y cc nL ret r h' pc ls (st) h :=
  k.go fun G p e R s m args below meth c H locs cells slots Q lc E hl _ _ kk => lv_aload E.1 E.2.1 hd (q_lat hl j hj) (kk lc hl)
theorem q_astore_n {k : Fin 4} {x : Nat} {ls' : List (Nat × Value)} (hn : (k : Nat) < nL) (hs : ((k : Nat), Value.ref x) :: ls.filter (fun q => !(q.1 == (k : Nat)) && !(q.1 + 1 == (k : Nat) && q.2.category == 2)) = ls') (hd : decode cc pc = .ok (.astore_n k, 1)) (k : q_W l d y cc nL ret r h' (pc + 1) ls' (st) h) : q_W l d y cc nL ret r h' pc ls (.ref x :: st) h :=
  k.go fun G p e R s m args below meth c H locs cells slots Q lc E hl _ _ kk => lv_astore_n (lv' := ls'.map (q_lv G)) E.1 E.2.1 hd rfl hl hn (by rw [q_flt, ← hs]; rfl) kk
theorem q_astore {i : Nat} {x : Nat} {ls' : List (Nat × Value)} (hn : i < nL) (hs : (i, Value.ref x) :: ls.filter (fun q => !(q.1 == i) && !(q.1 + 1 == i && q.2.category == 2)) = ls') (hd : decode cc pc = .ok (.astore i, 2)) (k : q_W l d y cc nL ret r h' (pc + 2) ls' (st) h) : q_W l d y cc nL ret r h' pc ls (.ref x :: st) h :=
  k.go fun G p e R s m args below meth c H locs cells slots Q lc E hl _ _ kk => lv_astore (lv' := ls'.map (q_lv G)) E.1 E.2.1 hd hl hn (by rw [q_flt, ← hs]; rfl) kk
theorem q_iinc {i : Nat} {n : Int} {x x2 : Int32} {ls' : List (Nat × Value)} (j : Nat) (hj : ls[j]? = some (i, .int x)) (hv : x + Int32.ofInt n = x2) (hn : i < nL) (hs : (i, Value.int x2) :: ls.filter (fun q => !(q.1 == i) && !(q.1 + 1 == i && q.2.category == 2)) = ls') (hd : decode cc pc = .ok (.iinc i n, 3)) (k : q_W l d y cc nL ret r h' (pc + 3) ls' (st) h) : q_W l d y cc nL ret r h' pc ls (st) h :=
  k.go fun G p e R s m args below meth c H locs cells slots Q lc E hl _ _ kk => lv_iinc (lv' := ls'.map (q_lv G)) E.1 E.2.1 hd hl (k := j) (by rw [List.getElem?_map, hj]; rfl) hv hn (by rw [q_flt, ← hs]; rfl) kk
theorem q_dup {v : Value} (hv : v.category = 1) (hd : decode cc pc = .ok (.dup, 1)) (k : q_W l d y cc nL ret r h' (pc + 1) ls (v :: v :: st) h) : q_W l d y cc nL ret r h' pc ls (v :: st) h :=
  k.go fun G p e R s m args below meth c H locs cells slots Q lc E hl _ _ kk => lv_dup E.1 E.2.1 hd (by rw [q_v_cat]; exact hv) (kk lc hl)
theorem q_dup2 {v w : Value} (hv : v.category = 1) (hw : w.category = 1) (hd : decode cc pc = .ok (.dup2, 1)) (k : q_W l d y cc nL ret r h' (pc + 1) ls (v :: w :: v :: w :: st) h) : q_W l d y cc nL ret r h' pc ls (v :: w :: st) h :=
  k.go fun G p e R s m args below meth c H locs cells slots Q lc E hl _ _ kk => lv_dup2_11 E.1 E.2.1 hd (by rw [q_v_cat]; exact hv) (by rw [q_v_cat]; exact hw) (kk lc hl)
theorem q_pop {v : Value} (hv : v.category = 1) (hd : decode cc pc = .ok (.pop, 1)) (k : q_W l d y cc nL ret r h' (pc + 1) ls (st) h) : q_W l d y cc nL ret r h' pc ls (v :: st) h :=
  k.go fun G p e R s m args below meth c H locs cells slots Q lc E hl _ _ kk => lv_pop E.1 E.2.1 hd (by rw [q_v_cat]; exact hv) (kk lc hl)
theorem q_goto {off : Int} {tgt : Nat} (hd : decode cc pc = .ok (.goto off, 3)) (ht : (pc : Int) + off = (tgt : Int)) (k : q_W l d y cc nL ret r h' tgt ls st h) : q_W l d y cc nL ret r h' pc ls st h :=
  k.go fun G p e R s m args below meth c H locs cells slots Q lc E hl _ _ kk => lv_goto E.1 E.2.1 hd ht (kk lc hl)
theorem q_icmp_eq {x z : Int32} {off : Int} {tgt : Nat} (hd : decode cc pc = .ok (.if_icmp .eq off, 3)) (ht : (pc : Int) + off = (tgt : Int)) (kt : x = z → q_W l d y cc nL ret r h' tgt ls st h) (kf : ¬ x = z → q_W l d y cc nL ret r h' (pc + 3) ls st h) : q_W l d y cc nL ret r h' pc ls (.int z :: .int x :: st) h := by
  by_cases c0 : x = z
  · exact (kt c0).go fun G p e R s m args below meth c H locs cells slots Q lc E hl _ _ kk => lv_icmp_eq E.1 E.2.1 hd ht (fun _ => kk lc hl) (fun n => absurd c0 (by first | exact n | exact fun q => q n))
  · exact (kf (by first | exact c0 | exact Classical.not_not.mp c0)).go fun G p e R s m args below meth c H locs cells slots Q lc E hl _ _ kk => lv_icmp_eq E.1 E.2.1 hd ht (fun n => absurd n c0) (fun _ => kk lc hl)
theorem q_if_eq {x : Int32} {off : Int} {tgt : Nat} (hd : decode cc pc = .ok (.ifCond .eq off, 3)) (ht : (pc : Int) + off = (tgt : Int)) (kt : x = 0 → q_W l d y cc nL ret r h' tgt ls st h) (kf : ¬ x = 0 → q_W l d y cc nL ret r h' (pc + 3) ls st h) : q_W l d y cc nL ret r h' pc ls (.int x :: st) h := by
  by_cases c0 : x = 0
  · exact (kt c0).go fun G p e R s m args below meth c H locs cells slots Q lc E hl _ _ kk => lv_if_eq E.1 E.2.1 hd ht (fun _ => kk lc hl) (fun n => absurd c0 (by first | exact n | exact fun q => q n))
  · exact (kf (by first | exact c0 | exact Classical.not_not.mp c0)).go fun G p e R s m args below meth c H locs cells slots Q lc E hl _ _ kk => lv_if_eq E.1 E.2.1 hd ht (fun n => absurd n c0) (fun _ => kk lc hl)
theorem q_icmp_ne {x z : Int32} {off : Int} {tgt : Nat} (hd : decode cc pc = .ok (.if_icmp .ne off, 3)) (ht : (pc : Int) + off = (tgt : Int)) (kt : ¬ x = z → q_W l d y cc nL ret r h' tgt ls st h) (kf : x = z → q_W l d y cc nL ret r h' (pc + 3) ls st h) : q_W l d y cc nL ret r h' pc ls (.int z :: .int x :: st) h := by
  by_cases c0 : ¬ x = z
  · exact (kt c0).go fun G p e R s m args below meth c H locs cells slots Q lc E hl _ _ kk => lv_icmp_ne E.1 E.2.1 hd ht (fun _ => kk lc hl) (fun n => absurd c0 (by first | exact n | exact fun q => q n))
  · exact (kf (by first | exact c0 | exact Classical.not_not.mp c0)).go fun G p e R s m args below meth c H locs cells slots Q lc E hl _ _ kk => lv_icmp_ne E.1 E.2.1 hd ht (fun n => absurd n c0) (fun _ => kk lc hl)
theorem q_if_ne {x : Int32} {off : Int} {tgt : Nat} (hd : decode cc pc = .ok (.ifCond .ne off, 3)) (ht : (pc : Int) + off = (tgt : Int)) (kt : ¬ x = 0 → q_W l d y cc nL ret r h' tgt ls st h) (kf : x = 0 → q_W l d y cc nL ret r h' (pc + 3) ls st h) : q_W l d y cc nL ret r h' pc ls (.int x :: st) h := by
  by_cases c0 : ¬ x = 0
  · exact (kt c0).go fun G p e R s m args below meth c H locs cells slots Q lc E hl _ _ kk => lv_if_ne E.1 E.2.1 hd ht (fun _ => kk lc hl) (fun n => absurd c0 (by first | exact n | exact fun q => q n))
  · exact (kf (by first | exact c0 | exact Classical.not_not.mp c0)).go fun G p e R s m args below meth c H locs cells slots Q lc E hl _ _ kk => lv_if_ne E.1 E.2.1 hd ht (fun n => absurd n c0) (fun _ => kk lc hl)
theorem q_icmp_lt {x z : Int32} {off : Int} {tgt : Nat} (hd : decode cc pc = .ok (.if_icmp .lt off, 3)) (ht : (pc : Int) + off = (tgt : Int)) (kt : x < z → q_W l d y cc nL ret r h' tgt ls st h) (kf : ¬ x < z → q_W l d y cc nL ret r h' (pc + 3) ls st h) : q_W l d y cc nL ret r h' pc ls (.int z :: .int x :: st) h := by
  by_cases c0 : x < z
  · exact (kt c0).go fun G p e R s m args below meth c H locs cells slots Q lc E hl _ _ kk => lv_icmp_lt E.1 E.2.1 hd ht (fun _ => kk lc hl) (fun n => absurd c0 (by first | exact n | exact fun q => q n))
  · exact (kf (by first | exact c0 | exact Classical.not_not.mp c0)).go fun G p e R s m args below meth c H locs cells slots Q lc E hl _ _ kk => lv_icmp_lt E.1 E.2.1 hd ht (fun n => absurd n c0) (fun _ => kk lc hl)
theorem q_if_lt {x : Int32} {off : Int} {tgt : Nat} (hd : decode cc pc = .ok (.ifCond .lt off, 3)) (ht : (pc : Int) + off = (tgt : Int)) (kt : x < 0 → q_W l d y cc nL ret r h' tgt ls st h) (kf : ¬ x < 0 → q_W l d y cc nL ret r h' (pc + 3) ls st h) : q_W l d y cc nL ret r h' pc ls (.int x :: st) h := by
  by_cases c0 : x < 0
  · exact (kt c0).go fun G p e R s m args below meth c H locs cells slots Q lc E hl _ _ kk => lv_if_lt E.1 E.2.1 hd ht (fun _ => kk lc hl) (fun n => absurd c0 (by first | exact n | exact fun q => q n))
  · exact (kf (by first | exact c0 | exact Classical.not_not.mp c0)).go fun G p e R s m args below meth c H locs cells slots Q lc E hl _ _ kk => lv_if_lt E.1 E.2.1 hd ht (fun n => absurd n c0) (fun _ => kk lc hl)
theorem q_icmp_ge {x z : Int32} {off : Int} {tgt : Nat} (hd : decode cc pc = .ok (.if_icmp .ge off, 3)) (ht : (pc : Int) + off = (tgt : Int)) (kt : z ≤ x → q_W l d y cc nL ret r h' tgt ls st h) (kf : ¬ z ≤ x → q_W l d y cc nL ret r h' (pc + 3) ls st h) : q_W l d y cc nL ret r h' pc ls (.int z :: .int x :: st) h := by
  by_cases c0 : z ≤ x
  · exact (kt c0).go fun G p e R s m args below meth c H locs cells slots Q lc E hl _ _ kk => lv_icmp_ge E.1 E.2.1 hd ht (fun _ => kk lc hl) (fun n => absurd c0 (by first | exact n | exact fun q => q n))
  · exact (kf (by first | exact c0 | exact Classical.not_not.mp c0)).go fun G p e R s m args below meth c H locs cells slots Q lc E hl _ _ kk => lv_icmp_ge E.1 E.2.1 hd ht (fun n => absurd n c0) (fun _ => kk lc hl)
theorem q_if_ge {x : Int32} {off : Int} {tgt : Nat} (hd : decode cc pc = .ok (.ifCond .ge off, 3)) (ht : (pc : Int) + off = (tgt : Int)) (kt : 0 ≤ x → q_W l d y cc nL ret r h' tgt ls st h) (kf : ¬ 0 ≤ x → q_W l d y cc nL ret r h' (pc + 3) ls st h) : q_W l d y cc nL ret r h' pc ls (.int x :: st) h := by
  by_cases c0 : 0 ≤ x
  · exact (kt c0).go fun G p e R s m args below meth c H locs cells slots Q lc E hl _ _ kk => lv_if_ge E.1 E.2.1 hd ht (fun _ => kk lc hl) (fun n => absurd c0 (by first | exact n | exact fun q => q n))
  · exact (kf (by first | exact c0 | exact Classical.not_not.mp c0)).go fun G p e R s m args below meth c H locs cells slots Q lc E hl _ _ kk => lv_if_ge E.1 E.2.1 hd ht (fun n => absurd n c0) (fun _ => kk lc hl)
theorem q_icmp_gt {x z : Int32} {off : Int} {tgt : Nat} (hd : decode cc pc = .ok (.if_icmp .gt off, 3)) (ht : (pc : Int) + off = (tgt : Int)) (kt : z < x → q_W l d y cc nL ret r h' tgt ls st h) (kf : ¬ z < x → q_W l d y cc nL ret r h' (pc + 3) ls st h) : q_W l d y cc nL ret r h' pc ls (.int z :: .int x :: st) h := by
  by_cases c0 : z < x
  · exact (kt c0).go fun G p e R s m args below meth c H locs cells slots Q lc E hl _ _ kk => lv_icmp_gt E.1 E.2.1 hd ht (fun _ => kk lc hl) (fun n => absurd c0 (by first | exact n | exact fun q => q n))
  · exact (kf (by first | exact c0 | exact Classical.not_not.mp c0)).go fun G p e R s m args below meth c H locs cells slots Q lc E hl _ _ kk => lv_icmp_gt E.1 E.2.1 hd ht (fun n => absurd n c0) (fun _ => kk lc hl)
theorem q_if_gt {x : Int32} {off : Int} {tgt : Nat} (hd : decode cc pc = .ok (.ifCond .gt off, 3)) (ht : (pc : Int) + off = (tgt : Int)) (kt : 0 < x → q_W l d y cc nL ret r h' tgt ls st h) (kf : ¬ 0 < x → q_W l d y cc nL ret r h' (pc + 3) ls st h) : q_W l d y cc nL ret r h' pc ls (.int x :: st) h := by
  by_cases c0 : 0 < x
  · exact (kt c0).go fun G p e R s m args below meth c H locs cells slots Q lc E hl _ _ kk => lv_if_gt E.1 E.2.1 hd ht (fun _ => kk lc hl) (fun n => absurd c0 (by first | exact n | exact fun q => q n))
  · exact (kf (by first | exact c0 | exact Classical.not_not.mp c0)).go fun G p e R s m args below meth c H locs cells slots Q lc E hl _ _ kk => lv_if_gt E.1 E.2.1 hd ht (fun n => absurd n c0) (fun _ => kk lc hl)
theorem q_icmp_le {x z : Int32} {off : Int} {tgt : Nat} (hd : decode cc pc = .ok (.if_icmp .le off, 3)) (ht : (pc : Int) + off = (tgt : Int)) (kt : x ≤ z → q_W l d y cc nL ret r h' tgt ls st h) (kf : ¬ x ≤ z → q_W l d y cc nL ret r h' (pc + 3) ls st h) : q_W l d y cc nL ret r h' pc ls (.int z :: .int x :: st) h := by
  by_cases c0 : x ≤ z
  · exact (kt c0).go fun G p e R s m args below meth c H locs cells slots Q lc E hl _ _ kk => lv_icmp_le E.1 E.2.1 hd ht (fun _ => kk lc hl) (fun n => absurd c0 (by first | exact n | exact fun q => q n))
  · exact (kf (by first | exact c0 | exact Classical.not_not.mp c0)).go fun G p e R s m args below meth c H locs cells slots Q lc E hl _ _ kk => lv_icmp_le E.1 E.2.1 hd ht (fun n => absurd n c0) (fun _ => kk lc hl)
theorem q_if_le {x : Int32} {off : Int} {tgt : Nat} (hd : decode cc pc = .ok (.ifCond .le off, 3)) (ht : (pc : Int) + off = (tgt : Int)) (kt : x ≤ 0 → q_W l d y cc nL ret r h' tgt ls st h) (kf : ¬ x ≤ 0 → q_W l d y cc nL ret r h' (pc + 3) ls st h) : q_W l d y cc nL ret r h' pc ls (.int x :: st) h := by
  by_cases c0 : x ≤ 0
  · exact (kt c0).go fun G p e R s m args below meth c H locs cells slots Q lc E hl _ _ kk => lv_if_le E.1 E.2.1 hd ht (fun _ => kk lc hl) (fun n => absurd c0 (by first | exact n | exact fun q => q n))
  · exact (kf (by first | exact c0 | exact Classical.not_not.mp c0)).go fun G p e R s m args below meth c H locs cells slots Q lc E hl _ _ kk => lv_if_le E.1 E.2.1 hd ht (fun n => absurd n c0) (fun _ => kk lc hl)
theorem q_catsum (G : qG) (st : List Value) : ((st.map (q_v G)).map fun v => v.category).sum = (st.map fun v => v.category).sum := by
  rw [List.map_map]
  congr 1
  exact List.map_congr_left (fun v _ => q_v_cat G v)
theorem q_tableIn {dflt lo hi : Int} {offs : Array Int} {len : Nat} {x : Int32} {off : Int} {tgt : Nat} (hd : decode cc pc = .ok (.tableswitch dflt lo hi offs, len)) (h1 : ¬ x.toInt < lo) (h2 : ¬ hi < x.toInt) (ho : offs[(x.toInt - lo).toNat]? = some off) (ht : (pc : Int) + off = (tgt : Int)) (k : q_W l d y cc nL ret r h' tgt ls st h) : q_W l d y cc nL ret r h' pc ls (.int x :: st) h :=
  k.go fun G p e R s m args below meth c H locs cells slots Q lc E hl _ _ kk => lv_tableIn E.1 E.2.1 hd h1 h2 ho ht (kk lc hl)
theorem q_tableOut {dflt lo hi : Int} {offs : Array Int} {len : Nat} {x : Int32} {tgt : Nat} (hd : decode cc pc = .ok (.tableswitch dflt lo hi offs, len)) (h1 : x.toInt < lo ∨ hi < x.toInt) (ht : (pc : Int) + dflt = (tgt : Int)) (k : q_W l d y cc nL ret r h' tgt ls st h) : q_W l d y cc nL ret r h' pc ls (.int x :: st) h :=
  k.go fun G p e R s m args below meth c H locs cells slots Q lc E hl _ _ kk => lv_tableOut E.1 E.2.1 hd h1 ht (kk lc hl)
theorem q_lookup {dflt : Int} {ps : Array (Int × Int)} {len : Nat} {x : Int32} {off : Int} {tgt : Nat} (hd : decode cc pc = .ok (.lookupswitch dflt ps, len)) (hp : (ps.toList.zip (ps.toList.drop 1)).all (fun (a, next) => a.1 < next.1) = true) (ho : Op.lookupswitch.offset ps.toList dflt x.toInt = off) (ht : (pc : Int) + off = (tgt : Int)) (k : q_W l d y cc nL ret r h' tgt ls st h) : q_W l d y cc nL ret r h' pc ls (.int x :: st) h :=
  k.go fun G p e R s m args below meth c H locs cells slots Q lc E hl _ _ kk => lv_lookup E.1 E.2.1 hd hp ho ht (kk lc hl)
theorem q_max {i : Nat} {x z : Int32} (hk : Cond.methodLink y.cls i Lib.Math.max.name ∈ q_tbl) (hst : Cond.static Lib.Math.max.name ∈ q_tbl) (hini : Cond.initialized "java/lang/Math" ∈ q_tbl) (hcd : Cond.code Lib.Math.max.name Lib.Math.max.code 2 (some .int) ∈ q_tbl) (hd0 : 1 ≤ d) (hw : (st.map fun v => v.category).sum ≤ 8) (hd : decode cc pc = .ok (.invokestatic i, 3)) (k : q_W l d y cc nL ret r h' (pc + 3) ls (.int (if x < z then z else x) :: st) h) : q_W l d y cc nL ret r h' pc ls (.int z :: .int x :: st) h :=
  k.go fun G p e R s m args below meth c H locs cells slots Q lc E hl hc hs kk => by
    obtain ⟨E1, E2, E3, E4, E5, E6, E7, E8, E9, E10, E11⟩ := id E
    exact va_mmax E1 E2 (by rw [E4]; exact hl.1.symm) E5 (E8 _ hk) (E8 _ hst) (E8 _ hini) (E8 _ hcd) (by omega) (by have := q_catsum G st; omega) hc hs hd (kk lc hl)
theorem q_min {i : Nat} {x z : Int32} (hk : Cond.methodLink y.cls i Lib.Math.min.name ∈ q_tbl) (hst : Cond.static Lib.Math.min.name ∈ q_tbl) (hini : Cond.initialized "java/lang/Math" ∈ q_tbl) (hcd : Cond.code Lib.Math.min.name Lib.Math.min.code 2 (some .int) ∈ q_tbl) (hd0 : 1 ≤ d) (hw : (st.map fun v => v.category).sum ≤ 8) (hd : decode cc pc = .ok (.invokestatic i, 3)) (k : q_W l d y cc nL ret r h' (pc + 3) ls (.int (if z < x then z else x) :: st) h) : q_W l d y cc nL ret r h' pc ls (.int z :: .int x :: st) h :=
  k.go fun G p e R s m args below meth c H locs cells slots Q lc E hl hc hs kk => by
    obtain ⟨E1, E2, E3, E4, E5, E6, E7, E8, E9, E10, E11⟩ := id E
    exact va_mmin E1 E2 (by rw [E4]; exact hl.1.symm) E5 (E8 _ hk) (E8 _ hst) (E8 _ hini) (E8 _ hcd) (by omega) (by have := q_catsum G st; omega) hc hs hd (kk lc hl)
/-- Object's constructor -/
theorem q_objInit {i : Nat} {o : Nat} (hk : Cond.methodLink y.cls i Lib.objectInit ∈ q_tbl) (hin : Cond.instanceMethod Lib.objectInit ∈ q_tbl) (hcd : Cond.code Lib.objectInit ⟨#[0xb1]⟩ 1 none ∈ q_tbl) (hd0 : 1 ≤ d) (hw : (st.map fun v => v.category).sum ≤ 8) (hd : decode cc pc = .ok (.invokespecial i, 3)) (k : q_W l d y cc nL ret r h' (pc + 3) ls st h) : q_W l d y cc nL ret r h' pc ls (.ref o :: st) h :=
  k.go fun G p e R s m args below meth c H locs cells slots Q lc E hl hc hs kk => by
    obtain ⟨E1, E2, E3, E4, E5, E6, E7, E8, E9, E10, E11⟩ := id E
    exact W.objInit E1 E2 E5 (E8 _ hk) (E8 _ hin) (E8 _ hcd) rfl (by rw [E4]; exact hl.1) rfl hd (by omega) (by have := q_catsum G st; show 2 * 0 + _ + 12 ≤ _; omega) (kk lc hl)
end QRows
