/-! ROWS of the layer that read and write the heap; returns; calls. -/
/-- a field of an object of class ci -/
def gF (h : qH) (o ci k : Nat) : Option Value := match h.1 o with
  | some (.inr (c, fs)) => if c = ci then fs[k]? else none
  | _ => none
def gI (h : qH) (o ci k : Nat) : Option Int32 := match gF h o ci k with
  | some (.int x) => some x
  | _ => none
def gL (h : qH) (o ci k : Nat) : Option Int64 := match gF h o ci k with
  | some (.long x) => some x
  | _ => none
def gR (h : qH) (o ci k : Nat) : Option Nat := match gF h o ci k with
  | some (.ref x) => some x
  | _ => none
def pF (h : qH) (o ci k : Nat) (v : Value) : Option qH := match h.1 o with
  | some (.inr (c, fs)) => if c = ci ∧ k < fs.length then some (va_up h.1 o (some (.inr (ci, fs.set k v))), h.2) else none
  | _ => none
/-- an array's element: ints, booleans, chars by their type -/
def aI (ty : FieldType) (h : qH) (a : Nat) (i : Int32) : Option Int32 := match h.1 a with
  | some (.inl (t, n, .inl f)) => if t = ty ∧ ¬ i < 0 ∧ i.toNatClampNeg < n then some (f i.toNatClampNeg) else none
  | _ => none
def aL (h : qH) (a : Nat) (i : Int32) : Option Int64 := match h.1 a with
  | some (.inl (t, n, .inr (.inl f))) => if t = .long ∧ ¬ i < 0 ∧ i.toNatClampNeg < n then some (f i.toNatClampNeg) else none
  | _ => none
def aR (h : qH) (a : Nat) (i : Int32) : Option Nat := match h.1 a with
  | some (.inl (t, n, .inr (.inr f))) => if t.isReference = true ∧ ¬ i < 0 ∧ i.toNatClampNeg < n then f i.toNatClampNeg else none
  | _ => none
def aN (h : qH) (a : Nat) : Option Int32 := match h.1 a with
  | some (.inl (_, n, _)) => some (Int32.ofNat n)
  | _ => none
/-- what an array of the type keeps of an int -/
def qnar (ty : FieldType) (x : Int32) : Int32 := match ty with
  | .int => x
  | t => vp_nar t x
def sI (ty : FieldType) (h : qH) (a : Nat) (i x : Int32) : Option qH := match h.1 a with
  | some (.inl (t, n, .inl f)) => if t = ty ∧ 2 ≤ a ∧ ¬ i < 0 ∧ i.toNatClampNeg < n then some (va_up h.1 a (some (.inl (ty, n, .inl (upd f i.toNatClampNeg (qnar ty x))))), h.2) else none
  | _ => none
def sL (h : qH) (a : Nat) (i : Int32) (x : Int64) : Option qH := match h.1 a with
  | some (.inl (t, n, .inr (.inl f))) => if t = .long ∧ 2 ≤ a ∧ ¬ i < 0 ∧ i.toNatClampNeg < n then some (va_up h.1 a (some (.inl (.long, n, .inr (.inl (vp_updL f i.toNatClampNeg x))))), h.2) else none
  | _ => none
/-- of an object of class ci into an array of these -/
def sR (C : String) (ci : Nat) (h : qH) (a : Nat) (i : Int32) (v : Nat) : Option qH := match h.1 a, h.1 v with
  | some (.inl (t, n, .inr (.inr f))), some (.inr (c, _)) => if t = .object C ∧ c = ci ∧ 2 ≤ a ∧ ¬ i < 0 ∧ i.toNatClampNeg < n then some (va_up h.1 a (some (.inl (t, n, .inr (.inr (va_up f i.toNatClampNeg (some v)))))), h.2) else none
  | _, _ => none
def nwE (c : qE) (k : Nat) (h : qH) : qH := (va_up h.1 h.2.1 (some c), h.2.1 + 1, h.2.2 + k)
theorem gF_some {h : qH} {o ci k : Nat} {v : Value} (e : gF h o ci k = some v) : ∃ fs, h.1 o = some (.inr (ci, fs)) ∧ fs[k]? = some v := by
  unfold gF at e
  split at e
  · rename_i c fs hh
    split at e
    · rename_i hc
      subst hc
      exact ⟨fs, hh, e⟩
    · cases e
  · cases e
theorem gI_some {h : qH} {o ci k : Nat} {x : Int32} (e : gI h o ci k = some x) : gF h o ci k = some (.int x) := by
  unfold gI at e
  split at e
  · rename_i hh
    cases e
    exact hh
  · cases e
theorem gL_some {h : qH} {o ci k : Nat} {x : Int64} (e : gL h o ci k = some x) : gF h o ci k = some (.long x) := by
  unfold gL at e
  split at e
  · rename_i hh
    cases e
    exact hh
  · cases e
theorem gR_some {h : qH} {o ci k : Nat} {x : Nat} (e : gR h o ci k = some x) : gF h o ci k = some (.ref x) := by
  unfold gR at e
  split at e
  · rename_i hh
    cases e
    exact hh
  · cases e
theorem pF_some {h h1 : qH} {o ci k : Nat} {v : Value} (e : pF h o ci k v = some h1) : ∃ fs, h.1 o = some (.inr (ci, fs)) ∧ k < fs.length ∧ h1 = (va_up h.1 o (some (.inr (ci, fs.set k v))), h.2) := by
  unfold pF at e
  split at e
  · rename_i c fs hh
    split at e
    · rename_i hc
      obtain ⟨hc, hk⟩ := hc
      subst hc
      cases e
      exact ⟨fs, hh, hk, rfl⟩
    · cases e
  · cases e
theorem aI_some {ty : FieldType} {h : qH} {a : Nat} {i x : Int32} (e : aI ty h a i = some x) : ∃ n f, h.1 a = some (.inl (ty, n, .inl f)) ∧ ¬ i < 0 ∧ i.toNatClampNeg < n ∧ x = f i.toNatClampNeg := by
  unfold aI at e
  split at e
  · rename_i t n f hh
    split at e
    · rename_i hc
      obtain ⟨hc, h1, h2⟩ := hc
      subst hc
      cases e
      exact ⟨n, f, hh, h1, h2, rfl⟩
    · cases e
  · cases e
theorem aL_some {h : qH} {a : Nat} {i : Int32} {x : Int64} (e : aL h a i = some x) : ∃ n f, h.1 a = some (.inl (.long, n, .inr (.inl f))) ∧ ¬ i < 0 ∧ i.toNatClampNeg < n ∧ x = f i.toNatClampNeg := by
  unfold aL at e
  split at e
  · rename_i t n f hh
    split at e
    · rename_i hc
      obtain ⟨hc, h1, h2⟩ := hc
      subst hc
      cases e
      exact ⟨n, f, hh, h1, h2, rfl⟩
    · cases e
  · cases e
theorem aR_some {h : qH} {a : Nat} {i : Int32} {x : Nat} (e : aR h a i = some x) : ∃ t n f, h.1 a = some (.inl (t, n, .inr (.inr f))) ∧ t.isReference = true ∧ ¬ i < 0 ∧ i.toNatClampNeg < n ∧ f i.toNatClampNeg = some x := by
  unfold aR at e
  split at e
  · rename_i t n f hh
    split at e
    · rename_i hc
      obtain ⟨hc, h1, h2⟩ := hc
      exact ⟨t, n, f, hh, hc, h1, h2, e⟩
    · cases e
  · cases e
theorem aN_some {h : qH} {a : Nat} {x : Int32} (e : aN h a = some x) : ∃ t n f, h.1 a = some (.inl (t, n, f)) ∧ x = Int32.ofNat n := by
  unfold aN at e
  split at e
  · rename_i t n f hh
    cases e
    exact ⟨t, n, f, hh, rfl⟩
  · cases e
theorem sI_some {ty : FieldType} {h h1 : qH} {a : Nat} {i x : Int32} (e : sI ty h a i x = some h1) : ∃ n f, h.1 a = some (.inl (ty, n, .inl f)) ∧ 2 ≤ a ∧ ¬ i < 0 ∧ i.toNatClampNeg < n ∧ h1 = (va_up h.1 a (some (.inl (ty, n, .inl (upd f i.toNatClampNeg (qnar ty x))))), h.2) := by
  unfold sI at e
  split at e
  · rename_i t n f hh
    split at e
    · rename_i hc
      obtain ⟨hc, h0, h1, h2⟩ := hc
      subst hc
      cases e
      exact ⟨n, f, hh, h0, h1, h2, rfl⟩
    · cases e
  · cases e
theorem sL_some {h h1 : qH} {a : Nat} {i : Int32} {x : Int64} (e : sL h a i x = some h1) : ∃ n f, h.1 a = some (.inl (.long, n, .inr (.inl f))) ∧ 2 ≤ a ∧ ¬ i < 0 ∧ i.toNatClampNeg < n ∧ h1 = (va_up h.1 a (some (.inl (.long, n, .inr (.inl (vp_updL f i.toNatClampNeg x))))), h.2) := by
  unfold sL at e
  split at e
  · rename_i t n f hh
    split at e
    · rename_i hc
      obtain ⟨hc, h0, h1, h2⟩ := hc
      subst hc
      cases e
      exact ⟨n, f, hh, h0, h1, h2, rfl⟩
    · cases e
  · cases e
theorem sR_some {C : String} {ci : Nat} {h h1 : qH} {a : Nat} {i : Int32} {v : Nat} (e : sR C ci h a i v = some h1) : ∃ n f fs, h.1 a = some (.inl (.object C, n, .inr (.inr f))) ∧ h.1 v = some (.inr (ci, fs)) ∧ 2 ≤ a ∧ ¬ i < 0 ∧ i.toNatClampNeg < n ∧ h1 = (va_up h.1 a (some (.inl (.object C, n, .inr (.inr (va_up f i.toNatClampNeg (some v)))))), h.2) := by
  unfold sR at e
  split at e
  · rename_i t n f c fs hh hv
    split at e
    · rename_i hc
      obtain ⟨hc, h4, h0, h1, h2⟩ := hc
      subst hc
      subst h4
      cases e
      exact ⟨n, f, fs, hh, hv, h0, h1, h2, rfl⟩
    · cases e
  · cases e
/-- the class ci, its fields, its words -/
def q_Cl (ci : Nat) (C : String) (T : u_T) (N : Nat) (ty0 : Nat → FieldType) : Prop :=
  classes[ci]? = some (C, T, N) ∧ (∀ w ∈ u_ws C T N, w ∈ q_tbl) ∧ (∀ k, k < N → parseFieldDescriptor (T k).2.2.1 = some (ty0 k)) ∧ (∀ a, a < N → ∀ b, b < N → a ≠ b → (T a).2.1 ≠ (T b).2.1) ∧ ∀ k, k < N → (T k).1 = C
/-- the entry idx of class own is the field k of the class ci -/
def q_F (own : String) (idx ci k : Nat) (ty : FieldType) (fin : Bool) : Prop :=
  ∃ C T N ty0, q_Cl ci C T N ty0 ∧ k < N ∧ Cond.fieldLink own idx (T k).1 (T k).2.1 (T k).2.2.1 ∈ q_tbl ∧ ty0 k = ty ∧ (T k).2.2.2 = fin
theorem q_words (ws : List Cond) (ps : List Nat) (hp : ws = ps.filterMap (fun i => tables_1[i]?)) (hg : ws.all goodWord = true) : ∀ w ∈ ws, w ∈ q_tbl := by
  intro w hw
  have h1 := List.all_eq_true.mp hg w hw
  rw [hp] at hw
  obtain ⟨i, -, hi⟩ := List.mem_filterMap.mp hw
  exact q_pl i hi h1
section QHeap
variable {l : Launch} {d : Nat} {y : MethodName} {cc : ByteArray} {nL : Nat} {ret : Option FieldType} {r : Option Value} {h' : qH} {pc : Nat} {ls : List (Nat × Value)} {st : List Value} {h : qH}
theorem q_R.obj {G : qG} {s : State} {H : Heap} (hR : q_R G s h H) {o ci : Nat} {fs : List Value} (e : h.1 o = some (.inr (ci, fs))) : 2 ≤ o ∧ q_at G s (.inr (ci, fs)) (q_ad G o) H := by
  rcases hR.2.2 o _ e with q | q
  · exact ⟨q.1, q.2.2⟩
  · cases q.2
set_option maxHeartbeats 1000000 in
theorem q_getF {i ci k o : Nat} {v : Value} {ty : FieldType} {fin : Bool} (lk : q_F y.cls i ci k ty fin) (hd : decode cc pc = .ok (.getfield i, 3)) (hv : gF h o ci k = some v) (kk : q_W l d y cc nL ret r h' (pc + 3) ls (v :: st) h) : q_W l d y cc nL ret r h' pc ls (.ref o :: st) h := by
  intro h2
  obtain ⟨k1, k2, k3⟩ := kk h2
  refine ⟨k1, k2, fun G p e R s m args below meth c E H locs cells slots mc ms lc hR hlo e1 e2 e3 e4 hl => ?_⟩
  obtain ⟨fs, hh, hf⟩ := gF_some hv
  obtain ⟨C, T, N, ty0, ⟨c1, c2, c3, c4, c5⟩, hk, hlk, -, -⟩ := lk
  obtain ⟨E1, E2, E3, E4, E5, E6, E7, E8, E9, E10, E11⟩ := id E
  obtain ⟨-, hat⟩ := hR.obj hh
  have hP : va_P G.1 classes [(q_ad G o, .inr (ci, fs.map (q_v G)))] H := by
    intro k0 q0 hq0
    have hz : k0 < 1 := (List.getElem?_eq_some_iff.mp hq0).1
    rw [show k0 = 0 by omega] at hq0
    cases hq0
    exact hat
  exact va_get (C := C) (T := T) (N := N) (ci := ci) (v := q_v G v) E1 E2 E8 c2 E5 E9.1 hP 0 rfl c1 k hk (E8 _ hlk) (fun _ h9 => h9) (by rw [List.getElem?_map, hf]; rfl) hd (k3 G p e R s m args below meth c E H locs cells slots mc ms lc hR hlo e1 e2 e3 e4 hl)
theorem q_getI {i ci k o : Nat} {x : Int32} {ty : FieldType} {fin : Bool} (lk : q_F y.cls i ci k ty fin) (hd : decode cc pc = .ok (.getfield i, 3)) (hv : gI h o ci k = some x) (kk : q_W l d y cc nL ret r h' (pc + 3) ls (.int x :: st) h) : q_W l d y cc nL ret r h' pc ls (.ref o :: st) h := q_getF lk hd (gI_some hv) kk
theorem q_getL {i ci k o : Nat} {x : Int64} {ty : FieldType} {fin : Bool} (lk : q_F y.cls i ci k ty fin) (hd : decode cc pc = .ok (.getfield i, 3)) (hv : gL h o ci k = some x) (kk : q_W l d y cc nL ret r h' (pc + 3) ls (.long x :: st) h) : q_W l d y cc nL ret r h' pc ls (.ref o :: st) h := q_getF lk hd (gL_some hv) kk
theorem q_getR {i ci k o : Nat} {x : Nat} {ty : FieldType} {fin : Bool} (lk : q_F y.cls i ci k ty fin) (hd : decode cc pc = .ok (.getfield i, 3)) (hv : gR h o ci k = some x) (kk : q_W l d y cc nL ret r h' (pc + 3) ls (.ref x :: st) h) : q_W l d y cc nL ret r h' pc ls (.ref o :: st) h := q_getF lk hd (gR_some hv) kk
theorem q_lo {G : qG} {locs : List Loc} {a k : Nat} (hlo : ∀ q ∈ locs, q_base G ≤ q.base) (h : q_base G ≤ a) : ∀ q ∈ locs ++ [(⟨a, k⟩ : Loc)], q_base G ≤ q.base := by
  intro q hq
  rcases List.mem_append.mp hq with z | z
  · exact hlo q z
  · rw [List.mem_singleton.mp z]
    exact h
theorem q_VV (G : qG) {fs : List Value} {k : Nat} (hk : k < fs.length) (v : Value) (j : Nat) : updV (vp_V (fs.map (q_v G))) k (q_v G v) j = vp_V ((fs.set k v).map (q_v G)) j := by
  rw [vp_updV_set (by rw [List.length_map]; exact hk), List.map_set]
set_option maxHeartbeats 1000000 in
/-- putfield of a field that is not final -/
theorem q_putF {i ci k o : Nat} {v : Value} {ty : FieldType} {h1 : qH} (lk : q_F y.cls i ci k ty false) (hn : ∀ G : qG, narrow ty (q_v G v) = q_v G v ∧ fits ty (q_v G v) = true) (hd : decode cc pc = .ok (.putfield i, 3)) (hv : pF h o ci k v = some h1) (kk : q_W l d y cc nL ret r h' (pc + 3) ls st h1) : q_W l d y cc nL ret r h' pc ls (v :: .ref o :: st) h := by
  intro h2
  obtain ⟨fs, hh, hl0, rfl⟩ := pF_some hv
  obtain ⟨k1, k2, k3⟩ := kk h2
  refine ⟨k1, k2, fun G p e R s m args below meth c E H locs cells slots mc ms lc hR hlo e1 e2 e3 e4 hl => ?_⟩
  obtain ⟨C, T, N, ty0, ⟨c1, c2, c3, c4, c5⟩, hk, hlk, hty, hfin⟩ := lk
  obtain ⟨E1, E2, E3, E4, E5, E6, E7, E8, E9, E10, E11⟩ := id E
  obtain ⟨ho, hat⟩ := hR.obj hh
  have hK := E9.1
  have hap := va_apart (own := y.cls) E8 c2 ty0 c3 c4 hK c1
  obtain ⟨r0, h1, cell0, q1, q2, q3, q4⟩ := hat
  have hr : r0 = (C, T, N) := Option.some.inj (h1.symm.trans c1)
  subst hr
  obtain ⟨hS, hfc, kC, hkC, hkind⟩ := hK.1 ci _ c1
  obtain ⟨cf, kf, fi, f, hi, hsl⟩ := hS k hk
  have hlay := E8 _ (c2 _ (u_in_lay hk))
  unfold u_lay at hlay
  rw [if_neg (by rw [hfin]; decide)] at hlay
  have hst := (u_facts hfc hkC (u_lays E8 c2 hk) hi).1
  have h6 := u_store hfc hkC hkind hlay hi ((c3 k hk).trans (congrArg some hty)) (hn G).1 (hn G).2
  refine W.putK E1 E2 (f := f) ⟨E5, E8 _ hlk, ⟨_, _, _, hi⟩, hst⟩ (by rw [q2]; exact h6) q1 q3 (by rw [hsl]; exact k2_hasslot (q4 k hk)) rfl rfl hd fun H' e5 e6 e7 => ?_
  rw [hsl] at e5 ⊢
  have hat' : q_at G s (.inr (ci, fs.set k v)) (q_ad G o) H' := ⟨_, c1, t_OB.to (V := updV (vp_V (fs.map (q_v G))) k (q_v G v)) ⟨_, e5, q2, q3, t_set q4 hap hk _⟩ (fun j _ => q_VV G hl0 v j)⟩
  exact k3 G p e R s m args below meth c E H' _ cells slots mc ms lc (hR.put hh ho hat' e6 e7) (q_lo hlo (q_ad_ge ho)) e1 e2 e3 e4 hl
set_option maxHeartbeats 1000000 in
/-- putfield of a final field in a constructor -/
theorem q_putZ {i ci k o : Nat} {v : Value} {ty : FieldType} {h1 : qH} (lk : q_F y.cls i ci k ty true) (hin : y.name = "<init>") (hown : ∃ T N, classes[ci]? = some (y.cls, T, N)) (hn : ∀ G : qG, narrow ty (q_v G v) = q_v G v ∧ fits ty (q_v G v) = true) (hd : decode cc pc = .ok (.putfield i, 3)) (hv : pF h o ci k v = some h1) (kk : q_W l d y cc nL ret r h' (pc + 3) ls st h1) : q_W l d y cc nL ret r h' pc ls (v :: .ref o :: st) h := by
  intro h2
  obtain ⟨fs, hh, hl0, rfl⟩ := pF_some hv
  obtain ⟨k1, k2, k3⟩ := kk h2
  refine ⟨k1, k2, fun G p e R s m args below meth c E H locs cells slots mc ms lc hR hlo e1 e2 e3 e4 hl => ?_⟩
  obtain ⟨C, T, N, ty0, ⟨c1, c2, c3, c4, c5⟩, hk, hlk, hty, hfin⟩ := lk
  obtain ⟨T2, N2, hT2⟩ := hown
  have hCy : C = y.cls := by
    have := c1.symm.trans hT2
    simp at this
    exact this.1
  obtain ⟨E1, E2, E3, E4, E5, E6, E7, E8, E9, E10, E11⟩ := id E
  obtain ⟨ho, hat⟩ := hR.obj hh
  have hK := E9.1
  have hap := va_apart (own := y.cls) E8 c2 ty0 c3 c4 hK c1
  obtain ⟨r0, h1, cell0, q1, q2, q3, q4⟩ := hat
  have hr : r0 = (C, T, N) := Option.some.inj (h1.symm.trans c1)
  subst hr
  obtain ⟨hS, hfc, kC, hkC, hkind⟩ := hK.1 ci _ c1
  obtain ⟨cf, kf, fi, f, hi, hsl⟩ := hS k hk
  have hlay := E8 _ (c2 _ (u_in_lay hk))
  unfold u_lay at hlay
  rw [if_pos hfin] at hlay
  have hst := (u_facts hfc hkC (u_lays E8 c2 hk) hi).1
  have hcf : m.cls = cf := by
    obtain ⟨_, _, c', _, _, _, -, -, hf', -, -, -, hown2, -⟩ := Cond.laysFinal_spec hlay
    have e1 : c' = cf := by have := hi.symm.trans hf'; simp at this; exact this.1.symm
    rw [c5 k hk, hCy] at hown2
    rw [← e1]; exact Option.some.inj (E5.symm.trans hown2)
  have h6 := u_fits hfc hkC hkind (Or.inr hlay) hi ((c3 k hk).trans (congrArg some hty)) (hn G).1 (hn G).2
  refine W.putFinK E1 E2 E5 (E8 _ hlk) hi hst hcf (E7.trans hin) (by rw [q2]; exact h6) q1 q3 (by rw [hsl]; exact k2_hasslot (q4 k hk)) rfl rfl hd fun H' e5 e6 e7 => ?_
  rw [hsl] at e5 ⊢
  have hat' : q_at G s (.inr (ci, fs.set k v)) (q_ad G o) H' := ⟨_, c1, t_OB.to (V := updV (vp_V (fs.map (q_v G))) k (q_v G v)) ⟨_, e5, q2, q3, t_set q4 hap hk _⟩ (fun j _ => q_VV G hl0 v j)⟩
  exact k3 G p e R s m args below meth c E H' _ cells slots mc ms lc (hR.put hh ho hat' e6 e7) (q_lo hlo (q_ad_ge ho)) e1 e2 e3 e4 hl
end QHeap
