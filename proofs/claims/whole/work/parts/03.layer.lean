/-! THE LAYER: an abstract heap (cells by their numbers, references as numbers), one judgement q_W at a point of a method whose answer and last heap are known, one contract q_M a call; a row an instruction. -/
abbrev classes : List vw_C := [(RX0, TX0, 3), (RX1, TX1, 4), (RX2, TX2, 3), (RX3, TX3, 4), (RX4, TX4, 1), (RX5, TX5, 11), (RX6, TX6, 9), (RX7, TX7, 4), (RX8, TX8, 4), (RX9, TX9, 13), (RX10, TX10, 53)]
def q_tbl : List Cond := lw_tbl.filter goodWord
theorem q_in {w : Cond} (h : w ∈ lw_tbl) (hg : goodWord w = true) : w ∈ q_tbl := List.mem_filter.mpr ⟨h, hg⟩
/-- a word of the tables by its place -/
theorem q_pl {w : Cond} (i : Nat) (h : tables_1[i]? = some w) (hg : goodWord w = true) : w ∈ q_tbl := q_in (List.mem_append_right _ (List.mem_of_getElem? h)) hg
/-- the same, of a private method's 'selects' -/
theorem q_ps {q : MethodName × Nat} (i : Nat) (h : lw_privs[i]? = some q) : Cond.selects q.1.cls q.1 q.1 ∈ q_tbl := q_in (List.mem_append_left _ (List.mem_map.mpr ⟨q, List.mem_of_getElem? h, rfl⟩)) rfl
abbrev qK : Type := (Nat → Int32) ⊕ (Nat → Int64) ⊕ (Nat → Option Nat)
abbrev qE : Type := (FieldType × Nat × qK) ⊕ (Nat × List Value)
/-- the cells; how many numbers are taken (0 the script, 1 the text, own ones from 2 on); slots made -/
abbrev qH : Type := (Nat → Option qE) × Nat × Nat
/-- the tables' numbers; the cells of script, text, text's bytes; the heap at the law's start; the script -/
abbrev qG : Type := va_G × (Nat × Nat × Nat) × Heap × Nat × (Nat → Int32)
abbrev q_base (G : qG) : Nat := G.2.2.1.size
def q_ad (G : qG) : Nat → Nat
  | 0 => G.2.1.1
  | 1 => G.2.1.2.1
  | j + 2 => q_base G + j
def q_v (G : qG) : Value → Value
  | .ref a => .ref (q_ad G a)
  | .int x => .int x
  | .long x => .long x
  | .float x => .float x
  | .double x => .double x
  | .null => .null
  | .retAddr x => .retAddr x
theorem q_v_cat (G : qG) (v : Value) : (q_v G v).category = v.category := by cases v <;> rfl
def q_lv (G : qG) (q : Nat × Value) : Nat × Value := (q.1, q_v G q.2)
def q_el (G : qG) (k : qK) (j : Nat) : Value := match k with
  | .inl f => .int (f j)
  | .inr (.inl f) => .long (f j)
  | .inr (.inr f) => va_rf ((f j).map (q_ad G))
def q_at (G : qG) (s : State) (c : qE) (a : Nat) (H : Heap) : Prop := match c with
  | .inl (ty, n, v) => ∃ cA : ClassId, H[a]? = some (arrV cA n (q_el G v)) ∧ ArrOfT s cA ty ∧ va_RA s cA ty
  | .inr (ci, fs) => ∃ r : vw_C, classes[ci]? = some r ∧ t_OB a (G.1.1 ci) r.2.2 (G.1.2 ci) H (vp_V (fs.map (q_v G)))
theorem q_at.kept {G : qG} {s : State} {c : qE} {a : Nat} {H H1 : Heap} (h : q_at G s c a H) (e : H1[a]? = H[a]?) : q_at G s c a H1 := by
  match c, h with
  | .inl (ty, n, v), ⟨cA, h1, h2, h3⟩ => exact ⟨cA, by rw [e]; exact h1, h2, h3⟩
  | .inr (ci, fs), ⟨r, h1, h2⟩ => exact ⟨r, h1, h2.kept e⟩
theorem q_at.moved {G : qG} {s U : State} {c : qE} {a : Nat} {H : Heap} (hvm : s.vm.Alike U.vm) (h : q_at G s c a H) : q_at G U c a H := by
  match c, h with
  | .inl (ty, n, v), ⟨cA, h1, h2, h3⟩ => exact ⟨cA, h1, arrOfT_moved hvm h2, h3.moved hvm⟩
  | .inr (ci, fs), ⟨r, h1, h2⟩ => exact ⟨r, h1, h2⟩
theorem q_at.lt {G : qG} {s : State} {c : qE} {a : Nat} {H : Heap} (h : q_at G s c a H) : a < H.size := by
  match c, h with
  | .inl (ty, n, v), ⟨cA, h1, _, _⟩ => exact (Array.getElem?_eq_some_iff.mp h1).1
  | .inr (ci, fs), ⟨r, _, ce0, h1, _⟩ => exact (Array.getElem?_eq_some_iff.mp h1).1
def q_R (G : qG) (s : State) (h : qH) (H : Heap) : Prop :=
  H.size + 2 = q_base G + h.2.1 ∧ (∀ q : Nat, q < q_base G → H[q]? = G.2.2.1[q]?) ∧
  ∀ (i : Nat) (c : qE), h.1 i = some c → (2 ≤ i ∧ i < h.2.1 ∧ q_at G s c (q_ad G i) H) ∨ (i = 0 ∧ c = .inl (.int, G.2.2.2.1, .inl G.2.2.2.2))
theorem q_R.moved {G : qG} {s U : State} {h : qH} {H : Heap} (hvm : s.vm.Alike U.vm) (hR : q_R G s h H) : q_R G U h H :=
  ⟨hR.1, hR.2.1, fun i c e => (hR.2.2 i c e).imp (fun q => ⟨q.1, q.2.1, q.2.2.moved hvm⟩) id⟩
theorem q_ad_ge {G : qG} {i : Nat} (h : 2 ≤ i) : q_base G ≤ q_ad G i := by
  match i, h with
  | j + 2, _ => exact Nat.le_add_right _ _
theorem q_ad_inj {G : qG} {i j : Nat} (hi : 2 ≤ i) (hj : 2 ≤ j) (e : q_ad G i = q_ad G j) : i = j := by
  match i, j, hi, hj with
  | i + 2, j + 2, _, _ =>
    have e : q_base G + i = q_base G + j := e
    omega
/-- a cell is written -/
theorem q_R.put {G : qG} {s : State} {h : qH} {H H1 : Heap} {i : Nat} {c c' : qE} (hR : q_R G s h H) (hc : h.1 i = some c) (hi : 2 ≤ i) (e : q_at G s c' (q_ad G i) H1) (z : H1.size = H.size) (oq : ∀ q : Nat, q ≠ q_ad G i → H1[q]? = H[q]?) : q_R G s (va_up h.1 i (some c'), h.2) H1 := by
  have hlt : i < h.2.1 := by
    rcases hR.2.2 i c hc with q | q
    · exact q.2.1
    · omega
  refine ⟨by rw [z]; exact hR.1, fun q hq => ?_, fun j d hd => ?_⟩
  · rw [oq q (fun e9 => by have := q_ad_ge (G := G) hi; omega)]
    exact hR.2.1 q hq
  · by_cases hj : j = i
    · subst hj
      have hd : d = c' := by simp [va_up] at hd; exact hd.symm
      subst hd
      exact Or.inl ⟨hi, hlt, e⟩
    · have hd : h.1 j = some d := by simpa [va_up, hj] using hd
      rcases hR.2.2 j d hd with q | q
      · exact Or.inl ⟨q.1, q.2.1, q.2.2.kept (oq _ (fun e9 => hj (q_ad_inj q.1 hi e9)))⟩
      · exact Or.inr q
/-- a cell is made: its number is the next one -/
theorem q_R.new {G : qG} {s : State} {h : qH} {H H1 : Heap} {c' : qE} {k : Nat} (hR : q_R G s h H) (h2 : 2 ≤ h.2.1) (e : q_at G s c' H.size H1) (z : H1.size = H.size + 1) (oq : ∀ q : Nat, q < H.size → H1[q]? = H[q]?) : q_ad G h.2.1 = H.size ∧ q_R G s (va_up h.1 h.2.1 (some c'), h.2.1 + 1, k) H1 := by
  have ha : q_ad G h.2.1 = H.size := by
    have h1 := hR.1
    generalize h.2.1 = n at h1 h2
    match n, h2 with
    | j + 2, _ =>
      show q_base G + j = H.size
      omega
  refine ⟨ha, by rw [z]; show _ = q_base G + (h.2.1 + 1); have := hR.1; omega, fun q hq => ?_, fun j d hd => ?_⟩
  · rw [oq q (by have := hR.1; omega)]
    exact hR.2.1 q hq
  · by_cases hj : j = h.2.1
    · subst hj
      have hd : d = c' := by simp [va_up] at hd; exact hd.symm
      subst hd
      exact Or.inl ⟨h2, Nat.lt_succ_self _, by rw [ha]; exact e⟩
    · have hd : h.1 j = some d := by simpa [va_up, hj] using hd
      rcases hR.2.2 j d hd with q | q
      · exact Or.inl ⟨q.1, Nat.lt_succ_of_lt q.2.1, q.2.2.kept (oq _ q.2.2.lt)⟩
      · exact Or.inr q
def q_text : String := "matter in sour led knife pot adds takes spread eat year plain battle wedding winter not and or left coats age thick "
def q_bytes : List Int32 := q_text.toList.map (fun c => Int32.ofNat c.toNat)
/-- what is known of the tables and of the outside, all along the run -/
def q_K (G : qG) (U : State) : Prop :=
  va_K G.1 classes [] U ∧ va_X G.2.1.1 G.2.2.2.1 G.2.2.2.2 U G.2.2.1 ∧ G.2.1.1 < q_base G ∧ va_AO "MustardPast$State" U ∧ va_AO "MustardPast$Mark" U ∧
  vk_R RX6 87 q_text G.2.1.2.1 U ∧ vk_S 1 [q_bytes.length] [q_bytes] (fun _ => G.2.1.2.1) (fun _ => G.2.1.2.2) (fun q => q_base G ≤ q) U G.2.2.1 ∧
  va_Z "java/lang/String" "COMPACT_STRINGS" "Z" (.int 1) (fun q => q_base G ≤ q) U G.2.2.1 ∧ va_Zq "jdk/internal/util/Preconditions" "SIOOBE_FORMATTER" "Ljava/util/function/BiFunction;" (fun q => q_base G ≤ q) U G.2.2.1 ∧
  (∀ (a : String) (i : Nat) (x : MethodName) (o : String), Cond.methodLinkNest a i x o ∈ lw_tbl → va_Nw (.methodLinkNest a i x o) U) ∧ (∀ C T : String, Cond.castable C T ∈ lw_tbl → va_Nw (.castable C T) U) ∧ (∀ x : MethodName, Cond.declares x ∈ lw_tbl → va_Nw (.declares x) U) ∧
  vx_Zq Bundle.tN "UNASSIGNED_STACK" Bundle.steD (fun q => q_base G ≤ q) U G.2.2.1 ∧ vx_Zq Bundle.tN "SUPPRESSED_SENTINEL" Bundle.listD (fun q => q_base G ≤ q) U G.2.2.1
theorem q_K.warm {G : qG} {s U : State} (hW : s.WarmedH U.vm) (h : q_K G s) : q_K G U := by
  obtain ⟨h1, h2, h3, h4, h5, h6, h7, h8, h9, h10, h11, h12, h13, h14⟩ := h
  exact ⟨h1.moved hW.alike, h2.moved hW.alike, h3, h4.moved hW.alike, h5.moved hW.alike, h6.warm hW, h7.moved hW.alike, h8.moved hW.alike, h9.moved hW.alike, fun a i x o h => (h10 a i x o h).warmM hW, fun C T h => (h11 C T h).warmC hW, fun x h => (h12 x h).warmD hW, h13.moved hW.alike, h14.moved hW.alike⟩
theorem q_K.nest {G : qG} {U : State} (h : q_K G U) {a : String} {i : Nat} {x : MethodName} {o : String} (hm : Cond.methodLinkNest a i x o ∈ lw_tbl) : va_Nw (.methodLinkNest a i x o) U := h.2.2.2.2.2.2.2.2.2.1 a i x o hm
theorem q_lw {w : Cond} (i : Nat) (h : tables_1[i]? = some w) : w ∈ lw_tbl := List.mem_append_right _ (List.mem_of_getElem? h)
def q_Pc (G : qG) (as : List Value) (h : qH) : Array Value → State → Prop := fun v U => v = (as.map (q_v G)).toArray ∧ q_R G U h U.heap ∧ q_K G U
def q_Qc (G : qG) (r : Option Value) (h' : qH) : Array Value → State → Outcome → State → Prop := fun _ _ o t => o = .returned (r.map (q_v G)) ∧ q_R G t h' t.heap
abbrev q_fr (G : qG) : Addr → Prop := fun q => q_base G ≤ q
/-- the contract of a call whose answer and last heap are known -/
def q_M (l : Launch) (d : Nat) (y : MethodName) (cc : ByteArray) (maxL : Nat) (ret : Option FieldType) (as : List Value) (h : qH) (r : Option Value) (h' : qH) : Prop :=
  (2 ≤ h.2.1 → h.2.1 ≤ h'.2.1 ∧ h.2.2 ≤ h'.2.2 ∧ ∀ G : qG, Met l y (.code y cc maxL ret :: q_tbl) { frames := d, cells := h'.2.1 - h.2.1, slots := h'.2.2 - h.2.2, locals := 60 * d } (q_Pc G as h) (q_Qc G r h') (h'.2.1 - h.2.1) (h'.2.2 - h.2.2) (q_fr G))
def q_Env (G : qG) (d : Nat) (y : MethodName) (cc : ByteArray) (nL : Nat) (ret : Option FieldType) (p : Program) (R : Room) (s : State) (m : MethodId) (args : Array Value) (meth : Method) (c : Code) : Prop :=
  p.tables.exec = Jvm.exec ∧ c.code = cc ∧ meth.sig.returnType = ret ∧ c.maxLocals = nL ∧ s.vm.findClass y.cls = some m.cls ∧ meth.locks = false ∧ meth.name = y.name ∧ (∀ w ∈ q_tbl, w.before args s = true) ∧ q_K G s ∧ d ≤ R.frames ∧ 60 * d ≤ R.locals
/-- what the machine does from here -/
def q_V (G : qG) (l : Launch) (r : Option Value) (h' : qH) (p : Program) (e : Env) (R : Room) (s : State) (m : MethodId) (args : Array Value) (below : List Frame) (meth : Method) (c : Code) (nL pc : Nat) (ls : List (Nat × Value)) (st : List Value) (h : qH) : Prop :=
  ∀ (H : Heap) (locs : List Loc) (cells slots mc ms : Nat) (lc : Array Slot), q_R G s h H → (∀ q ∈ locs, q_base G ≤ q.base) → cells + h'.2.1 = mc + h.2.1 → slots + h'.2.2 = ms + h.2.2 → mc ≤ R.cells → ms ≤ R.slots → lv_has lc nL (ls.map (q_lv G)) →
    W p l e R s m args below meth c H locs cells slots (MQ below (q_Qc G r h') args s mc ms (q_fr G)) (F0 m pc lc (st.map (q_v G)))
/-- from this point of y's body (locals ls, stack st, heap h) the method returns r, with heap h' -/
def q_W (l : Launch) (d : Nat) (y : MethodName) (cc : ByteArray) (nL : Nat) (ret : Option FieldType) (r : Option Value) (h' : qH) (pc : Nat) (ls : List (Nat × Value)) (st : List Value) (h : qH) : Prop :=
  2 ≤ h.2.1 → h.2.1 ≤ h'.2.1 ∧ h.2.2 ≤ h'.2.2 ∧
  ∀ (G : qG) (p : Program) (e : Env) (R : Room) (s : State) (m : MethodId) (args : Array Value) (below : List Frame) (meth : Method) (c : Code), q_Env G d y cc nL ret p R s m args meth c → q_V G l r h' p e R s m args below meth c nL pc ls st h
theorem q_tbl_good (cd : Cond) (hcd : cd ∈ q_tbl) : GoodIn q_tbl (cd :: q_tbl) := by
  intro w hw
  have hw : w ∈ q_tbl := by
    rcases List.mem_cons.mp hw with rfl | h
    · exact hcd
    · exact h
  exact ⟨hw, good_of_word (List.mem_filter.mp hw).2⟩
theorem q_sl_map (G : qG) (as : List Value) : (lg_sl (as.map (q_v G))).length = (lg_sl as).length := by
  induction as with
  | nil => rfl
  | cons a as ih =>
    simp only [lg_sl, List.map_cons, List.flatMap_cons, List.length_append] at ih ⊢
    rw [ih, q_v_cat]
    split <;> rfl
theorem q_args_map (G : qG) (as : List Value) : ∀ i : Nat, lv_args i (as.map (q_v G)) = (lv_args i as).map (q_lv G) := by
  induction as with
  | nil => intro i; rfl
  | cons a as ih =>
    intro i
    simp only [List.map_cons, lv_args, q_v_cat, ih]
    rfl
theorem q_blind (G : qG) (as : List Value) (h : qH) : FrameBlind (q_Pc G as h) := fun a U g mk q => ⟨q.1, q_R.moved (s := U) (U := U.calling g mk a) (Vm.Alike.refl U.vm) q.2.1, q_K.warm (s := U) (U := U.calling g mk a) (State.WarmedH.refl U) q.2.2⟩
set_option maxHeartbeats 1000000 in
/-- a body gives its contract -/
theorem q_M.of {l : Launch} {d : Nat} {y : MethodName} {cc : ByteArray} {maxL : Nat} {ret : Option FieldType} {as : List Value} {h : qH} {r : Option Value} {h' : qH} (hy : plainName y.cls = true) (hlen : (lg_sl as).length ≤ maxL) (k : q_W l d y cc maxL ret r h' 0 (lv_args 0 as) [] h) : q_M l d y cc maxL ret as h r h' := by
  intro h2
  obtain ⟨k1, k2, k3⟩ := k h2
  refine ⟨k1, k2, fun G => ?_⟩
  refine Met.ofW (cc := cc) (maxL := maxL) (ret := ret) hy rfl ?_
  intro p e s m args below meth c s₁ B hml hv
  obtain ⟨rfl, hR, hK⟩ := hv
  have hts := atoms_spec (ws := .code y cc maxL ret :: q_tbl) B.pre
  have hnm : meth.name = y.name := (name_of_methodNamed B.named B.method).1
  have E : q_Env G d y cc maxL ret p (headSpec (.code y cc maxL ret :: q_tbl) { frames := d, cells := h'.2.1 - h.2.1, slots := h'.2.2 - h.2.2, locals := 60 * d }).room s m (as.map (q_v G)).toArray meth c :=
    ⟨B.exec, B.bytes, B.returns, hml, findClass_of_methodNamed B.named, B.notSynchronized, hnm, fun w hw => hts w (List.mem_cons_of_mem _ hw), hK, Nat.le_refl _, Nat.le_refl _⟩
  have hl := lv_entry (as.map (q_v G)) (n := maxL) (by rw [q_sl_map]; exact hlen)
  rw [lg_entry_eq]
  generalize (lg_sl (as.map (q_v G)) ++ List.replicate (maxL - (lg_sl (as.map (q_v G))).length) Slot.unset).toArray = lc at hl ⊢
  rw [q_args_map] at hl
  exact k3 G p e _ s m _ below meth c E s.heap [] 0 0 _ _ lc hR (fun q hq => by cases hq) (by omega) (by omega) (Nat.le_refl _) (Nat.le_refl _) hl
theorem q_p1 {w : Cond} (i : Nat) (h : tables_1_1[i]? = some w) (hg : goodWord w = true) : w ∈ q_tbl := q_in (List.mem_append_right _ (List.mem_append_left _ (List.mem_of_getElem? h))) hg
theorem q_p2 {w : Cond} (i : Nat) (h : tables_1_2[i]? = some w) (hg : goodWord w = true) : w ∈ q_tbl := q_in (List.mem_append_right _ (List.mem_append_right _ (List.mem_append_left _ (List.mem_of_getElem? h)))) hg
theorem q_p3 {w : Cond} (i : Nat) (h : tables_1_3[i]? = some w) (hg : goodWord w = true) : w ∈ q_tbl := q_in (List.mem_append_right _ (List.mem_append_right _ (List.mem_append_right _ (List.mem_append_left _ (List.mem_of_getElem? h))))) hg
theorem q_p4 {w : Cond} (i : Nat) (h : tables_1_4[i]? = some w) (hg : goodWord w = true) : w ∈ q_tbl := q_in (List.mem_append_right _ (List.mem_append_right _ (List.mem_append_right _ (List.mem_append_right _ (List.mem_append_left _ (List.mem_of_getElem? h)))))) hg
theorem q_p5 {w : Cond} (i : Nat) (h : tables_1_5[i]? = some w) (hg : goodWord w = true) : w ∈ q_tbl := q_in (List.mem_append_right _ (List.mem_append_right _ (List.mem_append_right _ (List.mem_append_right _ (List.mem_append_right _ (List.mem_append_left _ (List.mem_of_getElem? h))))))) hg
theorem q_p6 {w : Cond} (i : Nat) (h : tables_1_6[i]? = some w) (hg : goodWord w = true) : w ∈ q_tbl := q_in (List.mem_append_right _ (List.mem_append_right _ (List.mem_append_right _ (List.mem_append_right _ (List.mem_append_right _ (List.mem_append_right _ (List.mem_append_left _ (List.mem_of_getElem? h)))))))) hg
theorem q_p7 {w : Cond} (i : Nat) (h : tables_1_7[i]? = some w) (hg : goodWord w = true) : w ∈ q_tbl := q_in (List.mem_append_right _ (List.mem_append_right _ (List.mem_append_right _ (List.mem_append_right _ (List.mem_append_right _ (List.mem_append_right _ (List.mem_append_right _ (List.mem_of_getElem? h)))))))) hg
