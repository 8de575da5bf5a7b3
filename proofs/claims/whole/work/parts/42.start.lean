/-! THE CLAIM OUT OF ONE WALK OF THE LAW'S BODY. Your part is whole_start (and what it stands on); all else here is the same for every law, but numbers. -/
def R_law : String := "MustardPastLaw"
def lw_P (b : Addr) (xs : List Int32) (args : Array Value) (s : State) : Prop := args = #[.ref b] ∧ s.IntsAt b xs ∧ xs.length ≤ 3584 ∧ (Jvm.Cond.and given_1 narrow_1).before args s = true
def lw_Q (_ : Array Value) (s : State) (o : Outcome) (t : State) : Prop := o = .returned (some (.int 1)) ∧ Framed s o t [] 601024 7293034
def lw_Z (below : List Frame) (a : Array Value) (s : State) : State → Prop := fun t => ∃ o, t.status = .running ∧ Ended t below o ∧ lw_Q a s o t
/-- the law's own end, with 1 on the stack, nothing written that was there before, its room as the claim has it -/
theorem lw_ret {p : Program} {l : Launch} {e : Env} {s : State} {m : MethodId} {below : List Frame} {meth : Method} {c : Code} {b : Nat} (hx : p.tables.exec = Jvm.exec) (hb : c.code = code) (hr : meth.sig.returnType = ret) (hlocks : meth.locks = false) {pc : Nat} {H : Heap} {ls : Array Slot} (hdg : decode code pc = .ok (.ireturn, 1)) : W p l e room_1 s m #[Value.ref b] below meth c H [] 601024 7293034 (lw_Z below #[Value.ref b] s) (F0 m pc ls [.int 1]) := by
  intro T hT X
  obtain ⟨fs, hret, hrun, hended, hW, hframe⟩ := X.leave (v := some (.int 1)) (hlocks := hlocks) (fun h => by rw [hr] at h; cases h)
  have hmeth' : T.vm.method? m = some meth := X.method'
  refine ⟨T.setFrames fs, ?_, .returned (some (.int 1)), hrun, hended, rfl, ⟨_, rfl⟩, hW, hframe⟩
  jvm_step X.here [X.here.top, hx, hb, hdg, hmeth', hr, ret, narrow_b1]
  (try refine ⟨rfl, ?_⟩); (try refine ⟨rfl, ?_⟩)
  first | (intro acts; rw [hret _ acts rfl rfl rfl]) | rw [hret _ _ rfl rfl rfl]
  exact Steps.refl _
/-- what holds at the law's entry: the machine, the code, the tables' words (any of lw_tbl by 'hts w (by decide +kernel)'), the script of L ints xs at the cell b, what the Statement gives of the start (any of its parts by flat_of_before) -/
def lw_At (p : Program) (s : State) (m : MethodId) (meth : Method) (c : Code) (b L : Nat) (xs : Nat → Int32) : Prop :=
  p.tables.exec = Jvm.exec ∧ c.code = code ∧ meth.sig.returnType = ret ∧ c.maxLocals = 7 ∧ s.vm.findClass R_law = some m.cls ∧ (∀ w ∈ lw_tbl, w.before #[Value.ref b] s = true) ∧ va_X b L xs s s.heap ∧ b < s.heap.size ∧ meth.locks = false ∧ (Jvm.Cond.and given_1 narrow_1).before #[Value.ref b] s = true ∧ meth.name = "law"
/-- the heap at the law's start: the script alone -/
def h_init (L : Nat) (xs : Nat → Int32) : qH := (fun i => if i = 0 then some (.inl (.int, L, .inl xs)) else none, 2, 0)
theorem q_sub_lw {w : Cond} (h : w ∈ q_tbl) : w ∈ lw_tbl := (List.mem_filter.mp h).1
abbrev tmS : Term := .string "MustardPast$Reader" 87
def flN : List Cond := flatC (Jvm.Cond.and given_1 narrow_1)
theorem fl_ex : (Cond.exactly tmS "java/lang/String") ∈ flN := by decide +kernel
theorem fl_co : (Cond.eq (.field tmS "java/lang/String" "coder" "B") (.int 0)) ∈ flN := by decide +kernel
theorem fl_ar : (Cond.arrayOf (.field tmS "java/lang/String" "value" "[B") .byte) ∈ flN := by decide +kernel
theorem fl_le : (Cond.eq (.length (.field tmS "java/lang/String" "value" "[B")) (.int (Int32.ofNat q_bytes.length))) ∈ flN := by decide +kernel
theorem fl_cs : (Cond.eq (.static "java/lang/String" "COMPACT_STRINGS" "Z") (.int 1)) ∈ flN := by decide +kernel
theorem fl_fm : (Cond.isRef (.static "jdk/internal/util/Preconditions" "SIOOBE_FORMATTER" "Ljava/util/function/BiFunction;")) ∈ flN := by decide +kernel
theorem fl_us : (Cond.isRef (.static Bundle.tN "UNASSIGNED_STACK" Bundle.steD)) ∈ flN := by decide +kernel
theorem fl_ss : (Cond.isRef (.static Bundle.tN "SUPPRESSED_SENTINEL" Bundle.listD)) ∈ flN := by decide +kernel
theorem fl_el0 : (List.range q_bytes.length).map (fun j => Cond.eq (.elem (.field tmS "java/lang/String" "value" "[B") (.int (Int32.ofNat j))) (.int (q_bytes.getD j 0))) = (flN.drop 26).take q_bytes.length := by decide +kernel
theorem fl_el (j : Nat) (hj : j < q_bytes.length) : (Cond.eq (.elem (.field tmS "java/lang/String" "value" "[B") (.int (Int32.ofNat j))) (.int (q_bytes.getD j 0))) ∈ flN := by
  have h1 : (Cond.eq (.elem (.field tmS "java/lang/String" "value" "[B") (.int (Int32.ofNat j))) (.int (q_bytes.getD j 0))) ∈ (List.range q_bytes.length).map (fun j => Cond.eq (.elem (.field tmS "java/lang/String" "value" "[B") (.int (Int32.ofNat j))) (.int (q_bytes.getD j 0))) := List.mem_map.mpr ⟨j, List.mem_range.mpr hj, rfl⟩
  rw [fl_el0] at h1
  exact List.mem_of_mem_drop (List.mem_of_mem_take h1)
theorem kW0 : ∀ w ∈ u_ws RX0 TX0 3, w ∈ lw_tbl := fun w h => q_sub_lw (kC0.2.1 w h)
theorem kW1 : ∀ w ∈ u_ws RX1 TX1 4, w ∈ lw_tbl := fun w h => q_sub_lw (kC1.2.1 w h)
theorem kW2 : ∀ w ∈ u_ws RX2 TX2 3, w ∈ lw_tbl := fun w h => q_sub_lw (kC2.2.1 w h)
theorem kW3 : ∀ w ∈ u_ws RX3 TX3 4, w ∈ lw_tbl := fun w h => q_sub_lw (kC3.2.1 w h)
theorem kW4 : ∀ w ∈ u_ws RX4 TX4 1, w ∈ lw_tbl := fun w h => q_sub_lw (kC4.2.1 w h)
theorem kW5 : ∀ w ∈ u_ws RX5 TX5 11, w ∈ lw_tbl := fun w h => q_sub_lw (kC5.2.1 w h)
theorem kW6 : ∀ w ∈ u_ws RX6 TX6 9, w ∈ lw_tbl := fun w h => q_sub_lw (kC6.2.1 w h)
theorem kW7 : ∀ w ∈ u_ws RX7 TX7 4, w ∈ lw_tbl := fun w h => q_sub_lw (kC7.2.1 w h)
theorem kW8 : ∀ w ∈ u_ws RX8 TX8 4, w ∈ lw_tbl := fun w h => q_sub_lw (kC8.2.1 w h)
theorem kW9 : ∀ w ∈ u_ws RX9 TX9 13, w ∈ lw_tbl := fun w h => q_sub_lw (kC9.2.1 w h)
theorem kW10 : ∀ w ∈ u_ws RX10 TX10 53, w ∈ lw_tbl := fun w h => q_sub_lw (kC10.2.1 w h)
set_option maxHeartbeats 4000000 in
set_option maxRecDepth 100000 in
/-- THE LAW, from its entry: out of a run of its function over the abstract heap -/
theorem start_of {p : Program} {e : Env} {s : State} {m : MethodId} {below : List Frame} {meth : Method} {c : Code} (l : Launch) (hflags : l.flags = flags0) {b L : Nat} {xs : Nat → Int32} (C0 : lw_At p s m meth c b L xs) {n : Nat} {h' : qH} (hrun : fL_law n 0 (h_init L xs) = some (1, h')) (hc : h'.2.1 ≤ 601026) (hsl : h'.2.2 ≤ 7293034) : W p l e room_1 s m #[Value.ref b] below meth c s.heap [] 0 0 (lw_Z below #[Value.ref b] s) (entryFrame m ([Value.ref b] : List Value).toArray 7) := by
  obtain ⟨hx, hb, hr, hml, hown, hts, hX, hbl, hlocks, hgv, hnm⟩ := id C0
  have hfl : l.stackTraces = false := by
    unfold Launch.stackTraces
    rw [hflags]
    decide +kernel
  have hs := flat_of_before _ hgv
  obtain ⟨c0, iS0, hKn0⟩ := u_known (C := RX0) (T := TX0) (N := 3) (n := 3) hts kW0 (hts _ (q_sub_lw kT0))
  obtain ⟨c1, iS1, hKn1⟩ := u_known (C := RX1) (T := TX1) (N := 4) (n := 4) hts kW1 (hts _ (q_sub_lw kT1))
  obtain ⟨c2, iS2, hKn2⟩ := u_known (C := RX2) (T := TX2) (N := 3) (n := 3) hts kW2 (hts _ (q_sub_lw kT2))
  obtain ⟨c3, iS3, hKn3⟩ := u_known (C := RX3) (T := TX3) (N := 4) (n := 4) hts kW3 (hts _ (q_sub_lw kT3))
  obtain ⟨c4, iS4, hKn4⟩ := u_known (C := RX4) (T := TX4) (N := 1) (n := 1) hts kW4 (hts _ (q_sub_lw kT4))
  obtain ⟨c5, iS5, hKn5⟩ := u_known (C := RX5) (T := TX5) (N := 11) (n := 11) hts kW5 (hts _ (q_sub_lw kT5))
  obtain ⟨c6, iS6, hKn6⟩ := u_known (C := RX6) (T := TX6) (N := 9) (n := 9) hts kW6 (hts _ (q_sub_lw kT6))
  obtain ⟨c7, iS7, hKn7⟩ := u_known (C := RX7) (T := TX7) (N := 4) (n := 4) hts kW7 (hts _ (q_sub_lw kT7))
  obtain ⟨c8, iS8, hKn8⟩ := u_known (C := RX8) (T := TX8) (N := 4) (n := 4) hts kW8 (hts _ (q_sub_lw kT8))
  obtain ⟨c9, iS9, hKn9⟩ := u_known (C := RX9) (T := TX9) (N := 13) (n := 13) hts kW9 (hts _ (q_sub_lw kT9))
  obtain ⟨c10, iS10, hKn10⟩ := u_known (C := RX10) (T := TX10) (N := 53) (n := 53) hts kW10 (hts _ (q_sub_lw kT10))
  obtain ⟨dC, dI, hKc⟩ : ∃ (dC : Nat → ClassId) (dI : Nat → Nat → Nat), ∀ (k : Nat) (q : vw_C), classes[k]? = some q → u_Kn s q.1 q.2.1 q.2.2 (dC k) (dI k) := by
    refine ⟨fun k => if k = 0 then c0 else if k = 1 then c1 else if k = 2 then c2 else if k = 3 then c3 else if k = 4 then c4 else if k = 5 then c5 else if k = 6 then c6 else if k = 7 then c7 else if k = 8 then c8 else if k = 9 then c9 else c10, fun k => if k = 0 then iS0 else if k = 1 then iS1 else if k = 2 then iS2 else if k = 3 then iS3 else if k = 4 then iS4 else if k = 5 then iS5 else if k = 6 then iS6 else if k = 7 then iS7 else if k = 8 then iS8 else if k = 9 then iS9 else iS10, ?_⟩
    intro k q hq
    match k, hq with
    | 0, hq => cases hq; exact hKn0
    | 1, hq => cases hq; exact hKn1
    | 2, hq => cases hq; exact hKn2
    | 3, hq => cases hq; exact hKn3
    | 4, hq => cases hq; exact hKn4
    | 5, hq => cases hq; exact hKn5
    | 6, hq => cases hq; exact hKn6
    | 7, hq => cases hq; exact hKn7
    | 8, hq => cases hq; exact hKn8
    | 9, hq => cases hq; exact hKn9
    | 10, hq => cases hq; exact hKn10
    | k + 11, hq => simp [classes] at hq
  have hAA : ∀ a : Nat, a < s.heap.size → ¬ (s.heap.size ≤ a) := fun a h => Nat.not_le.mpr h
  obtain ⟨adK, adV, hS1, hS2⟩ := vk_Sof (args := #[Value.ref b]) (s := s) (N := 1) (tm := fun _ => tmS) (len := [q_bytes.length]) (byt := [q_bytes]) (A := fun q => s.heap.size ≤ q) (fun i hi => by
      have : i = 0 := by omega
      subst this
      rw [List.getD_cons_zero]
      decide +kernel) (fun i hi => hs _ fl_ex) (fun i hi => hs _ fl_co) (fun i hi => hs _ fl_ar) (fun i hi => by
      have : i = 0 := by omega
      subst this
      rw [List.getD_cons_zero]
      exact hs _ fl_le) (fun i hi j hj => by
      have : i = 0 := by omega
      subst this
      rw [List.getD_cons_zero] at hj ⊢
      exact hs _ (fl_el j hj)) (fun i j hi hj hne => by omega) hAA
  have hG0 : q_K ((dC, dI), (b, adK 0, adV 0), s.heap, L, xs) s := by
    refine ⟨⟨hKc, fun k q h => by simp at h⟩, hX, hbl, va_AO.of (hts (.arrayOver (.object "MustardPast$State")) (by decide +kernel)), va_AO.of (hts (.arrayOver (.object "MustardPast$Mark")) (by decide +kernel)), vk_R.of (A := #[Value.ref b]) (hts (.stringRef RX6 87 q_text) (by decide +kernel)) (hS2 0 (by decide)), ?_, ?_, ?_, ?_, ?_, ?_, ?_, ?_⟩
    · refine ⟨fun i hi => ?_, fun i j hi hj _ => by omega⟩
      have : i = 0 := by omega
      subst this
      exact hS1.1 0 hi
    · exact va_Zof (hts (.laysStatic "java/lang/String" "COMPACT_STRINGS" "Z") (by decide +kernel)) (hts (.initialized "java/lang/String") (by decide +kernel)) (va_eqt (hs _ fl_cs)) hAA
    · exact va_Zqof (hts (.laysStatic "jdk/internal/util/Preconditions" "SIOOBE_FORMATTER" "Ljava/util/function/BiFunction;") (by decide +kernel)) (hts (.initialized "jdk/internal/util/Preconditions") (by decide +kernel)) (hs _ fl_fm) hAA
    · exact fun a i x o h => va_Nw.of rfl (hts _ h)
    · exact fun C T h => va_Nw.of rfl (hts _ h)
    · exact fun x h => va_Nw.of rfl (hts _ h)
    · exact vx_Zqof (hts (.laysStatic Bundle.tN "UNASSIGNED_STACK" Bundle.steD) (by decide +kernel)) (hts (.initialized Bundle.tN) (by decide +kernel)) (hs _ fl_us) hAA
    · exact vx_Zqof (hts (.laysStatic Bundle.tN "SUPPRESSED_SENTINEL" Bundle.listD) (by decide +kernel)) (hts (.initialized Bundle.tN) (by decide +kernel)) (hs _ fl_ss) hAA
  have hE : q_Env ((dC, dI), (b, adK 0, adV 0), s.heap, L, xs) 55 yL_law cL_law 7 (some .boolean) p room_1 s m #[Value.ref b] meth c := ⟨hx, hb, hr, hml, hown, hlocks, hnm, fun w hw => hts w (q_sub_lw hw), hG0, by decide, by decide⟩
  have hR : q_R ((dC, dI), (b, adK 0, adV 0), s.heap, L, xs) s (h_init L xs) s.heap := by
    refine ⟨rfl, fun q _ => rfl, fun i c9 hc9 => Or.inr ?_⟩
    unfold h_init at hc9
    dsimp only at hc9
    split at hc9
    · rename_i h0
      cases hc9
      exact ⟨h0, rfl⟩
    · cases hc9
  obtain ⟨k1, k2, k3⟩ := okL_law (l := l) hfl hrun (Nat.le_refl 2)
  have k1 : 2 ≤ h'.2.1 := k1
  have hl := lv_entry ([Value.ref b]) (n := 7) (Nat.le_of_ble_eq_true rfl)
  rw [lg_entry_eq]
  generalize (lg_sl ([.ref b]) ++ List.replicate (7 - (lg_sl ([.ref b])).length) Slot.unset).toArray = lc at hl ⊢
  have hW := k3 ((dC, dI), (b, adK 0, adV 0), s.heap, L, xs) p e room_1 s m #[Value.ref b] below meth c hE s.heap [] 0 0 (h'.2.1 - 2) h'.2.2 lc hR (fun q hq => by cases hq) (by show 0 + h'.2.1 = h'.2.1 - 2 + 2; omega) (by show 0 + h'.2.2 = h'.2.2 + 0; omega) (by show _ ≤ 601024; omega) (by show _ ≤ 7293034; omega) hl
  intro T hT X
  obtain ⟨t, a1, oo, b1, b2, ⟨b3, -⟩, LL, ⟨b4, b5, b6⟩, b7⟩ := hW T hT X
  refine ⟨t, a1, oo, b1, b2, b3, b4, b5, ?_⟩
  exact b6.weaken (fun z hz hlt => absurd hlt (Nat.not_lt.mpr (b7 z hz))) (by show _ ≤ 601024; omega) (by show _ ≤ 7293034; omega)
