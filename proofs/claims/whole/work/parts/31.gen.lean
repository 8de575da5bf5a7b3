/-! Functions over the abstract heap, and that the machine computes them (written by gen.py). -/
theorem dX7_init_0 : decode cX7_init 0 = .ok (.aload_n 0, 1) := by decide +kernel
theorem dX7_init_1 : decode cX7_init 1 = .ok (.invokespecial 3, 3) := by decide +kernel
theorem dX7_init_4 : decode cX7_init 4 = .ok (.aload_n 0, 1) := by decide +kernel
theorem dX7_init_5 : decode cX7_init 5 = .ok (.bipush 8, 2) := by decide +kernel
theorem dX7_init_7 : decode cX7_init 7 = .ok (.newarray .int, 2) := by decide +kernel
theorem dX7_init_9 : decode cX7_init 9 = .ok (.putfield 9, 3) := by decide +kernel
theorem dX7_init_12 : decode cX7_init 12 = .ok (.aload_n 0, 1) := by decide +kernel
theorem dX7_init_13 : decode cX7_init 13 = .ok (.bipush 8, 2) := by decide +kernel
theorem dX7_init_15 : decode cX7_init 15 = .ok (.newarray .int, 2) := by decide +kernel
theorem dX7_init_17 : decode cX7_init 17 = .ok (.putfield 15, 3) := by decide +kernel
theorem dX7_init_20 : decode cX7_init 20 = .ok (.aload_n 0, 1) := by decide +kernel
theorem dX7_init_21 : decode cX7_init 21 = .ok (.bipush 8, 2) := by decide +kernel
theorem dX7_init_23 : decode cX7_init 23 = .ok (.newarray .boolean, 2) := by decide +kernel
theorem dX7_init_25 : decode cX7_init 25 = .ok (.putfield 18, 3) := by decide +kernel
theorem dX7_init_28 : decode cX7_init 28 = .ok (.return_, 1) := by decide +kernel
def fX7_init (v0 : Nat) (h : qH) : Option (qH) :=
  (isO h v0 7).bind fun _ =>
  (some (nwE (.inl (.int, 8, .inl (fun _ => 0))) 8 h)).bind fun h1 =>
  (pF h1 v0 7 0 (.ref h.2.1)).bind fun h3 =>
  (some (nwE (.inl (.int, 8, .inl (fun _ => 0))) 8 h3)).bind fun h5 =>
  (pF h5 v0 7 1 (.ref h3.2.1)).bind fun h7 =>
  (some (nwE (.inl (.boolean, 8, .inl (fun _ => 0))) 8 h7)).bind fun h9 =>
  (pF h9 v0 7 2 (.ref h7.2.1)).bind fun h11 =>
  some h11
theorem obX7_init {v0 : Nat} {h : qH} {p : qH} (hyp : fX7_init v0 h = some p) : ∃ fs, h.1 v0 = some (.inr (7, fs)) := by
  unfold fX7_init at hyp
  exact q_bind hyp (fun _ e _ => isO_some e)
set_option maxHeartbeats 4000000 in
set_option maxRecDepth 100000 in
theorem okX7_init {l : Launch} {v0 : Nat} {h : qH} {h' : qH} (hyp : fX7_init v0 h = some h') : q_M l 1 yX7_init cX7_init 1 none [.ref v0] h none h' := by
  unfold fX7_init at hyp
  refine q_bind hyp (fun _ _ hyp => ?_)
  refine q_M.of (by decide) (Nat.le_of_ble_eq_true rfl) ?_
  refine q_to (ls' := [(0, .ref v0)]) (st' := []) rfl rfl ?_
  refine q_aload_n 0 rfl dX7_init_0 ?_
  refine q_objInit kL_X7_3 kI_obj kD_obj (by decide) (Nat.le_of_ble_eq_true rfl) dX7_init_1 ?_
  refine q_aload_n 0 rfl dX7_init_4 ?_
  refine q_bipush (x := 8) (by decide) dX7_init_5 ?_
  refine q_bind hyp (fun h1 e2 hyp => ?_)
  refine q_newa (ty := .int) (N := 8) (k := .inl (fun _ => 0)) rfl rfl kA_int (fun _ _ => rfl) (fun _ _ h => h) (by decide) (by decide) dX7_init_7 ?_
  rw [Option.some.inj e2]
  refine q_bind hyp (fun h3 e4 hyp => ?_)
  refine q_putZ kF_X7_9 rfl ⟨_, _, rfl⟩ (fun _ => ⟨rfl, rfl⟩) dX7_init_9 e4 ?_
  refine q_aload_n 0 rfl dX7_init_12 ?_
  refine q_bipush (x := 8) (by decide) dX7_init_13 ?_
  refine q_bind hyp (fun h5 e6 hyp => ?_)
  refine q_newa (ty := .int) (N := 8) (k := .inl (fun _ => 0)) rfl rfl kA_int (fun _ _ => rfl) (fun _ _ h => h) (by decide) (by decide) dX7_init_15 ?_
  rw [Option.some.inj e6]
  refine q_bind hyp (fun h7 e8 hyp => ?_)
  refine q_putZ kF_X7_15 rfl ⟨_, _, rfl⟩ (fun _ => ⟨rfl, rfl⟩) dX7_init_17 e8 ?_
  refine q_aload_n 0 rfl dX7_init_20 ?_
  refine q_bipush (x := 8) (by decide) dX7_init_21 ?_
  refine q_bind hyp (fun h9 e10 hyp => ?_)
  refine q_newa (ty := .boolean) (N := 8) (k := .inl (fun _ => 0)) rfl rfl kA_boolean (fun _ _ => rfl) (fun _ _ h => h) (by decide) (by decide) dX7_init_23 ?_
  rw [Option.some.inj e10]
  refine q_bind hyp (fun h11 e12 hyp => ?_)
  refine q_putZ kF_X7_18 rfl ⟨_, _, rfl⟩ (fun _ => ⟨rfl, rfl⟩) dX7_init_25 e12 ?_
  exact q_vretH rfl dX7_init_28 hyp
theorem dX3_init_0 : decode cX3_init 0 = .ok (.aload_n 0, 1) := by decide +kernel
theorem dX3_init_1 : decode cX3_init 1 = .ok (.invokespecial 1, 3) := by decide +kernel
theorem dX3_init_4 : decode cX3_init 4 = .ok (.aload_n 0, 1) := by decide +kernel
theorem dX3_init_5 : decode cX3_init 5 = .ok (.new 7, 3) := by decide +kernel
theorem dX3_init_8 : decode cX3_init 8 = .ok (.dup, 1) := by decide +kernel
theorem dX3_init_9 : decode cX3_init 9 = .ok (.invokespecial 9, 3) := by decide +kernel
theorem dX3_init_12 : decode cX3_init 12 = .ok (.putfield 10, 3) := by decide +kernel
theorem dX3_init_15 : decode cX3_init 15 = .ok (.aload_n 0, 1) := by decide +kernel
theorem dX3_init_16 : decode cX3_init 16 = .ok (.new 16, 3) := by decide +kernel
theorem dX3_init_19 : decode cX3_init 19 = .ok (.dup, 1) := by decide +kernel
theorem dX3_init_20 : decode cX3_init 20 = .ok (.invokespecial 18, 3) := by decide +kernel
theorem dX3_init_23 : decode cX3_init 23 = .ok (.putfield 19, 3) := by decide +kernel
theorem dX3_init_26 : decode cX3_init 26 = .ok (.aload_n 0, 1) := by decide +kernel
theorem dX3_init_27 : decode cX3_init 27 = .ok (.new 23, 3) := by decide +kernel
theorem dX3_init_30 : decode cX3_init 30 = .ok (.dup, 1) := by decide +kernel
theorem dX3_init_31 : decode cX3_init 31 = .ok (.invokespecial 25, 3) := by decide +kernel
theorem dX3_init_34 : decode cX3_init 34 = .ok (.putfield 26, 3) := by decide +kernel
theorem dX3_init_37 : decode cX3_init 37 = .ok (.return_, 1) := by decide +kernel
def fX3_init (v0 : Nat) (h : qH) : Option (qH) :=
  (isO h v0 3).bind fun _ =>
  (some (nwE (.inr (8, [.null, .null, .int 0, .int 0])) 4 h)).bind fun h1 =>
  (fX8_init h.2.1 h1).bind fun h3 =>
  (pF h3 v0 3 0 (.ref h.2.1)).bind fun h4 =>
  (some (nwE (.inr (2, [.null, .null, .int 0])) 3 h4)).bind fun h6 =>
  (fX2_init h4.2.1 h6).bind fun h8 =>
  (pF h8 v0 3 1 (.ref h4.2.1)).bind fun h9 =>
  (some (nwE (.inr (7, [.null, .null, .null, .int 0])) 4 h9)).bind fun h11 =>
  (fX7_init h9.2.1 h11).bind fun h13 =>
  (pF h13 v0 3 2 (.ref h9.2.1)).bind fun h14 =>
  some h14
theorem obX3_init {v0 : Nat} {h : qH} {p : qH} (hyp : fX3_init v0 h = some p) : ∃ fs, h.1 v0 = some (.inr (3, fs)) := by
  unfold fX3_init at hyp
  exact q_bind hyp (fun _ e _ => isO_some e)
set_option maxHeartbeats 4000000 in
set_option maxRecDepth 100000 in
theorem okX3_init {l : Launch} {v0 : Nat} {h : qH} {h' : qH} (hyp : fX3_init v0 h = some h') : q_M l 2 yX3_init cX3_init 1 none [.ref v0] h none h' := by
  unfold fX3_init at hyp
  refine q_bind hyp (fun _ _ hyp => ?_)
  refine q_M.of (by decide) (Nat.le_of_ble_eq_true rfl) ?_
  refine q_to (ls' := [(0, .ref v0)]) (st' := []) rfl rfl ?_
  refine q_aload_n 0 rfl dX3_init_0 ?_
  refine q_objInit kL_X3_1 kI_obj kD_obj (by decide) (Nat.le_of_ble_eq_true rfl) dX3_init_1 ?_
  refine q_aload_n 0 rfl dX3_init_4 ?_
  refine q_bind hyp (fun h1 e2 hyp => ?_)
  refine q_new (fs := [.null, .null, .int 0, .int 0]) kC8 kN_X3_7 kT8 kZ8 (fun _ => (by decide +kernel : ∀ j, j < 4 → defaultValue (tyX8 j) = vp_V [.null, .null, .int 0, .int 0] j)) dX3_init_5 ?_
  rw [Option.some.inj e2]
  refine q_dup rfl dX3_init_8 ?_
  refine q_bind hyp (fun h3 e18 hyp => ?_)
  refine q_callI (as := []) (st := [.ref h.2.1, .ref v0]) kY_X8_init kI_X8_init rfl kL_X3_9 (okX8_init (l := l) e18) (by decide) rfl (Nat.le_of_ble_eq_true rfl) dX3_init_9 ?_
  refine q_to (ls' := [(0, .ref v0)]) (st' := [.ref h.2.1, .ref v0]) rfl rfl ?_
  refine q_bind hyp (fun h4 e5 hyp => ?_)
  refine q_putZ kF_X3_10 rfl ⟨_, _, rfl⟩ (fun _ => ⟨rfl, rfl⟩) dX3_init_12 e5 ?_
  refine q_aload_n 0 rfl dX3_init_15 ?_
  refine q_bind hyp (fun h6 e7 hyp => ?_)
  refine q_new (fs := [.null, .null, .int 0]) kC2 kN_X3_16 kT2 kZ2 (fun _ => (by decide +kernel : ∀ j, j < 3 → defaultValue (tyX2 j) = vp_V [.null, .null, .int 0] j)) dX3_init_16 ?_
  rw [Option.some.inj e7]
  refine q_dup rfl dX3_init_19 ?_
  refine q_bind hyp (fun h8 e17 hyp => ?_)
  refine q_callI (as := []) (st := [.ref h4.2.1, .ref v0]) kY_X2_init kI_X2_init rfl kL_X3_18 (okX2_init (l := l) e17) (by decide) rfl (Nat.le_of_ble_eq_true rfl) dX3_init_20 ?_
  refine q_to (ls' := [(0, .ref v0)]) (st' := [.ref h4.2.1, .ref v0]) rfl rfl ?_
  refine q_bind hyp (fun h9 e10 hyp => ?_)
  refine q_putZ kF_X3_19 rfl ⟨_, _, rfl⟩ (fun _ => ⟨rfl, rfl⟩) dX3_init_23 e10 ?_
  refine q_aload_n 0 rfl dX3_init_26 ?_
  refine q_bind hyp (fun h11 e12 hyp => ?_)
  refine q_new (fs := [.null, .null, .null, .int 0]) kC7 kN_X3_23 kT7 kZ7 (fun _ => (by decide +kernel : ∀ j, j < 4 → defaultValue (tyX7 j) = vp_V [.null, .null, .null, .int 0] j)) dX3_init_27 ?_
  rw [Option.some.inj e12]
  refine q_dup rfl dX3_init_30 ?_
  refine q_bind hyp (fun h13 e16 hyp => ?_)
  refine q_callI (as := []) (st := [.ref h9.2.1, .ref v0]) kY_X7_init kI_X7_init rfl kL_X3_25 (okX7_init (l := l) e16) (by decide) rfl (Nat.le_of_ble_eq_true rfl) dX3_init_31 ?_
  refine q_to (ls' := [(0, .ref v0)]) (st' := [.ref h9.2.1, .ref v0]) rfl rfl ?_
  refine q_bind hyp (fun h14 e15 hyp => ?_)
  refine q_putZ kF_X3_26 rfl ⟨_, _, rfl⟩ (fun _ => ⟨rfl, rfl⟩) dX3_init_34 e15 ?_
  exact q_vretH rfl dX3_init_37 hyp
theorem dX7_copy_0 : decode cX7_copy 0 = .ok (.aload_n 0, 1) := by decide +kernel
theorem dX7_copy_1 : decode cX7_copy 1 = .ok (.aload_n 1, 1) := by decide +kernel
theorem dX7_copy_2 : decode cX7_copy 2 = .ok (.getfield 22, 3) := by decide +kernel
theorem dX7_copy_5 : decode cX7_copy 5 = .ok (.putfield 22, 3) := by decide +kernel
theorem dX7_copy_8 : decode cX7_copy 8 = .ok (.iconst 0, 1) := by decide +kernel
theorem dX7_copy_9 : decode cX7_copy 9 = .ok (.istore_n 2, 1) := by decide +kernel
theorem dX7_copy_10 : decode cX7_copy 10 = .ok (.iload_n 2, 1) := by decide +kernel
theorem dX7_copy_11 : decode cX7_copy 11 = .ok (.aload_n 0, 1) := by decide +kernel
theorem dX7_copy_12 : decode cX7_copy 12 = .ok (.getfield 22, 3) := by decide +kernel
theorem dX7_copy_15 : decode cX7_copy 15 = .ok (.if_icmp .ge 45, 3) := by decide +kernel
theorem dX7_copy_18 : decode cX7_copy 18 = .ok (.aload_n 0, 1) := by decide +kernel
theorem dX7_copy_19 : decode cX7_copy 19 = .ok (.getfield 9, 3) := by decide +kernel
theorem dX7_copy_22 : decode cX7_copy 22 = .ok (.iload_n 2, 1) := by decide +kernel
theorem dX7_copy_23 : decode cX7_copy 23 = .ok (.aload_n 1, 1) := by decide +kernel
theorem dX7_copy_24 : decode cX7_copy 24 = .ok (.getfield 9, 3) := by decide +kernel
theorem dX7_copy_27 : decode cX7_copy 27 = .ok (.iload_n 2, 1) := by decide +kernel
theorem dX7_copy_28 : decode cX7_copy 28 = .ok (.iaload, 1) := by decide +kernel
theorem dX7_copy_29 : decode cX7_copy 29 = .ok (.iastore, 1) := by decide +kernel
theorem dX7_copy_30 : decode cX7_copy 30 = .ok (.aload_n 0, 1) := by decide +kernel
theorem dX7_copy_31 : decode cX7_copy 31 = .ok (.getfield 15, 3) := by decide +kernel
theorem dX7_copy_34 : decode cX7_copy 34 = .ok (.iload_n 2, 1) := by decide +kernel
theorem dX7_copy_35 : decode cX7_copy 35 = .ok (.aload_n 1, 1) := by decide +kernel
theorem dX7_copy_36 : decode cX7_copy 36 = .ok (.getfield 15, 3) := by decide +kernel
theorem dX7_copy_39 : decode cX7_copy 39 = .ok (.iload_n 2, 1) := by decide +kernel
theorem dX7_copy_40 : decode cX7_copy 40 = .ok (.iaload, 1) := by decide +kernel
theorem dX7_copy_41 : decode cX7_copy 41 = .ok (.iastore, 1) := by decide +kernel
theorem dX7_copy_42 : decode cX7_copy 42 = .ok (.aload_n 0, 1) := by decide +kernel
theorem dX7_copy_43 : decode cX7_copy 43 = .ok (.getfield 18, 3) := by decide +kernel
theorem dX7_copy_46 : decode cX7_copy 46 = .ok (.iload_n 2, 1) := by decide +kernel
theorem dX7_copy_47 : decode cX7_copy 47 = .ok (.aload_n 1, 1) := by decide +kernel
theorem dX7_copy_48 : decode cX7_copy 48 = .ok (.getfield 18, 3) := by decide +kernel
theorem dX7_copy_51 : decode cX7_copy 51 = .ok (.iload_n 2, 1) := by decide +kernel
theorem dX7_copy_52 : decode cX7_copy 52 = .ok (.baload, 1) := by decide +kernel
theorem dX7_copy_53 : decode cX7_copy 53 = .ok (.bastore, 1) := by decide +kernel
theorem dX7_copy_54 : decode cX7_copy 54 = .ok (.iinc 2 1, 3) := by decide +kernel
theorem dX7_copy_57 : decode cX7_copy 57 = .ok (.goto (-47), 3) := by decide +kernel
theorem dX7_copy_60 : decode cX7_copy 60 = .ok (.return_, 1) := by decide +kernel
def fX7_copy_b10 (n : Nat) : Nat → Nat → Nat → Int32 → qH → Option (qH)
  | 0, _, _, _, _ => none
  | w + 1, v0, v1, v2, h =>
    (gI h v0 7 3).bind fun x1 =>
    if x1 ≤ v2 then
    (some h)
    else
    ((gR h v0 7 0).bind fun x4 =>
    (gR h v1 7 0).bind fun x6 =>
    (aI .int h x6 v2).bind fun x8 =>
    (sI .int h x4 v2 x8).bind fun h10 =>
    (gR h10 v0 7 1).bind fun x12 =>
    (gR h10 v1 7 1).bind fun x14 =>
    (aI .int h10 x14 v2).bind fun x16 =>
    (sI .int h10 x12 v2 x16).bind fun h18 =>
    (gR h18 v0 7 2).bind fun x20 =>
    (gR h18 v1 7 2).bind fun x22 =>
    (aI .boolean h18 x22 v2).bind fun x24 =>
    (sI .boolean h18 x20 v2 x24).bind fun h26 =>
    fX7_copy_b10 n w v0 v1 (v2 + 1) h26)
set_option maxHeartbeats 4000000 in
set_option maxRecDepth 100000 in
theorem okX7_copy_b10 {l : Launch} {n : Nat} {h' : qH} : ∀ (w : Nat) (v0 : Nat) (v1 : Nat) (v2 : Int32) (h : qH), fX7_copy_b10 n w v0 v1 v2 h = some h' → q_W l 1 yX7_copy cX7_copy 3 none none h' 10 [(0, .ref v0), (1, .ref v1), (2, .int v2)] [] h := by
  intro w
  induction w with
  | zero => intro v0 v1 v2 h hyp; cases hyp
  | succ w ih =>
    intro v0 v1 v2 h hyp
    unfold fX7_copy_b10 at hyp
    refine q_iload_n 2 rfl dX7_copy_10 ?_
    refine q_aload_n 0 rfl dX7_copy_11 ?_
    refine q_bind hyp (fun x1 e2 hyp => ?_)
    refine q_getI kF_X7_22 dX7_copy_12 e2 ?_
    refine q_icmp_ge (tgt := 60) dX7_copy_15 (by decide) (fun c3 => ?_) (fun c3 => ?_)
    · have hyp := q_pos c3 hyp
      exact q_vretH rfl dX7_copy_60 hyp
    · have hyp := q_neg c3 hyp
      refine q_aload_n 0 rfl dX7_copy_18 ?_
      refine q_bind hyp (fun x4 e5 hyp => ?_)
      refine q_getR kF_X7_9 dX7_copy_19 e5 ?_
      refine q_iload_n 2 rfl dX7_copy_22 ?_
      refine q_aload_n 1 rfl dX7_copy_23 ?_
      refine q_bind hyp (fun x6 e7 hyp => ?_)
      refine q_getR kF_X7_9 dX7_copy_24 e7 ?_
      refine q_iload_n 2 rfl dX7_copy_27 ?_
      refine q_bind hyp (fun x8 e9 hyp => ?_)
      refine q_iald dX7_copy_28 e9 ?_
      refine q_bind hyp (fun h10 e11 hyp => ?_)
      refine q_iast dX7_copy_29 e11 ?_
      refine q_aload_n 0 rfl dX7_copy_30 ?_
      refine q_bind hyp (fun x12 e13 hyp => ?_)
      refine q_getR kF_X7_15 dX7_copy_31 e13 ?_
      refine q_iload_n 2 rfl dX7_copy_34 ?_
      refine q_aload_n 1 rfl dX7_copy_35 ?_
      refine q_bind hyp (fun x14 e15 hyp => ?_)
      refine q_getR kF_X7_15 dX7_copy_36 e15 ?_
      refine q_iload_n 2 rfl dX7_copy_39 ?_
      refine q_bind hyp (fun x16 e17 hyp => ?_)
      refine q_iald dX7_copy_40 e17 ?_
      refine q_bind hyp (fun h18 e19 hyp => ?_)
      refine q_iast dX7_copy_41 e19 ?_
      refine q_aload_n 0 rfl dX7_copy_42 ?_
      refine q_bind hyp (fun x20 e21 hyp => ?_)
      refine q_getR kF_X7_18 dX7_copy_43 e21 ?_
      refine q_iload_n 2 rfl dX7_copy_46 ?_
      refine q_aload_n 1 rfl dX7_copy_47 ?_
      refine q_bind hyp (fun x22 e23 hyp => ?_)
      refine q_getR kF_X7_18 dX7_copy_48 e23 ?_
      refine q_iload_n 2 rfl dX7_copy_51 ?_
      refine q_bind hyp (fun x24 e25 hyp => ?_)
      refine q_zald dX7_copy_52 e25 ?_
      refine q_bind hyp (fun h26 e27 hyp => ?_)
      refine q_zast dX7_copy_53 e27 ?_
      refine q_iinc (ls' := [(2, .int (v2 + 1)), (0, .ref v0), (1, .ref v1)]) 2 rfl rfl (by decide) rfl dX7_copy_54 ?_
      refine q_goto (tgt := 10) dX7_copy_57 (by decide) ?_
      exact q_sub [1, 2, 0] rfl (ih v0 v1 (v2 + 1) h26 hyp)
def fX7_copy (n : Nat) (v0 : Nat) (v1 : Nat) (h : qH) : Option (qH) :=
  (isO h v0 7).bind fun _ =>
  (gI h v1 7 3).bind fun x1 =>
  (pF h v0 7 3 (.int x1)).bind fun h3 =>
  fX7_copy_b10 n n v0 v1 0 h3
theorem obX7_copy {n : Nat} {v0 : Nat} {v1 : Nat} {h : qH} {p : qH} (hyp : fX7_copy n v0 v1 h = some p) : ∃ fs, h.1 v0 = some (.inr (7, fs)) := by
  unfold fX7_copy at hyp
  exact q_bind hyp (fun _ e _ => isO_some e)
set_option maxHeartbeats 4000000 in
set_option maxRecDepth 100000 in
theorem okX7_copy {l : Launch} {n : Nat} {v0 : Nat} {v1 : Nat} {h : qH} {h' : qH} (hyp : fX7_copy n v0 v1 h = some h') : q_M l 1 yX7_copy cX7_copy 3 none [.ref v0, .ref v1] h none h' := by
  unfold fX7_copy at hyp
  refine q_bind hyp (fun _ _ hyp => ?_)
  refine q_M.of (by decide) (Nat.le_of_ble_eq_true rfl) ?_
  refine q_to (ls' := [(0, .ref v0), (1, .ref v1)]) (st' := []) rfl rfl ?_
  refine q_aload_n 0 rfl dX7_copy_0 ?_
  refine q_aload_n 1 rfl dX7_copy_1 ?_
  refine q_bind hyp (fun x1 e2 hyp => ?_)
  refine q_getI kF_X7_22 dX7_copy_2 e2 ?_
  refine q_bind hyp (fun h3 e4 hyp => ?_)
  refine q_putF kF_X7_22 (fun _ => ⟨rfl, rfl⟩) dX7_copy_5 e4 ?_
  refine q_iconst (x := 0) rfl dX7_copy_8 ?_
  refine q_istore_n (ls' := [(2, .int 0), (0, .ref v0), (1, .ref v1)]) (by decide) rfl dX7_copy_9 ?_
  exact q_sub [1, 2, 0] rfl (okX7_copy_b10 _ v0 v1 0 h3 hyp)
theorem dX3_lay_0 : decode cX3_lay 0 = .ok (.aload_n 0, 1) := by decide +kernel
theorem dX3_lay_1 : decode cX3_lay 1 = .ok (.getfield 10, 3) := by decide +kernel
theorem dX3_lay_4 : decode cX3_lay 4 = .ok (.aload_n 1, 1) := by decide +kernel
theorem dX3_lay_5 : decode cX3_lay 5 = .ok (.invokevirtual 30, 3) := by decide +kernel
theorem dX3_lay_8 : decode cX3_lay 8 = .ok (.aload_n 0, 1) := by decide +kernel
theorem dX3_lay_9 : decode cX3_lay 9 = .ok (.getfield 19, 3) := by decide +kernel
theorem dX3_lay_12 : decode cX3_lay 12 = .ok (.aload_n 2, 1) := by decide +kernel
theorem dX3_lay_13 : decode cX3_lay 13 = .ok (.invokevirtual 34, 3) := by decide +kernel
theorem dX3_lay_16 : decode cX3_lay 16 = .ok (.aload_n 0, 1) := by decide +kernel
theorem dX3_lay_17 : decode cX3_lay 17 = .ok (.getfield 26, 3) := by decide +kernel
theorem dX3_lay_20 : decode cX3_lay 20 = .ok (.aload_n 3, 1) := by decide +kernel
theorem dX3_lay_21 : decode cX3_lay 21 = .ok (.invokevirtual 37, 3) := by decide +kernel
theorem dX3_lay_24 : decode cX3_lay 24 = .ok (.aload_n 0, 1) := by decide +kernel
theorem dX3_lay_25 : decode cX3_lay 25 = .ok (.iconst 1, 1) := by decide +kernel
theorem dX3_lay_26 : decode cX3_lay 26 = .ok (.putfield 40, 3) := by decide +kernel
theorem dX3_lay_29 : decode cX3_lay 29 = .ok (.return_, 1) := by decide +kernel
def fX3_lay (n : Nat) (v0 : Nat) (v1 : Nat) (v2 : Nat) (v3 : Nat) (h : qH) : Option (qH) :=
  (isO h v0 3).bind fun _ =>
  (gR h v0 3 0).bind fun x1 =>
  (fX8_copy n x1 v1 h).bind fun h3 =>
  (gR h3 v0 3 1).bind fun x4 =>
  (fX2_copy n x4 v2 h3).bind fun h6 =>
  (gR h6 v0 3 2).bind fun x7 =>
  (fX7_copy n x7 v3 h6).bind fun h9 =>
  (pF h9 v0 3 3 (.int 1)).bind fun h10 =>
  some h10
theorem obX3_lay {n : Nat} {v0 : Nat} {v1 : Nat} {v2 : Nat} {v3 : Nat} {h : qH} {p : qH} (hyp : fX3_lay n v0 v1 v2 v3 h = some p) : ∃ fs, h.1 v0 = some (.inr (3, fs)) := by
  unfold fX3_lay at hyp
  exact q_bind hyp (fun _ e _ => isO_some e)
set_option maxHeartbeats 4000000 in
set_option maxRecDepth 100000 in
theorem okX3_lay {l : Launch} {n : Nat} {v0 : Nat} {v1 : Nat} {v2 : Nat} {v3 : Nat} {h : qH} {h' : qH} (hyp : fX3_lay n v0 v1 v2 v3 h = some h') : q_M l 2 yX3_lay cX3_lay 4 none [.ref v0, .ref v1, .ref v2, .ref v3] h none h' := by
  unfold fX3_lay at hyp
  refine q_bind hyp (fun _ _ hyp => ?_)
  refine q_M.of (by decide) (Nat.le_of_ble_eq_true rfl) ?_
  refine q_to (ls' := [(0, .ref v0), (1, .ref v1), (2, .ref v2), (3, .ref v3)]) (st' := []) rfl rfl ?_
  refine q_aload_n 0 rfl dX3_lay_0 ?_
  refine q_bind hyp (fun x1 e2 hyp => ?_)
  refine q_getR kF_X3_10 dX3_lay_1 e2 ?_
  refine q_aload_n 1 rfl dX3_lay_4 ?_
  refine q_bind hyp (fun h3 e14 hyp => ?_)
  refine q_callV (as := [.ref v1]) (st := []) kY_X8_copy kL_X3_30 (okX8_copy (l := l) e14) (by decide) rfl (obX8_copy e14) (Nat.le_of_ble_eq_true rfl) dX3_lay_5 ?_
  refine q_to (ls' := [(0, .ref v0), (1, .ref v1), (2, .ref v2), (3, .ref v3)]) (st' := []) rfl rfl ?_
  refine q_aload_n 0 rfl dX3_lay_8 ?_
  refine q_bind hyp (fun x4 e5 hyp => ?_)
  refine q_getR kF_X3_19 dX3_lay_9 e5 ?_
  refine q_aload_n 2 rfl dX3_lay_12 ?_
  refine q_bind hyp (fun h6 e13 hyp => ?_)
  refine q_callV (as := [.ref v2]) (st := []) kY_X2_copy kL_X3_34 (okX2_copy (l := l) e13) (by decide) rfl (obX2_copy e13) (Nat.le_of_ble_eq_true rfl) dX3_lay_13 ?_
  refine q_to (ls' := [(0, .ref v0), (1, .ref v1), (2, .ref v2), (3, .ref v3)]) (st' := []) rfl rfl ?_
  refine q_aload_n 0 rfl dX3_lay_16 ?_
  refine q_bind hyp (fun x7 e8 hyp => ?_)
  refine q_getR kF_X3_26 dX3_lay_17 e8 ?_
  refine q_aload_n 3 rfl dX3_lay_20 ?_
  refine q_bind hyp (fun h9 e12 hyp => ?_)
  refine q_callV (as := [.ref v3]) (st := []) kY_X7_copy kL_X3_37 (okX7_copy (l := l) e12) (by decide) rfl (obX7_copy e12) (Nat.le_of_ble_eq_true rfl) dX3_lay_21 ?_
  refine q_to (ls' := [(0, .ref v0), (1, .ref v1), (2, .ref v2), (3, .ref v3)]) (st' := []) rfl rfl ?_
  refine q_aload_n 0 rfl dX3_lay_24 ?_
  refine q_iconst (x := 1) rfl dX3_lay_25 ?_
  refine q_bind hyp (fun h10 e11 hyp => ?_)
  refine q_putF kF_X3_40 (fun _ => ⟨rfl, rfl⟩) dX3_lay_26 e11 ?_
  exact q_vretH rfl dX3_lay_29 hyp
theorem dX4_init_0 : decode cX4_init 0 = .ok (.aload_n 0, 1) := by decide +kernel
theorem dX4_init_1 : decode cX4_init 1 = .ok (.invokespecial 3, 3) := by decide +kernel
theorem dX4_init_4 : decode cX4_init 4 = .ok (.aload_n 0, 1) := by decide +kernel
theorem dX4_init_5 : decode cX4_init 5 = .ok (.aload_n 1, 1) := by decide +kernel
theorem dX4_init_6 : decode cX4_init 6 = .ok (.putfield 9, 3) := by decide +kernel
theorem dX4_init_9 : decode cX4_init 9 = .ok (.return_, 1) := by decide +kernel
def fX4_init (v0 : Nat) (v1 : Nat) (h : qH) : Option (qH) :=
  (isO h v0 4).bind fun _ =>
  (pF h v0 4 0 (.ref v1)).bind fun h1 =>
  some h1
theorem obX4_init {v0 : Nat} {v1 : Nat} {h : qH} {p : qH} (hyp : fX4_init v0 v1 h = some p) : ∃ fs, h.1 v0 = some (.inr (4, fs)) := by
  unfold fX4_init at hyp
  exact q_bind hyp (fun _ e _ => isO_some e)
set_option maxHeartbeats 4000000 in
set_option maxRecDepth 100000 in
theorem okX4_init {l : Launch} {v0 : Nat} {v1 : Nat} {h : qH} {h' : qH} (hyp : fX4_init v0 v1 h = some h') : q_M l 1 yX4_init cX4_init 2 none [.ref v0, .ref v1] h none h' := by
  unfold fX4_init at hyp
  refine q_bind hyp (fun _ _ hyp => ?_)
  refine q_M.of (by decide) (Nat.le_of_ble_eq_true rfl) ?_
  refine q_to (ls' := [(0, .ref v0), (1, .ref v1)]) (st' := []) rfl rfl ?_
  refine q_aload_n 0 rfl dX4_init_0 ?_
  refine q_objInit kL_X4_3 kI_obj kD_obj (by decide) (Nat.le_of_ble_eq_true rfl) dX4_init_1 ?_
  refine q_aload_n 0 rfl dX4_init_4 ?_
  refine q_aload_n 1 rfl dX4_init_5 ?_
  refine q_bind hyp (fun h1 e2 hyp => ?_)
  refine q_putZ kF_X4_9 rfl ⟨_, _, rfl⟩ (fun _ => ⟨rfl, rfl⟩) dX4_init_6 e2 ?_
  exact q_vretH rfl dX4_init_9 hyp
theorem dX5_find_0 : decode cX5_find 0 = .ok (.iconst 0, 1) := by decide +kernel
theorem dX5_find_1 : decode cX5_find 1 = .ok (.istore_n 3, 1) := by decide +kernel
theorem dX5_find_2 : decode cX5_find 2 = .ok (.iload_n 3, 1) := by decide +kernel
theorem dX5_find_3 : decode cX5_find 3 = .ok (.aload_n 0, 1) := by decide +kernel
theorem dX5_find_4 : decode cX5_find 4 = .ok (.getfield 35, 3) := by decide +kernel
theorem dX5_find_7 : decode cX5_find 7 = .ok (.if_icmp .ge 22, 3) := by decide +kernel
theorem dX5_find_10 : decode cX5_find 10 = .ok (.aload_n 0, 1) := by decide +kernel
theorem dX5_find_11 : decode cX5_find 11 = .ok (.getfield 9, 3) := by decide +kernel
theorem dX5_find_14 : decode cX5_find 14 = .ok (.iload_n 3, 1) := by decide +kernel
theorem dX5_find_15 : decode cX5_find 15 = .ok (.laload, 1) := by decide +kernel
theorem dX5_find_16 : decode cX5_find 16 = .ok (.lload_n 1, 1) := by decide +kernel
theorem dX5_find_17 : decode cX5_find 17 = .ok (.lcmp, 1) := by decide +kernel
theorem dX5_find_18 : decode cX5_find 18 = .ok (.ifCond .ne 5, 3) := by decide +kernel
theorem dX5_find_21 : decode cX5_find 21 = .ok (.iload_n 3, 1) := by decide +kernel
theorem dX5_find_22 : decode cX5_find 22 = .ok (.ireturn, 1) := by decide +kernel
theorem dX5_find_23 : decode cX5_find 23 = .ok (.iinc 3 1, 3) := by decide +kernel
theorem dX5_find_26 : decode cX5_find 26 = .ok (.goto (-24), 3) := by decide +kernel
theorem dX5_find_29 : decode cX5_find 29 = .ok (.iconst (-1), 1) := by decide +kernel
theorem dX5_find_30 : decode cX5_find 30 = .ok (.ireturn, 1) := by decide +kernel
def fX5_find_b2 (n : Nat) : Nat → Nat → Int64 → Int32 → qH → Option (Int32 × qH)
  | 0, _, _, _, _ => none
  | w + 1, v0, v1, v3, h =>
    (gI h v0 5 6).bind fun x1 =>
    if x1 ≤ v3 then
    (some ((-1), h))
    else
    ((gR h v0 5 0).bind fun x4 =>
    (aL h x4 v3).bind fun x6 =>
    if (lg_cmp x6 v1) = 0 then
    (some (v3, h))
    else
    (fX5_find_b2 n w v0 v1 (v3 + 1) h))
set_option maxHeartbeats 4000000 in
set_option maxRecDepth 100000 in
theorem okX5_find_b2 {l : Launch} {n : Nat} {r : Int32} {h' : qH} : ∀ (w : Nat) (v0 : Nat) (v1 : Int64) (v3 : Int32) (h : qH), fX5_find_b2 n w v0 v1 v3 h = some (r, h') → q_W l 1 yX5_find cX5_find 4 (some .int) (some (.int r)) h' 2 [(0, .ref v0), (1, .long v1), (3, .int v3)] [] h := by
  intro w
  induction w with
  | zero => intro v0 v1 v3 h hyp; cases hyp
  | succ w ih =>
    intro v0 v1 v3 h hyp
    unfold fX5_find_b2 at hyp
    refine q_iload_n 2 rfl dX5_find_2 ?_
    refine q_aload_n 0 rfl dX5_find_3 ?_
    refine q_bind hyp (fun x1 e2 hyp => ?_)
    refine q_getI kF_X5_35 dX5_find_4 e2 ?_
    refine q_icmp_ge (tgt := 29) dX5_find_7 (by decide) (fun c3 => ?_) (fun c3 => ?_)
    · have hyp := q_pos c3 hyp
      refine q_iconst (x := (-1)) rfl dX5_find_29 ?_
      exact q_iretH rfl rfl dX5_find_30 hyp
    · have hyp := q_neg c3 hyp
      refine q_aload_n 0 rfl dX5_find_10 ?_
      refine q_bind hyp (fun x4 e5 hyp => ?_)
      refine q_getR kF_X5_9 dX5_find_11 e5 ?_
      refine q_iload_n 2 rfl dX5_find_14 ?_
      refine q_bind hyp (fun x6 e7 hyp => ?_)
      refine q_lald dX5_find_15 e7 ?_
      refine q_lload_n 1 rfl dX5_find_16 ?_
      refine q_lcmp dX5_find_17 ?_
      refine q_if_ne (tgt := 23) dX5_find_18 (by decide) (fun c8 => ?_) (fun c8 => ?_)
      · have hyp := q_neg c8 hyp
        refine q_iinc (ls' := [(3, .int (v3 + 1)), (0, .ref v0), (1, .long v1)]) 2 rfl rfl (by decide) rfl dX5_find_23 ?_
        refine q_goto (tgt := 2) dX5_find_26 (by decide) ?_
        exact q_sub [1, 2, 0] rfl (ih v0 v1 (v3 + 1) h hyp)
      · have hyp := q_pos c8 hyp
        refine q_iload_n 2 rfl dX5_find_21 ?_
        exact q_iretH rfl rfl dX5_find_22 hyp
def fX5_find (n : Nat) (v0 : Nat) (v1 : Int64) (h : qH) : Option (Int32 × qH) :=
  (isO h v0 5).bind fun _ =>
  fX5_find_b2 n n v0 v1 0 h
theorem obX5_find {n : Nat} {v0 : Nat} {v1 : Int64} {h : qH} {p : Int32 × qH} (hyp : fX5_find n v0 v1 h = some p) : ∃ fs, h.1 v0 = some (.inr (5, fs)) := by
  unfold fX5_find at hyp
  exact q_bind hyp (fun _ e _ => isO_some e)
set_option maxHeartbeats 4000000 in
set_option maxRecDepth 100000 in
theorem okX5_find {l : Launch} {n : Nat} {v0 : Nat} {v1 : Int64} {h : qH} {p : Int32 × qH} (hyp : fX5_find n v0 v1 h = some p) : q_M l 1 yX5_find cX5_find 4 (some .int) [.ref v0, .long v1] h (some (.int p.1)) p.2 := by
  obtain ⟨r, h'⟩ := p
  unfold fX5_find at hyp
  refine q_bind hyp (fun _ _ hyp => ?_)
  refine q_M.of (by decide) (Nat.le_of_ble_eq_true rfl) ?_
  refine q_to (ls' := [(0, .ref v0), (1, .long v1)]) (st' := []) rfl rfl ?_
  refine q_iconst (x := 0) rfl dX5_find_0 ?_
  refine q_istore_n (ls' := [(3, .int 0), (0, .ref v0), (1, .long v1)]) (by decide) rfl dX5_find_1 ?_
  exact q_sub [1, 2, 0] rfl (okX5_find_b2 _ v0 v1 0 h hyp)
theorem dX6_fail_0 : decode cX6_fail 0 = .ok (.aload_n 0, 1) := by decide +kernel
theorem dX6_fail_1 : decode cX6_fail 1 = .ok (.getfield 26, 3) := by decide +kernel
theorem dX6_fail_4 : decode cX6_fail 4 = .ok (.ifCond .ne 16, 3) := by decide +kernel
theorem dX6_fail_7 : decode cX6_fail 7 = .ok (.aload_n 0, 1) := by decide +kernel
theorem dX6_fail_8 : decode cX6_fail 8 = .ok (.iload_n 1, 1) := by decide +kernel
theorem dX6_fail_9 : decode cX6_fail 9 = .ok (.bipush 16, 2) := by decide +kernel
theorem dX6_fail_11 : decode cX6_fail 11 = .ok (.aload_n 0, 1) := by decide +kernel
theorem dX6_fail_12 : decode cX6_fail 12 = .ok (.getfield 32, 3) := by decide +kernel
theorem dX6_fail_15 : decode cX6_fail 15 = .ok (.imul, 1) := by decide +kernel
theorem dX6_fail_16 : decode cX6_fail 16 = .ok (.iadd, 1) := by decide +kernel
theorem dX6_fail_17 : decode cX6_fail 17 = .ok (.putfield 26, 3) := by decide +kernel
theorem dX6_fail_20 : decode cX6_fail 20 = .ok (.return_, 1) := by decide +kernel
def fX6_fail (v0 : Nat) (v1 : Int32) (h : qH) : Option (qH) :=
  (isO h v0 6).bind fun _ =>
  (gI h v0 6 8).bind fun x1 =>
  if x1 = 0 then
  ((gI h v0 6 3).bind fun x4 =>
  (pF h v0 6 8 (.int (v1 + (16 * x4)))).bind fun h6 =>
  some h6)
  else
  (some h)
theorem obX6_fail {v0 : Nat} {v1 : Int32} {h : qH} {p : qH} (hyp : fX6_fail v0 v1 h = some p) : ∃ fs, h.1 v0 = some (.inr (6, fs)) := by
  unfold fX6_fail at hyp
  exact q_bind hyp (fun _ e _ => isO_some e)
set_option maxHeartbeats 4000000 in
set_option maxRecDepth 100000 in
theorem okX6_fail {l : Launch} {v0 : Nat} {v1 : Int32} {h : qH} {h' : qH} (hyp : fX6_fail v0 v1 h = some h') : q_M l 1 yX6_fail cX6_fail 2 none [.ref v0, .int v1] h none h' := by
  unfold fX6_fail at hyp
  refine q_bind hyp (fun _ _ hyp => ?_)
  refine q_M.of (by decide) (Nat.le_of_ble_eq_true rfl) ?_
  refine q_to (ls' := [(0, .ref v0), (1, .int v1)]) (st' := []) rfl rfl ?_
  refine q_aload_n 0 rfl dX6_fail_0 ?_
  refine q_bind hyp (fun x1 e2 hyp => ?_)
  refine q_getI kF_X6_26 dX6_fail_1 e2 ?_
  refine q_if_ne (tgt := 20) dX6_fail_4 (by decide) (fun c3 => ?_) (fun c3 => ?_)
  · have hyp := q_neg c3 hyp
    exact q_vretH rfl dX6_fail_20 hyp
  · have hyp := q_pos c3 hyp
    refine q_aload_n 0 rfl dX6_fail_7 ?_
    refine q_iload_n 1 rfl dX6_fail_8 ?_
    refine q_bipush (x := 16) (by decide) dX6_fail_9 ?_
    refine q_aload_n 0 rfl dX6_fail_11 ?_
    refine q_bind hyp (fun x4 e5 hyp => ?_)
    refine q_getI kF_X6_32 dX6_fail_12 e5 ?_
    refine q_imul dX6_fail_15 ?_
    refine q_iadd dX6_fail_16 ?_
    refine q_bind hyp (fun h6 e7 hyp => ?_)
    refine q_putF kF_X6_26 (fun _ => ⟨rfl, rfl⟩) dX6_fail_17 e7 ?_
    exact q_vretH rfl dX6_fail_20 hyp
theorem dX6_isType_0 : decode cX6_isType 0 = .ok (.aload_n 0, 1) := by decide +kernel
theorem dX6_isType_1 : decode cX6_isType 1 = .ok (.getfield 26, 3) := by decide +kernel
theorem dX6_isType_4 : decode cX6_isType 4 = .ok (.ifCond .ne 15, 3) := by decide +kernel
theorem dX6_isType_7 : decode cX6_isType 7 = .ok (.aload_n 0, 1) := by decide +kernel
theorem dX6_isType_8 : decode cX6_isType 8 = .ok (.getfield 35, 3) := by decide +kernel
theorem dX6_isType_11 : decode cX6_isType 11 = .ok (.iload_n 1, 1) := by decide +kernel
theorem dX6_isType_12 : decode cX6_isType 12 = .ok (.if_icmp .ne 7, 3) := by decide +kernel
theorem dX6_isType_15 : decode cX6_isType 15 = .ok (.iconst 1, 1) := by decide +kernel
theorem dX6_isType_16 : decode cX6_isType 16 = .ok (.goto 4, 3) := by decide +kernel
theorem dX6_isType_19 : decode cX6_isType 19 = .ok (.iconst 0, 1) := by decide +kernel
theorem dX6_isType_20 : decode cX6_isType 20 = .ok (.ireturn, 1) := by decide +kernel
def fX6_isType (v0 : Nat) (v1 : Int32) (h : qH) : Option (Int32 × qH) :=
  (isO h v0 6).bind fun _ =>
  (gI h v0 6 8).bind fun x1 =>
  if x1 = 0 then
  ((gI h v0 6 4).bind fun x4 =>
  if x4 = v1 then
  (some (1, h))
  else
  (some (0, h)))
  else
  (some (0, h))
theorem obX6_isType {v0 : Nat} {v1 : Int32} {h : qH} {p : Int32 × qH} (hyp : fX6_isType v0 v1 h = some p) : ∃ fs, h.1 v0 = some (.inr (6, fs)) := by
  unfold fX6_isType at hyp
  exact q_bind hyp (fun _ e _ => isO_some e)
set_option maxHeartbeats 4000000 in
set_option maxRecDepth 100000 in
theorem okX6_isType {l : Launch} {v0 : Nat} {v1 : Int32} {h : qH} {p : Int32 × qH} (hyp : fX6_isType v0 v1 h = some p) : q_M l 1 yX6_isType cX6_isType 2 (some .boolean) [.ref v0, .int v1] h (some (.int p.1)) p.2 := by
  obtain ⟨r, h'⟩ := p
  unfold fX6_isType at hyp
  refine q_bind hyp (fun _ _ hyp => ?_)
  refine q_M.of (by decide) (Nat.le_of_ble_eq_true rfl) ?_
  refine q_to (ls' := [(0, .ref v0), (1, .int v1)]) (st' := []) rfl rfl ?_
  refine q_aload_n 0 rfl dX6_isType_0 ?_
  refine q_bind hyp (fun x1 e2 hyp => ?_)
  refine q_getI kF_X6_26 dX6_isType_1 e2 ?_
  refine q_if_ne (tgt := 19) dX6_isType_4 (by decide) (fun c3 => ?_) (fun c3 => ?_)
  · have hyp := q_neg c3 hyp
    refine q_iconst (x := 0) rfl dX6_isType_19 ?_
    exact q_iretH rfl rfl dX6_isType_20 hyp
  · have hyp := q_pos c3 hyp
    refine q_aload_n 0 rfl dX6_isType_7 ?_
    refine q_bind hyp (fun x4 e5 hyp => ?_)
    refine q_getI kF_X6_35 dX6_isType_8 e5 ?_
    refine q_iload_n 1 rfl dX6_isType_11 ?_
    refine q_icmp_ne (tgt := 19) dX6_isType_12 (by decide) (fun c6 => ?_) (fun c6 => ?_)
    · have hyp := q_neg c6 hyp
      refine q_iconst (x := 0) rfl dX6_isType_19 ?_
      exact q_iretH rfl rfl dX6_isType_20 hyp
    · have hyp := q_pos c6 hyp
      refine q_iconst (x := 1) rfl dX6_isType_15 ?_
      refine q_goto (tgt := 20) dX6_isType_16 (by decide) ?_
      exact q_iretH rfl rfl dX6_isType_20 hyp
theorem dX6_isName_0 : decode cX6_isName 0 = .ok (.aload_n 0, 1) := by decide +kernel
theorem dX6_isName_1 : decode cX6_isName 1 = .ok (.iconst 2, 1) := by decide +kernel
theorem dX6_isName_2 : decode cX6_isName 2 = .ok (.invokevirtual 38, 3) := by decide +kernel
theorem dX6_isName_5 : decode cX6_isName 5 = .ok (.ifCond .eq 16, 3) := by decide +kernel
theorem dX6_isName_8 : decode cX6_isName 8 = .ok (.aload_n 0, 1) := by decide +kernel
theorem dX6_isName_9 : decode cX6_isName 9 = .ok (.getfield 42, 3) := by decide +kernel
theorem dX6_isName_12 : decode cX6_isName 12 = .ok (.bipush 18, 2) := by decide +kernel
theorem dX6_isName_14 : decode cX6_isName 14 = .ok (.if_icmp .lt 7, 3) := by decide +kernel
theorem dX6_isName_17 : decode cX6_isName 17 = .ok (.iconst 1, 1) := by decide +kernel
theorem dX6_isName_18 : decode cX6_isName 18 = .ok (.goto 4, 3) := by decide +kernel
theorem dX6_isName_21 : decode cX6_isName 21 = .ok (.iconst 0, 1) := by decide +kernel
theorem dX6_isName_22 : decode cX6_isName 22 = .ok (.ireturn, 1) := by decide +kernel
def fX6_isName (v0 : Nat) (h : qH) : Option (Int32 × qH) :=
  (isO h v0 6).bind fun _ =>
  (fX6_isType v0 2 h).bind fun p1 =>
  if p1.1 = 0 then
  (some (0, p1.2))
  else
  ((gI p1.2 v0 6 7).bind fun x3 =>
  if x3 < 18 then
  (some (0, p1.2))
  else
  (some (1, p1.2)))
theorem obX6_isName {v0 : Nat} {h : qH} {p : Int32 × qH} (hyp : fX6_isName v0 h = some p) : ∃ fs, h.1 v0 = some (.inr (6, fs)) := by
  unfold fX6_isName at hyp
  exact q_bind hyp (fun _ e _ => isO_some e)
set_option maxHeartbeats 4000000 in
set_option maxRecDepth 100000 in
theorem okX6_isName {l : Launch} {v0 : Nat} {h : qH} {p : Int32 × qH} (hyp : fX6_isName v0 h = some p) : q_M l 2 yX6_isName cX6_isName 1 (some .boolean) [.ref v0] h (some (.int p.1)) p.2 := by
  obtain ⟨r, h'⟩ := p
  unfold fX6_isName at hyp
  refine q_bind hyp (fun _ _ hyp => ?_)
  refine q_M.of (by decide) (Nat.le_of_ble_eq_true rfl) ?_
  refine q_to (ls' := [(0, .ref v0)]) (st' := []) rfl rfl ?_
  refine q_aload_n 0 rfl dX6_isName_0 ?_
  refine q_iconst (x := 2) rfl dX6_isName_1 ?_
  refine q_bind hyp (fun p1 e6 hyp => ?_)
  refine q_callV (as := [.int 2]) (st := []) kY_X6_isType kL_X6_38 (okX6_isType (l := l) e6) (by decide) rfl (obX6_isType e6) (Nat.le_of_ble_eq_true rfl) dX6_isName_2 ?_
  refine q_to (ls' := [(0, .ref v0)]) (st' := [.int p1.1]) rfl rfl ?_
  refine q_if_eq (tgt := 21) dX6_isName_5 (by decide) (fun c2 => ?_) (fun c2 => ?_)
  · have hyp := q_pos c2 hyp
    refine q_iconst (x := 0) rfl dX6_isName_21 ?_
    exact q_iretH rfl rfl dX6_isName_22 hyp
  · have hyp := q_neg c2 hyp
    refine q_aload_n 0 rfl dX6_isName_8 ?_
    refine q_bind hyp (fun x3 e4 hyp => ?_)
    refine q_getI kF_X6_42 dX6_isName_9 e4 ?_
    refine q_bipush (x := 18) (by decide) dX6_isName_12 ?_
    refine q_icmp_lt (tgt := 21) dX6_isName_14 (by decide) (fun c5 => ?_) (fun c5 => ?_)
    · have hyp := q_pos c5 hyp
      refine q_iconst (x := 0) rfl dX6_isName_21 ?_
      exact q_iretH rfl rfl dX6_isName_22 hyp
    · have hyp := q_neg c5 hyp
      refine q_iconst (x := 1) rfl dX6_isName_17 ?_
      refine q_goto (tgt := 22) dX6_isName_18 (by decide) ?_
      exact q_iretH rfl rfl dX6_isName_22 hyp
theorem dX4_matterHere_0 : decode cX4_matterHere 0 = .ok (.aload_n 0, 1) := by decide +kernel
theorem dX4_matterHere_1 : decode cX4_matterHere 1 = .ok (.getfield 9, 3) := by decide +kernel
theorem dX4_matterHere_4 : decode cX4_matterHere 4 = .ok (.invokevirtual 94, 3) := by decide +kernel
theorem dX4_matterHere_7 : decode cX4_matterHere 7 = .ok (.ifCond .ne 13, 3) := by decide +kernel
theorem dX4_matterHere_10 : decode cX4_matterHere 10 = .ok (.aload_n 0, 1) := by decide +kernel
theorem dX4_matterHere_11 : decode cX4_matterHere 11 = .ok (.getfield 9, 3) := by decide +kernel
theorem dX4_matterHere_14 : decode cX4_matterHere 14 = .ok (.iconst 1, 1) := by decide +kernel
theorem dX4_matterHere_15 : decode cX4_matterHere 15 = .ok (.invokevirtual 47, 3) := by decide +kernel
theorem dX4_matterHere_18 : decode cX4_matterHere 18 = .ok (.iconst (-1), 1) := by decide +kernel
theorem dX4_matterHere_19 : decode cX4_matterHere 19 = .ok (.ireturn, 1) := by decide +kernel
theorem dX4_matterHere_20 : decode cX4_matterHere 20 = .ok (.aload_n 1, 1) := by decide +kernel
theorem dX4_matterHere_21 : decode cX4_matterHere 21 = .ok (.aload_n 0, 1) := by decide +kernel
theorem dX4_matterHere_22 : decode cX4_matterHere 22 = .ok (.getfield 9, 3) := by decide +kernel
theorem dX4_matterHere_25 : decode cX4_matterHere 25 = .ok (.getfield 98, 3) := by decide +kernel
theorem dX4_matterHere_28 : decode cX4_matterHere 28 = .ok (.invokevirtual 102, 3) := by decide +kernel
theorem dX4_matterHere_31 : decode cX4_matterHere 31 = .ok (.istore_n 2, 1) := by decide +kernel
theorem dX4_matterHere_32 : decode cX4_matterHere 32 = .ok (.iload_n 2, 1) := by decide +kernel
theorem dX4_matterHere_33 : decode cX4_matterHere 33 = .ok (.iconst (-1), 1) := by decide +kernel
theorem dX4_matterHere_34 : decode cX4_matterHere 34 = .ok (.if_icmp .ne 11, 3) := by decide +kernel
theorem dX4_matterHere_37 : decode cX4_matterHere 37 = .ok (.aload_n 0, 1) := by decide +kernel
theorem dX4_matterHere_38 : decode cX4_matterHere 38 = .ok (.getfield 9, 3) := by decide +kernel
theorem dX4_matterHere_41 : decode cX4_matterHere 41 = .ok (.iconst 2, 1) := by decide +kernel
theorem dX4_matterHere_42 : decode cX4_matterHere 42 = .ok (.invokevirtual 47, 3) := by decide +kernel
theorem dX4_matterHere_45 : decode cX4_matterHere 45 = .ok (.iload_n 2, 1) := by decide +kernel
theorem dX4_matterHere_46 : decode cX4_matterHere 46 = .ok (.ireturn, 1) := by decide +kernel
def fX4_matterHere (n : Nat) (v0 : Nat) (v1 : Nat) (h : qH) : Option (Int32 × qH) :=
  (isO h v0 4).bind fun _ =>
  (gR h v0 4 0).bind fun x1 =>
  (fX6_isName x1 h).bind fun p3 =>
  if p3.1 = 0 then
  ((gR p3.2 v0 4 0).bind fun x16 =>
  (fX6_fail x16 1 p3.2).bind fun h18 =>
  some ((-1), h18))
  else
  ((gR p3.2 v0 4 0).bind fun x5 =>
  (gL p3.2 x5 6 6).bind fun x7 =>
  (fX5_find n v1 x7 p3.2).bind fun p9 =>
  if p9.1 = ((-1)) then
  ((gR p9.2 v0 4 0).bind fun x11 =>
  (fX6_fail x11 2 p9.2).bind fun h13 =>
  some (p9.1, h13))
  else
  (some (p9.1, p9.2)))
theorem obX4_matterHere {n : Nat} {v0 : Nat} {v1 : Nat} {h : qH} {p : Int32 × qH} (hyp : fX4_matterHere n v0 v1 h = some p) : ∃ fs, h.1 v0 = some (.inr (4, fs)) := by
  unfold fX4_matterHere at hyp
  exact q_bind hyp (fun _ e _ => isO_some e)
set_option maxHeartbeats 4000000 in
set_option maxRecDepth 100000 in
theorem okX4_matterHere {l : Launch} {n : Nat} {v0 : Nat} {v1 : Nat} {h : qH} {p : Int32 × qH} (hyp : fX4_matterHere n v0 v1 h = some p) : q_M l 3 yX4_matterHere cX4_matterHere 3 (some .int) [.ref v0, .ref v1] h (some (.int p.1)) p.2 := by
  obtain ⟨r, h'⟩ := p
  unfold fX4_matterHere at hyp
  refine q_bind hyp (fun _ _ hyp => ?_)
  refine q_M.of (by decide) (Nat.le_of_ble_eq_true rfl) ?_
  refine q_to (ls' := [(0, .ref v0), (1, .ref v1)]) (st' := []) rfl rfl ?_
  refine q_aload_n 0 rfl dX4_matterHere_0 ?_
  refine q_bind hyp (fun x1 e2 hyp => ?_)
  refine q_getR kF_X4_9 dX4_matterHere_1 e2 ?_
  refine q_bind hyp (fun p3 e20 hyp => ?_)
  refine q_callV (as := []) (st := []) kY_X6_isName kL_X4_94 (okX6_isName (l := l) e20) (by decide) rfl (obX6_isName e20) (Nat.le_of_ble_eq_true rfl) dX4_matterHere_4 ?_
  refine q_to (ls' := [(0, .ref v0), (1, .ref v1)]) (st' := [.int p3.1]) rfl rfl ?_
  refine q_if_ne (tgt := 20) dX4_matterHere_7 (by decide) (fun c4 => ?_) (fun c4 => ?_)
  · have hyp := q_neg c4 hyp
    refine q_aload_n 1 rfl dX4_matterHere_20 ?_
    refine q_aload_n 0 rfl dX4_matterHere_21 ?_
    refine q_bind hyp (fun x5 e6 hyp => ?_)
    refine q_getR kF_X4_9 dX4_matterHere_22 e6 ?_
    refine q_bind hyp (fun x7 e8 hyp => ?_)
    refine q_getL kF_X4_98 dX4_matterHere_25 e8 ?_
    refine q_bind hyp (fun p9 e15 hyp => ?_)
    refine q_callV (as := [.long x7]) (st := []) kY_X5_find kL_X4_102 (okX5_find (l := l) e15) (by decide) rfl (obX5_find e15) (Nat.le_of_ble_eq_true rfl) dX4_matterHere_28 ?_
    refine q_to (ls' := [(0, .ref v0), (1, .ref v1)]) (st' := [.int p9.1]) rfl rfl ?_
    refine q_istore_n (ls' := [(2, .int p9.1), (0, .ref v0), (1, .ref v1)]) (by decide) rfl dX4_matterHere_31 ?_
    refine q_iload_n 0 rfl dX4_matterHere_32 ?_
    refine q_iconst (x := (-1)) rfl dX4_matterHere_33 ?_
    refine q_icmp_ne (tgt := 45) dX4_matterHere_34 (by decide) (fun c10 => ?_) (fun c10 => ?_)
    · have hyp := q_neg c10 hyp
      refine q_iload_n 0 rfl dX4_matterHere_45 ?_
      exact q_iretH rfl rfl dX4_matterHere_46 hyp
    · have hyp := q_pos c10 hyp
      refine q_aload_n 1 rfl dX4_matterHere_37 ?_
      refine q_bind hyp (fun x11 e12 hyp => ?_)
      refine q_getR kF_X4_9 dX4_matterHere_38 e12 ?_
      refine q_iconst (x := 2) rfl dX4_matterHere_41 ?_
      refine q_bind hyp (fun h13 e14 hyp => ?_)
      refine q_callV (as := [.int 2]) (st := []) kY_X6_fail kL_X4_47 (okX6_fail (l := l) e14) (by decide) rfl (obX6_fail e14) (Nat.le_of_ble_eq_true rfl) dX4_matterHere_42 ?_
      refine q_to (ls' := [(2, .int p9.1), (0, .ref v0), (1, .ref v1)]) (st' := []) rfl rfl ?_
      refine q_iload_n 0 rfl dX4_matterHere_45 ?_
      exact q_iretH rfl rfl dX4_matterHere_46 hyp
  · have hyp := q_pos c4 hyp
    refine q_aload_n 0 rfl dX4_matterHere_10 ?_
    refine q_bind hyp (fun x16 e17 hyp => ?_)
    refine q_getR kF_X4_9 dX4_matterHere_11 e17 ?_
    refine q_iconst (x := 1) rfl dX4_matterHere_14 ?_
    refine q_bind hyp (fun h18 e19 hyp => ?_)
    refine q_callV (as := [.int 1]) (st := []) kY_X6_fail kL_X4_47 (okX6_fail (l := l) e19) (by decide) rfl (obX6_fail e19) (Nat.le_of_ble_eq_true rfl) dX4_matterHere_15 ?_
    refine q_to (ls' := [(0, .ref v0), (1, .ref v1)]) (st' := []) rfl rfl ?_
    refine q_iconst (x := (-1)) rfl dX4_matterHere_18 ?_
    exact q_iretH rfl rfl dX4_matterHere_19 hyp
theorem dX6_isDigit_0 : decode cX6_isDigit 0 = .ok (.iload_n 0, 1) := by decide +kernel
theorem dX6_isDigit_1 : decode cX6_isDigit 1 = .ok (.bipush 48, 2) := by decide +kernel
theorem dX6_isDigit_3 : decode cX6_isDigit 3 = .ok (.if_icmp .lt 13, 3) := by decide +kernel
theorem dX6_isDigit_6 : decode cX6_isDigit 6 = .ok (.iload_n 0, 1) := by decide +kernel
theorem dX6_isDigit_7 : decode cX6_isDigit 7 = .ok (.bipush 57, 2) := by decide +kernel
theorem dX6_isDigit_9 : decode cX6_isDigit 9 = .ok (.if_icmp .gt 7, 3) := by decide +kernel
theorem dX6_isDigit_12 : decode cX6_isDigit 12 = .ok (.iconst 1, 1) := by decide +kernel
theorem dX6_isDigit_13 : decode cX6_isDigit 13 = .ok (.goto 4, 3) := by decide +kernel
theorem dX6_isDigit_16 : decode cX6_isDigit 16 = .ok (.iconst 0, 1) := by decide +kernel
theorem dX6_isDigit_17 : decode cX6_isDigit 17 = .ok (.ireturn, 1) := by decide +kernel
def fX6_isDigit (v0 : Int32) (h : qH) : Option (Int32 × qH) :=
  if v0 < 48 then
  (some (0, h))
  else
  (if 57 < v0 then
  (some (0, h))
  else
  (some (1, h)))
set_option maxHeartbeats 4000000 in
set_option maxRecDepth 100000 in
theorem okX6_isDigit {l : Launch} {v0 : Int32} {h : qH} {p : Int32 × qH} (hyp : fX6_isDigit v0 h = some p) : q_M l 1 yX6_isDigit cX6_isDigit 1 (some .boolean) [.int v0] h (some (.int p.1)) p.2 := by
  obtain ⟨r, h'⟩ := p
  unfold fX6_isDigit at hyp
  refine q_M.of (by decide) (Nat.le_of_ble_eq_true rfl) ?_
  refine q_to (ls' := [(0, .int v0)]) (st' := []) rfl rfl ?_
  refine q_iload_n 0 rfl dX6_isDigit_0 ?_
  refine q_bipush (x := 48) (by decide) dX6_isDigit_1 ?_
  refine q_icmp_lt (tgt := 16) dX6_isDigit_3 (by decide) (fun c1 => ?_) (fun c1 => ?_)
  · have hyp := q_pos c1 hyp
    refine q_iconst (x := 0) rfl dX6_isDigit_16 ?_
    exact q_iretH rfl rfl dX6_isDigit_17 hyp
  · have hyp := q_neg c1 hyp
    refine q_iload_n 0 rfl dX6_isDigit_6 ?_
    refine q_bipush (x := 57) (by decide) dX6_isDigit_7 ?_
    refine q_icmp_gt (tgt := 16) dX6_isDigit_9 (by decide) (fun c2 => ?_) (fun c2 => ?_)
    · have hyp := q_pos c2 hyp
      refine q_iconst (x := 0) rfl dX6_isDigit_16 ?_
      exact q_iretH rfl rfl dX6_isDigit_17 hyp
    · have hyp := q_neg c2 hyp
      refine q_iconst (x := 1) rfl dX6_isDigit_12 ?_
      refine q_goto (tgt := 17) dX6_isDigit_13 (by decide) ?_
      exact q_iretH rfl rfl dX6_isDigit_17 hyp
theorem dX6_isLetter_0 : decode cX6_isLetter 0 = .ok (.iload_n 0, 1) := by decide +kernel
theorem dX6_isLetter_1 : decode cX6_isLetter 1 = .ok (.bipush 97, 2) := by decide +kernel
theorem dX6_isLetter_3 : decode cX6_isLetter 3 = .ok (.if_icmp .lt 13, 3) := by decide +kernel
theorem dX6_isLetter_6 : decode cX6_isLetter 6 = .ok (.iload_n 0, 1) := by decide +kernel
theorem dX6_isLetter_7 : decode cX6_isLetter 7 = .ok (.bipush 122, 2) := by decide +kernel
theorem dX6_isLetter_9 : decode cX6_isLetter 9 = .ok (.if_icmp .gt 7, 3) := by decide +kernel
theorem dX6_isLetter_12 : decode cX6_isLetter 12 = .ok (.iconst 1, 1) := by decide +kernel
theorem dX6_isLetter_13 : decode cX6_isLetter 13 = .ok (.goto 4, 3) := by decide +kernel
theorem dX6_isLetter_16 : decode cX6_isLetter 16 = .ok (.iconst 0, 1) := by decide +kernel
theorem dX6_isLetter_17 : decode cX6_isLetter 17 = .ok (.ireturn, 1) := by decide +kernel
def fX6_isLetter (v0 : Int32) (h : qH) : Option (Int32 × qH) :=
  if v0 < 97 then
  (some (0, h))
  else
  (if 122 < v0 then
  (some (0, h))
  else
  (some (1, h)))
set_option maxHeartbeats 4000000 in
set_option maxRecDepth 100000 in
theorem okX6_isLetter {l : Launch} {v0 : Int32} {h : qH} {p : Int32 × qH} (hyp : fX6_isLetter v0 h = some p) : q_M l 1 yX6_isLetter cX6_isLetter 1 (some .boolean) [.int v0] h (some (.int p.1)) p.2 := by
  obtain ⟨r, h'⟩ := p
  unfold fX6_isLetter at hyp
  refine q_M.of (by decide) (Nat.le_of_ble_eq_true rfl) ?_
  refine q_to (ls' := [(0, .int v0)]) (st' := []) rfl rfl ?_
  refine q_iload_n 0 rfl dX6_isLetter_0 ?_
  refine q_bipush (x := 97) (by decide) dX6_isLetter_1 ?_
  refine q_icmp_lt (tgt := 16) dX6_isLetter_3 (by decide) (fun c1 => ?_) (fun c1 => ?_)
  · have hyp := q_pos c1 hyp
    refine q_iconst (x := 0) rfl dX6_isLetter_16 ?_
    exact q_iretH rfl rfl dX6_isLetter_17 hyp
  · have hyp := q_neg c1 hyp
    refine q_iload_n 0 rfl dX6_isLetter_6 ?_
    refine q_bipush (x := 122) (by decide) dX6_isLetter_7 ?_
    refine q_icmp_gt (tgt := 16) dX6_isLetter_9 (by decide) (fun c2 => ?_) (fun c2 => ?_)
    · have hyp := q_pos c2 hyp
      refine q_iconst (x := 0) rfl dX6_isLetter_16 ?_
      exact q_iretH rfl rfl dX6_isLetter_17 hyp
    · have hyp := q_neg c2 hyp
      refine q_iconst (x := 1) rfl dX6_isLetter_12 ?_
      refine q_goto (tgt := 17) dX6_isLetter_13 (by decide) ?_
      exact q_iretH rfl rfl dX6_isLetter_17 hyp
theorem dX6_isSign_0 : decode cX6_isSign 0 = .ok (.iload_n 0, 1) := by decide +kernel
theorem dX6_isSign_1 : decode cX6_isSign 1 = .ok (.tableswitch 105 40 61 #[103, 103, 103, 103, 105, 103, 105, 105, 105, 105, 105, 105, 105, 105, 105, 105, 105, 105, 105, 103, 103, 103], 103) := by decide +kernel
theorem dX6_isSign_104 : decode cX6_isSign 104 = .ok (.iconst 1, 1) := by decide +kernel
theorem dX6_isSign_105 : decode cX6_isSign 105 = .ok (.ireturn, 1) := by decide +kernel
theorem dX6_isSign_106 : decode cX6_isSign 106 = .ok (.iconst 0, 1) := by decide +kernel
theorem dX6_isSign_107 : decode cX6_isSign 107 = .ok (.ireturn, 1) := by decide +kernel
def fX6_isSign (v0 : Int32) (h : qH) : Option (Int32 × qH) :=
  if v0 = 40 then
  (some (1, h))
  else
  (if v0 = 41 then
  (some (1, h))
  else
  (if v0 = 42 then
  (some (1, h))
  else
  (if v0 = 43 then
  (some (1, h))
  else
  (if v0 = 44 then
  (some (0, h))
  else
  (if v0 = 45 then
  (some (1, h))
  else
  (if v0 = 46 then
  (some (0, h))
  else
  (if v0 = 47 then
  (some (0, h))
  else
  (if v0 = 48 then
  (some (0, h))
  else
  (if v0 = 49 then
  (some (0, h))
  else
  (if v0 = 50 then
  (some (0, h))
  else
  (if v0 = 51 then
  (some (0, h))
  else
  (if v0 = 52 then
  (some (0, h))
  else
  (if v0 = 53 then
  (some (0, h))
  else
  (if v0 = 54 then
  (some (0, h))
  else
  (if v0 = 55 then
  (some (0, h))
  else
  (if v0 = 56 then
  (some (0, h))
  else
  (if v0 = 57 then
  (some (0, h))
  else
  (if v0 = 58 then
  (some (0, h))
  else
  (if v0 = 59 then
  (some (1, h))
  else
  (if v0 = 60 then
  (some (1, h))
  else
  (if v0 = 61 then
  (some (1, h))
  else
  (some (0, h)))))))))))))))))))))))
set_option maxHeartbeats 4000000 in
set_option maxRecDepth 100000 in
theorem okX6_isSign {l : Launch} {v0 : Int32} {h : qH} {p : Int32 × qH} (hyp : fX6_isSign v0 h = some p) : q_M l 1 yX6_isSign cX6_isSign 1 (some .boolean) [.int v0] h (some (.int p.1)) p.2 := by
  obtain ⟨r, h'⟩ := p
  unfold fX6_isSign at hyp
  refine q_M.of (by decide) (Nat.le_of_ble_eq_true rfl) ?_
  refine q_to (ls' := [(0, .int v0)]) (st' := []) rfl rfl ?_
  refine q_iload_n 0 rfl dX6_isSign_0 ?_
  refine q_ite hyp (fun c1 hyp => ?_) (fun c1 hyp => ?_)
  · refine q_tableIn (off := 103) (tgt := 104) dX6_isSign_1 (by rw [c1]; decide) (by rw [c1]; decide) (by rw [c1]; rfl) (by decide) ?_
    refine q_iconst (x := 1) rfl dX6_isSign_104 ?_
    exact q_iretH rfl rfl dX6_isSign_105 hyp
  · refine q_ite hyp (fun c2 hyp => ?_) (fun c2 hyp => ?_)
    · refine q_tableIn (off := 103) (tgt := 104) dX6_isSign_1 (by rw [c2]; decide) (by rw [c2]; decide) (by rw [c2]; rfl) (by decide) ?_
      refine q_iconst (x := 1) rfl dX6_isSign_104 ?_
      exact q_iretH rfl rfl dX6_isSign_105 hyp
    · refine q_ite hyp (fun c3 hyp => ?_) (fun c3 hyp => ?_)
      · refine q_tableIn (off := 103) (tgt := 104) dX6_isSign_1 (by rw [c3]; decide) (by rw [c3]; decide) (by rw [c3]; rfl) (by decide) ?_
        refine q_iconst (x := 1) rfl dX6_isSign_104 ?_
        exact q_iretH rfl rfl dX6_isSign_105 hyp
      · refine q_ite hyp (fun c4 hyp => ?_) (fun c4 hyp => ?_)
        · refine q_tableIn (off := 103) (tgt := 104) dX6_isSign_1 (by rw [c4]; decide) (by rw [c4]; decide) (by rw [c4]; rfl) (by decide) ?_
          refine q_iconst (x := 1) rfl dX6_isSign_104 ?_
          exact q_iretH rfl rfl dX6_isSign_105 hyp
        · refine q_ite hyp (fun c5 hyp => ?_) (fun c5 hyp => ?_)
          · refine q_tableIn (off := 105) (tgt := 106) dX6_isSign_1 (by rw [c5]; decide) (by rw [c5]; decide) (by rw [c5]; rfl) (by decide) ?_
            refine q_iconst (x := 0) rfl dX6_isSign_106 ?_
            exact q_iretH rfl rfl dX6_isSign_107 hyp
          · refine q_ite hyp (fun c6 hyp => ?_) (fun c6 hyp => ?_)
            · refine q_tableIn (off := 103) (tgt := 104) dX6_isSign_1 (by rw [c6]; decide) (by rw [c6]; decide) (by rw [c6]; rfl) (by decide) ?_
              refine q_iconst (x := 1) rfl dX6_isSign_104 ?_
              exact q_iretH rfl rfl dX6_isSign_105 hyp
            · refine q_ite hyp (fun c7 hyp => ?_) (fun c7 hyp => ?_)
              · refine q_tableIn (off := 105) (tgt := 106) dX6_isSign_1 (by rw [c7]; decide) (by rw [c7]; decide) (by rw [c7]; rfl) (by decide) ?_
                refine q_iconst (x := 0) rfl dX6_isSign_106 ?_
                exact q_iretH rfl rfl dX6_isSign_107 hyp
              · refine q_ite hyp (fun c8 hyp => ?_) (fun c8 hyp => ?_)
                · refine q_tableIn (off := 105) (tgt := 106) dX6_isSign_1 (by rw [c8]; decide) (by rw [c8]; decide) (by rw [c8]; rfl) (by decide) ?_
                  refine q_iconst (x := 0) rfl dX6_isSign_106 ?_
                  exact q_iretH rfl rfl dX6_isSign_107 hyp
                · refine q_ite hyp (fun c9 hyp => ?_) (fun c9 hyp => ?_)
                  · refine q_tableIn (off := 105) (tgt := 106) dX6_isSign_1 (by rw [c9]; decide) (by rw [c9]; decide) (by rw [c9]; rfl) (by decide) ?_
                    refine q_iconst (x := 0) rfl dX6_isSign_106 ?_
                    exact q_iretH rfl rfl dX6_isSign_107 hyp
                  · refine q_ite hyp (fun c10 hyp => ?_) (fun c10 hyp => ?_)
                    · refine q_tableIn (off := 105) (tgt := 106) dX6_isSign_1 (by rw [c10]; decide) (by rw [c10]; decide) (by rw [c10]; rfl) (by decide) ?_
                      refine q_iconst (x := 0) rfl dX6_isSign_106 ?_
                      exact q_iretH rfl rfl dX6_isSign_107 hyp
                    · refine q_ite hyp (fun c11 hyp => ?_) (fun c11 hyp => ?_)
                      · refine q_tableIn (off := 105) (tgt := 106) dX6_isSign_1 (by rw [c11]; decide) (by rw [c11]; decide) (by rw [c11]; rfl) (by decide) ?_
                        refine q_iconst (x := 0) rfl dX6_isSign_106 ?_
                        exact q_iretH rfl rfl dX6_isSign_107 hyp
                      · refine q_ite hyp (fun c12 hyp => ?_) (fun c12 hyp => ?_)
                        · refine q_tableIn (off := 105) (tgt := 106) dX6_isSign_1 (by rw [c12]; decide) (by rw [c12]; decide) (by rw [c12]; rfl) (by decide) ?_
                          refine q_iconst (x := 0) rfl dX6_isSign_106 ?_
                          exact q_iretH rfl rfl dX6_isSign_107 hyp
                        · refine q_ite hyp (fun c13 hyp => ?_) (fun c13 hyp => ?_)
                          · refine q_tableIn (off := 105) (tgt := 106) dX6_isSign_1 (by rw [c13]; decide) (by rw [c13]; decide) (by rw [c13]; rfl) (by decide) ?_
                            refine q_iconst (x := 0) rfl dX6_isSign_106 ?_
                            exact q_iretH rfl rfl dX6_isSign_107 hyp
                          · refine q_ite hyp (fun c14 hyp => ?_) (fun c14 hyp => ?_)
                            · refine q_tableIn (off := 105) (tgt := 106) dX6_isSign_1 (by rw [c14]; decide) (by rw [c14]; decide) (by rw [c14]; rfl) (by decide) ?_
                              refine q_iconst (x := 0) rfl dX6_isSign_106 ?_
                              exact q_iretH rfl rfl dX6_isSign_107 hyp
                            · refine q_ite hyp (fun c15 hyp => ?_) (fun c15 hyp => ?_)
                              · refine q_tableIn (off := 105) (tgt := 106) dX6_isSign_1 (by rw [c15]; decide) (by rw [c15]; decide) (by rw [c15]; rfl) (by decide) ?_
                                refine q_iconst (x := 0) rfl dX6_isSign_106 ?_
                                exact q_iretH rfl rfl dX6_isSign_107 hyp
                              · refine q_ite hyp (fun c16 hyp => ?_) (fun c16 hyp => ?_)
                                · refine q_tableIn (off := 105) (tgt := 106) dX6_isSign_1 (by rw [c16]; decide) (by rw [c16]; decide) (by rw [c16]; rfl) (by decide) ?_
                                  refine q_iconst (x := 0) rfl dX6_isSign_106 ?_
                                  exact q_iretH rfl rfl dX6_isSign_107 hyp
                                · refine q_ite hyp (fun c17 hyp => ?_) (fun c17 hyp => ?_)
                                  · refine q_tableIn (off := 105) (tgt := 106) dX6_isSign_1 (by rw [c17]; decide) (by rw [c17]; decide) (by rw [c17]; rfl) (by decide) ?_
                                    refine q_iconst (x := 0) rfl dX6_isSign_106 ?_
                                    exact q_iretH rfl rfl dX6_isSign_107 hyp
                                  · refine q_ite hyp (fun c18 hyp => ?_) (fun c18 hyp => ?_)
                                    · refine q_tableIn (off := 105) (tgt := 106) dX6_isSign_1 (by rw [c18]; decide) (by rw [c18]; decide) (by rw [c18]; rfl) (by decide) ?_
                                      refine q_iconst (x := 0) rfl dX6_isSign_106 ?_
                                      exact q_iretH rfl rfl dX6_isSign_107 hyp
                                    · refine q_ite hyp (fun c19 hyp => ?_) (fun c19 hyp => ?_)
                                      · refine q_tableIn (off := 105) (tgt := 106) dX6_isSign_1 (by rw [c19]; decide) (by rw [c19]; decide) (by rw [c19]; rfl) (by decide) ?_
                                        refine q_iconst (x := 0) rfl dX6_isSign_106 ?_
                                        exact q_iretH rfl rfl dX6_isSign_107 hyp
                                      · refine q_ite hyp (fun c20 hyp => ?_) (fun c20 hyp => ?_)
                                        · refine q_tableIn (off := 103) (tgt := 104) dX6_isSign_1 (by rw [c20]; decide) (by rw [c20]; decide) (by rw [c20]; rfl) (by decide) ?_
                                          refine q_iconst (x := 1) rfl dX6_isSign_104 ?_
                                          exact q_iretH rfl rfl dX6_isSign_105 hyp
                                        · refine q_ite hyp (fun c21 hyp => ?_) (fun c21 hyp => ?_)
                                          · refine q_tableIn (off := 103) (tgt := 104) dX6_isSign_1 (by rw [c21]; decide) (by rw [c21]; decide) (by rw [c21]; rfl) (by decide) ?_
                                            refine q_iconst (x := 1) rfl dX6_isSign_104 ?_
                                            exact q_iretH rfl rfl dX6_isSign_105 hyp
                                          · refine q_ite hyp (fun c22 hyp => ?_) (fun c22 hyp => ?_)
                                            · refine q_tableIn (off := 103) (tgt := 104) dX6_isSign_1 (by rw [c22]; decide) (by rw [c22]; decide) (by rw [c22]; rfl) (by decide) ?_
                                              refine q_iconst (x := 1) rfl dX6_isSign_104 ?_
                                              exact q_iretH rfl rfl dX6_isSign_105 hyp
                                            · have zc1 := q_ni c1
                                              have zc2 := q_ni c2
                                              have zc3 := q_ni c3
                                              have zc4 := q_ni c4
                                              have zc5 := q_ni c5
                                              have zc6 := q_ni c6
                                              have zc7 := q_ni c7
                                              have zc8 := q_ni c8
                                              have zc9 := q_ni c9
                                              have zc10 := q_ni c10
                                              have zc11 := q_ni c11
                                              have zc12 := q_ni c12
                                              have zc13 := q_ni c13
                                              have zc14 := q_ni c14
                                              have zc15 := q_ni c15
                                              have zc16 := q_ni c16
                                              have zc17 := q_ni c17
                                              have zc18 := q_ni c18
                                              have zc19 := q_ni c19
                                              have zc20 := q_ni c20
                                              have zc21 := q_ni c21
                                              have zc22 := q_ni c22
                                              have zz : v0.toInt < 40 ∨ 61 < v0.toInt := by
                                                rw [show (40 : Int32).toInt = 40 from rfl] at zc1
                                                rw [show (41 : Int32).toInt = 41 from rfl] at zc2
                                                rw [show (42 : Int32).toInt = 42 from rfl] at zc3
                                                rw [show (43 : Int32).toInt = 43 from rfl] at zc4
                                                rw [show (44 : Int32).toInt = 44 from rfl] at zc5
                                                rw [show (45 : Int32).toInt = 45 from rfl] at zc6
                                                rw [show (46 : Int32).toInt = 46 from rfl] at zc7
                                                rw [show (47 : Int32).toInt = 47 from rfl] at zc8
                                                rw [show (48 : Int32).toInt = 48 from rfl] at zc9
                                                rw [show (49 : Int32).toInt = 49 from rfl] at zc10
                                                rw [show (50 : Int32).toInt = 50 from rfl] at zc11
                                                rw [show (51 : Int32).toInt = 51 from rfl] at zc12
                                                rw [show (52 : Int32).toInt = 52 from rfl] at zc13
                                                rw [show (53 : Int32).toInt = 53 from rfl] at zc14
                                                rw [show (54 : Int32).toInt = 54 from rfl] at zc15
                                                rw [show (55 : Int32).toInt = 55 from rfl] at zc16
                                                rw [show (56 : Int32).toInt = 56 from rfl] at zc17
                                                rw [show (57 : Int32).toInt = 57 from rfl] at zc18
                                                rw [show (58 : Int32).toInt = 58 from rfl] at zc19
                                                rw [show (59 : Int32).toInt = 59 from rfl] at zc20
                                                rw [show (60 : Int32).toInt = 60 from rfl] at zc21
                                                rw [show (61 : Int32).toInt = 61 from rfl] at zc22
                                                omega
                                              refine q_tableOut (tgt := 106) dX6_isSign_1 zz (by decide) ?_
                                              refine q_iconst (x := 0) rfl dX6_isSign_106 ?_
                                              exact q_iretH rfl rfl dX6_isSign_107 hyp
theorem dX6_signAt_0 : decode cX6_signAt 0 = .ok (.iload_n 1, 1) := by decide +kernel
theorem dX6_signAt_1 : decode cX6_signAt 1 = .ok (.ifCond .lt 29, 3) := by decide +kernel
theorem dX6_signAt_4 : decode cX6_signAt 4 = .ok (.iload_n 1, 1) := by decide +kernel
theorem dX6_signAt_5 : decode cX6_signAt 5 = .ok (.aload_n 0, 1) := by decide +kernel
theorem dX6_signAt_6 : decode cX6_signAt 6 = .ok (.getfield 19, 3) := by decide +kernel
theorem dX6_signAt_9 : decode cX6_signAt 9 = .ok (.if_icmp .ge 21, 3) := by decide +kernel
theorem dX6_signAt_12 : decode cX6_signAt 12 = .ok (.iload_n 1, 1) := by decide +kernel
theorem dX6_signAt_13 : decode cX6_signAt 13 = .ok (.aload_n 0, 1) := by decide +kernel
theorem dX6_signAt_14 : decode cX6_signAt 14 = .ok (.getfield 9, 3) := by decide +kernel
theorem dX6_signAt_17 : decode cX6_signAt 17 = .ok (.arraylength, 1) := by decide +kernel
theorem dX6_signAt_18 : decode cX6_signAt 18 = .ok (.if_icmp .ge 12, 3) := by decide +kernel
theorem dX6_signAt_21 : decode cX6_signAt 21 = .ok (.aload_n 0, 1) := by decide +kernel
theorem dX6_signAt_22 : decode cX6_signAt 22 = .ok (.getfield 9, 3) := by decide +kernel
theorem dX6_signAt_25 : decode cX6_signAt 25 = .ok (.iload_n 1, 1) := by decide +kernel
theorem dX6_signAt_26 : decode cX6_signAt 26 = .ok (.caload, 1) := by decide +kernel
theorem dX6_signAt_27 : decode cX6_signAt 27 = .ok (.goto 4, 3) := by decide +kernel
theorem dX6_signAt_30 : decode cX6_signAt 30 = .ok (.iconst 0, 1) := by decide +kernel
theorem dX6_signAt_31 : decode cX6_signAt 31 = .ok (.ireturn, 1) := by decide +kernel
def fX6_signAt (v0 : Nat) (v1 : Int32) (h : qH) : Option (Int32 × qH) :=
  (isO h v0 6).bind fun _ =>
  if v1 < 0 then
  (some (0, h))
  else
  ((gI h v0 6 1).bind fun x2 =>
  if x2 ≤ v1 then
  (some (0, h))
  else
  ((gR h v0 6 0).bind fun x5 =>
  (aN h x5).bind fun x7 =>
  if x7 ≤ v1 then
  (some (0, h))
  else
  ((gR h v0 6 0).bind fun x10 =>
  (aI .char h x10 v1).bind fun x12 =>
  some (x12, h))))
theorem obX6_signAt {v0 : Nat} {v1 : Int32} {h : qH} {p : Int32 × qH} (hyp : fX6_signAt v0 v1 h = some p) : ∃ fs, h.1 v0 = some (.inr (6, fs)) := by
  unfold fX6_signAt at hyp
  exact q_bind hyp (fun _ e _ => isO_some e)
set_option maxHeartbeats 4000000 in
set_option maxRecDepth 100000 in
theorem okX6_signAt {l : Launch} {v0 : Nat} {v1 : Int32} {h : qH} {p : Int32 × qH} (hyp : fX6_signAt v0 v1 h = some p) : q_M l 1 yX6_signAt cX6_signAt 2 (some .int) [.ref v0, .int v1] h (some (.int p.1)) p.2 := by
  obtain ⟨r, h'⟩ := p
  unfold fX6_signAt at hyp
  refine q_bind hyp (fun _ _ hyp => ?_)
  refine q_M.of (by decide) (Nat.le_of_ble_eq_true rfl) ?_
  refine q_to (ls' := [(0, .ref v0), (1, .int v1)]) (st' := []) rfl rfl ?_
  refine q_iload_n 1 rfl dX6_signAt_0 ?_
  refine q_if_lt (tgt := 30) dX6_signAt_1 (by decide) (fun c1 => ?_) (fun c1 => ?_)
  · have hyp := q_pos c1 hyp
    refine q_iconst (x := 0) rfl dX6_signAt_30 ?_
    exact q_iretH rfl rfl dX6_signAt_31 hyp
  · have hyp := q_neg c1 hyp
    refine q_iload_n 1 rfl dX6_signAt_4 ?_
    refine q_aload_n 0 rfl dX6_signAt_5 ?_
    refine q_bind hyp (fun x2 e3 hyp => ?_)
    refine q_getI kF_X6_19 dX6_signAt_6 e3 ?_
    refine q_icmp_ge (tgt := 30) dX6_signAt_9 (by decide) (fun c4 => ?_) (fun c4 => ?_)
    · have hyp := q_pos c4 hyp
      refine q_iconst (x := 0) rfl dX6_signAt_30 ?_
      exact q_iretH rfl rfl dX6_signAt_31 hyp
    · have hyp := q_neg c4 hyp
      refine q_iload_n 1 rfl dX6_signAt_12 ?_
      refine q_aload_n 0 rfl dX6_signAt_13 ?_
      refine q_bind hyp (fun x5 e6 hyp => ?_)
      refine q_getR kF_X6_9 dX6_signAt_14 e6 ?_
      refine q_bind hyp (fun x7 e8 hyp => ?_)
      refine q_alen dX6_signAt_17 e8 ?_
      refine q_icmp_ge (tgt := 30) dX6_signAt_18 (by decide) (fun c9 => ?_) (fun c9 => ?_)
      · have hyp := q_pos c9 hyp
        refine q_iconst (x := 0) rfl dX6_signAt_30 ?_
        exact q_iretH rfl rfl dX6_signAt_31 hyp
      · have hyp := q_neg c9 hyp
        refine q_aload_n 0 rfl dX6_signAt_21 ?_
        refine q_bind hyp (fun x10 e11 hyp => ?_)
        refine q_getR kF_X6_9 dX6_signAt_22 e11 ?_
        refine q_iload_n 1 rfl dX6_signAt_25 ?_
        refine q_bind hyp (fun x12 e13 hyp => ?_)
        refine q_cald dX6_signAt_26 e13 ?_
        refine q_goto (tgt := 31) dX6_signAt_27 (by decide) ?_
        exact q_iretH rfl rfl dX6_signAt_31 hyp
theorem dX6_readNumber_0 : decode cX6_readNumber 0 = .ok (.aload_n 0, 1) := by decide +kernel
theorem dX6_readNumber_1 : decode cX6_readNumber 1 = .ok (.iconst 0, 1) := by decide +kernel
theorem dX6_readNumber_2 : decode cX6_readNumber 2 = .ok (.putfield 51, 3) := by decide +kernel
theorem dX6_readNumber_5 : decode cX6_readNumber 5 = .ok (.iconst 0, 1) := by decide +kernel
theorem dX6_readNumber_6 : decode cX6_readNumber 6 = .ok (.istore_n 1, 1) := by decide +kernel
theorem dX6_readNumber_7 : decode cX6_readNumber 7 = .ok (.iload_n 1, 1) := by decide +kernel
theorem dX6_readNumber_8 : decode cX6_readNumber 8 = .ok (.sipush 1000, 3) := by decide +kernel
theorem dX6_readNumber_11 : decode cX6_readNumber 11 = .ok (.if_icmp .ge 56, 3) := by decide +kernel
theorem dX6_readNumber_14 : decode cX6_readNumber 14 = .ok (.aload_n 0, 1) := by decide +kernel
theorem dX6_readNumber_15 : decode cX6_readNumber 15 = .ok (.aload_n 0, 1) := by decide +kernel
theorem dX6_readNumber_16 : decode cX6_readNumber 16 = .ok (.getfield 23, 3) := by decide +kernel
theorem dX6_readNumber_19 : decode cX6_readNumber 19 = .ok (.invokevirtual 58, 3) := by decide +kernel
theorem dX6_readNumber_22 : decode cX6_readNumber 22 = .ok (.invokestatic 68, 3) := by decide +kernel
theorem dX6_readNumber_25 : decode cX6_readNumber 25 = .ok (.ifCond .eq 42, 3) := by decide +kernel
theorem dX6_readNumber_28 : decode cX6_readNumber 28 = .ok (.aload_n 0, 1) := by decide +kernel
theorem dX6_readNumber_29 : decode cX6_readNumber 29 = .ok (.aload_n 0, 1) := by decide +kernel
theorem dX6_readNumber_30 : decode cX6_readNumber 30 = .ok (.getfield 51, 3) := by decide +kernel
theorem dX6_readNumber_33 : decode cX6_readNumber 33 = .ok (.bipush 10, 2) := by decide +kernel
theorem dX6_readNumber_35 : decode cX6_readNumber 35 = .ok (.imul, 1) := by decide +kernel
theorem dX6_readNumber_36 : decode cX6_readNumber 36 = .ok (.aload_n 0, 1) := by decide +kernel
theorem dX6_readNumber_37 : decode cX6_readNumber 37 = .ok (.aload_n 0, 1) := by decide +kernel
theorem dX6_readNumber_38 : decode cX6_readNumber 38 = .ok (.getfield 23, 3) := by decide +kernel
theorem dX6_readNumber_41 : decode cX6_readNumber 41 = .ok (.invokevirtual 58, 3) := by decide +kernel
theorem dX6_readNumber_44 : decode cX6_readNumber 44 = .ok (.bipush 48, 2) := by decide +kernel
theorem dX6_readNumber_46 : decode cX6_readNumber 46 = .ok (.isub, 1) := by decide +kernel
theorem dX6_readNumber_47 : decode cX6_readNumber 47 = .ok (.iadd, 1) := by decide +kernel
theorem dX6_readNumber_48 : decode cX6_readNumber 48 = .ok (.putfield 51, 3) := by decide +kernel
theorem dX6_readNumber_51 : decode cX6_readNumber 51 = .ok (.aload_n 0, 1) := by decide +kernel
theorem dX6_readNumber_52 : decode cX6_readNumber 52 = .ok (.dup, 1) := by decide +kernel
theorem dX6_readNumber_53 : decode cX6_readNumber 53 = .ok (.getfield 23, 3) := by decide +kernel
theorem dX6_readNumber_56 : decode cX6_readNumber 56 = .ok (.iconst 1, 1) := by decide +kernel
theorem dX6_readNumber_57 : decode cX6_readNumber 57 = .ok (.iadd, 1) := by decide +kernel
theorem dX6_readNumber_58 : decode cX6_readNumber 58 = .ok (.putfield 23, 3) := by decide +kernel
theorem dX6_readNumber_61 : decode cX6_readNumber 61 = .ok (.iinc 1 1, 3) := by decide +kernel
theorem dX6_readNumber_64 : decode cX6_readNumber 64 = .ok (.goto (-57), 3) := by decide +kernel
theorem dX6_readNumber_67 : decode cX6_readNumber 67 = .ok (.aload_n 0, 1) := by decide +kernel
theorem dX6_readNumber_68 : decode cX6_readNumber 68 = .ok (.aload_n 0, 1) := by decide +kernel
theorem dX6_readNumber_69 : decode cX6_readNumber 69 = .ok (.getfield 23, 3) := by decide +kernel
theorem dX6_readNumber_72 : decode cX6_readNumber 72 = .ok (.aload_n 0, 1) := by decide +kernel
theorem dX6_readNumber_73 : decode cX6_readNumber 73 = .ok (.getfield 32, 3) := by decide +kernel
theorem dX6_readNumber_76 : decode cX6_readNumber 76 = .ok (.isub, 1) := by decide +kernel
theorem dX6_readNumber_77 : decode cX6_readNumber 77 = .ok (.iconst 4, 1) := by decide +kernel
theorem dX6_readNumber_78 : decode cX6_readNumber 78 = .ok (.if_icmp .gt 7, 3) := by decide +kernel
theorem dX6_readNumber_81 : decode cX6_readNumber 81 = .ok (.iconst 3, 1) := by decide +kernel
theorem dX6_readNumber_82 : decode cX6_readNumber 82 = .ok (.goto 4, 3) := by decide +kernel
theorem dX6_readNumber_85 : decode cX6_readNumber 85 = .ok (.iconst 1, 1) := by decide +kernel
theorem dX6_readNumber_86 : decode cX6_readNumber 86 = .ok (.putfield 35, 3) := by decide +kernel
theorem dX6_readNumber_89 : decode cX6_readNumber 89 = .ok (.return_, 1) := by decide +kernel
def fX6_readNumber_b86 (n : Nat) (s0 : Int32) (s1 : Nat) (h : qH) : Option (qH) :=
  (pF h s1 6 4 (.int s0)).bind fun h1 =>
  some h1
set_option maxHeartbeats 4000000 in
set_option maxRecDepth 100000 in
theorem okX6_readNumber_b86 {l : Launch} {n : Nat} {s0 : Int32} {s1 : Nat} {h : qH} {h' : qH} (hyp : fX6_readNumber_b86 n s0 s1 h = some h') : q_W l 2 yX6_readNumber cX6_readNumber 2 none none h' 86 [] [.int s0, .ref s1] h := by
  unfold fX6_readNumber_b86 at hyp
  refine q_bind hyp (fun h1 e2 hyp => ?_)
  refine q_putF kF_X6_35 (fun _ => ⟨rfl, rfl⟩) dX6_readNumber_86 e2 ?_
  exact q_vretH rfl dX6_readNumber_89 hyp
def fX6_readNumber_b67 (n : Nat) (v0 : Nat) (h : qH) : Option (qH) :=
  (gI h v0 6 2).bind fun x1 =>
  (gI h v0 6 3).bind fun x3 =>
  if 4 < (x1 - x3) then
  (fX6_readNumber_b86 n 1 v0 h)
  else
  (fX6_readNumber_b86 n 3 v0 h)
set_option maxHeartbeats 4000000 in
set_option maxRecDepth 100000 in
theorem okX6_readNumber_b67 {l : Launch} {n : Nat} {v0 : Nat} {h : qH} {h' : qH} (hyp : fX6_readNumber_b67 n v0 h = some h') : q_W l 2 yX6_readNumber cX6_readNumber 2 none none h' 67 [(0, .ref v0)] [] h := by
  unfold fX6_readNumber_b67 at hyp
  refine q_aload_n 0 rfl dX6_readNumber_67 ?_
  refine q_aload_n 0 rfl dX6_readNumber_68 ?_
  refine q_bind hyp (fun x1 e2 hyp => ?_)
  refine q_getI kF_X6_23 dX6_readNumber_69 e2 ?_
  refine q_aload_n 0 rfl dX6_readNumber_72 ?_
  refine q_bind hyp (fun x3 e4 hyp => ?_)
  refine q_getI kF_X6_32 dX6_readNumber_73 e4 ?_
  refine q_isub dX6_readNumber_76 ?_
  refine q_iconst (x := 4) rfl dX6_readNumber_77 ?_
  refine q_icmp_gt (tgt := 85) dX6_readNumber_78 (by decide) (fun c5 => ?_) (fun c5 => ?_)
  · have hyp := q_pos c5 hyp
    refine q_iconst (x := 1) rfl dX6_readNumber_85 ?_
    exact q_sub [] rfl (okX6_readNumber_b86 hyp)
  · have hyp := q_neg c5 hyp
    refine q_iconst (x := 3) rfl dX6_readNumber_81 ?_
    refine q_goto (tgt := 86) dX6_readNumber_82 (by decide) ?_
    exact q_sub [] rfl (okX6_readNumber_b86 hyp)
def fX6_readNumber_b7 (n : Nat) : Nat → Nat → Int32 → qH → Option (qH)
  | 0, _, _, _ => none
  | w + 1, v0, v1, h =>
    if 1000 ≤ v1 then
    (fX6_readNumber_b67 n v0 h)
    else
    ((gI h v0 6 2).bind fun x2 =>
    (fX6_signAt v0 x2 h).bind fun p4 =>
    (fX6_isDigit p4.1 p4.2).bind fun p5 =>
    if p5.1 = 0 then
    (fX6_readNumber_b67 n v0 p5.2)
    else
    ((gI p5.2 v0 6 5).bind fun x7 =>
    (gI p5.2 v0 6 2).bind fun x9 =>
    (fX6_signAt v0 x9 p5.2).bind fun p11 =>
    (pF p11.2 v0 6 5 (.int ((x7 * 10) + (p11.1 - 48)))).bind fun h12 =>
    (gI h12 v0 6 2).bind fun x14 =>
    (pF h12 v0 6 2 (.int (x14 + 1))).bind fun h16 =>
    fX6_readNumber_b7 n w v0 (v1 + 1) h16))
set_option maxHeartbeats 4000000 in
set_option maxRecDepth 100000 in
theorem okX6_readNumber_b7 {l : Launch} {n : Nat} {h' : qH} : ∀ (w : Nat) (v0 : Nat) (v1 : Int32) (h : qH), fX6_readNumber_b7 n w v0 v1 h = some h' → q_W l 2 yX6_readNumber cX6_readNumber 2 none none h' 7 [(0, .ref v0), (1, .int v1)] [] h := by
  intro w
  induction w with
  | zero => intro v0 v1 h hyp; cases hyp
  | succ w ih =>
    intro v0 v1 h hyp
    unfold fX6_readNumber_b7 at hyp
    refine q_iload_n 1 rfl dX6_readNumber_7 ?_
    refine q_sipush (x := 1000) (by decide) dX6_readNumber_8 ?_
    refine q_icmp_ge (tgt := 67) dX6_readNumber_11 (by decide) (fun c1 => ?_) (fun c1 => ?_)
    · have hyp := q_pos c1 hyp
      exact q_sub [0] rfl (okX6_readNumber_b67 hyp)
    · have hyp := q_neg c1 hyp
      refine q_aload_n 0 rfl dX6_readNumber_14 ?_
      refine q_aload_n 0 rfl dX6_readNumber_15 ?_
      refine q_bind hyp (fun x2 e3 hyp => ?_)
      refine q_getI kF_X6_23 dX6_readNumber_16 e3 ?_
      refine q_bind hyp (fun p4 e20 hyp => ?_)
      refine q_callV (as := [.int x2]) (st := []) kY_X6_signAt kL_X6_58 (okX6_signAt (l := l) e20) (by decide) rfl (obX6_signAt e20) (Nat.le_of_ble_eq_true rfl) dX6_readNumber_19 ?_
      refine q_to (ls' := [(0, .ref v0), (1, .int v1)]) (st' := [.int p4.1]) rfl rfl ?_
      refine q_bind hyp (fun p5 e19 hyp => ?_)
      refine q_callS (as := [.int p4.1]) (st := []) kY_X6_isDigit kS_X6_isDigit kL_X6_68 (okX6_isDigit (l := l) e19) (by decide) rfl (Nat.le_of_ble_eq_true rfl) dX6_readNumber_22 ?_
      refine q_to (ls' := [(0, .ref v0), (1, .int v1)]) (st' := [.int p5.1]) rfl rfl ?_
      refine q_if_eq (tgt := 67) dX6_readNumber_25 (by decide) (fun c6 => ?_) (fun c6 => ?_)
      · have hyp := q_pos c6 hyp
        exact q_sub [0] rfl (okX6_readNumber_b67 hyp)
      · have hyp := q_neg c6 hyp
        refine q_aload_n 0 rfl dX6_readNumber_28 ?_
        refine q_aload_n 0 rfl dX6_readNumber_29 ?_
        refine q_bind hyp (fun x7 e8 hyp => ?_)
        refine q_getI kF_X6_51 dX6_readNumber_30 e8 ?_
        refine q_bipush (x := 10) (by decide) dX6_readNumber_33 ?_
        refine q_imul dX6_readNumber_35 ?_
        refine q_aload_n 0 rfl dX6_readNumber_36 ?_
        refine q_aload_n 0 rfl dX6_readNumber_37 ?_
        refine q_bind hyp (fun x9 e10 hyp => ?_)
        refine q_getI kF_X6_23 dX6_readNumber_38 e10 ?_
        refine q_bind hyp (fun p11 e18 hyp => ?_)
        refine q_callV (as := [.int x9]) (st := [.int (x7 * 10), .ref v0]) kY_X6_signAt kL_X6_58 (okX6_signAt (l := l) e18) (by decide) rfl (obX6_signAt e18) (Nat.le_of_ble_eq_true rfl) dX6_readNumber_41 ?_
        refine q_to (ls' := [(0, .ref v0), (1, .int v1)]) (st' := [.int p11.1, .int (x7 * 10), .ref v0]) rfl rfl ?_
        refine q_bipush (x := 48) (by decide) dX6_readNumber_44 ?_
        refine q_isub dX6_readNumber_46 ?_
        refine q_iadd dX6_readNumber_47 ?_
        refine q_bind hyp (fun h12 e13 hyp => ?_)
        refine q_putF kF_X6_51 (fun _ => ⟨rfl, rfl⟩) dX6_readNumber_48 e13 ?_
        refine q_aload_n 0 rfl dX6_readNumber_51 ?_
        refine q_dup rfl dX6_readNumber_52 ?_
        refine q_bind hyp (fun x14 e15 hyp => ?_)
        refine q_getI kF_X6_23 dX6_readNumber_53 e15 ?_
        refine q_iconst (x := 1) rfl dX6_readNumber_56 ?_
        refine q_iadd dX6_readNumber_57 ?_
        refine q_bind hyp (fun h16 e17 hyp => ?_)
        refine q_putF kF_X6_23 (fun _ => ⟨rfl, rfl⟩) dX6_readNumber_58 e17 ?_
        refine q_iinc (ls' := [(1, .int (v1 + 1)), (0, .ref v0)]) 1 rfl rfl (by decide) rfl dX6_readNumber_61 ?_
        refine q_goto (tgt := 7) dX6_readNumber_64 (by decide) ?_
        exact q_sub [1, 0] rfl (ih v0 (v1 + 1) h16 hyp)
def fX6_readNumber (n : Nat) (v0 : Nat) (h : qH) : Option (qH) :=
  (isO h v0 6).bind fun _ =>
  (pF h v0 6 5 (.int 0)).bind fun h1 =>
  fX6_readNumber_b7 n n v0 0 h1
theorem obX6_readNumber {n : Nat} {v0 : Nat} {h : qH} {p : qH} (hyp : fX6_readNumber n v0 h = some p) : ∃ fs, h.1 v0 = some (.inr (6, fs)) := by
  unfold fX6_readNumber at hyp
  exact q_bind hyp (fun _ e _ => isO_some e)
set_option maxHeartbeats 4000000 in
set_option maxRecDepth 100000 in
theorem okX6_readNumber {l : Launch} {n : Nat} {v0 : Nat} {h : qH} {h' : qH} (hyp : fX6_readNumber n v0 h = some h') : q_M l 2 yX6_readNumber cX6_readNumber 2 none [.ref v0] h none h' := by
  unfold fX6_readNumber at hyp
  refine q_bind hyp (fun _ _ hyp => ?_)
  refine q_M.of (by decide) (Nat.le_of_ble_eq_true rfl) ?_
  refine q_to (ls' := [(0, .ref v0)]) (st' := []) rfl rfl ?_
  refine q_aload_n 0 rfl dX6_readNumber_0 ?_
  refine q_iconst (x := 0) rfl dX6_readNumber_1 ?_
  refine q_bind hyp (fun h1 e2 hyp => ?_)
  refine q_putF kF_X6_51 (fun _ => ⟨rfl, rfl⟩) dX6_readNumber_2 e2 ?_
  refine q_iconst (x := 0) rfl dX6_readNumber_5 ?_
  refine q_istore_n (ls' := [(1, .int 0), (0, .ref v0)]) (by decide) rfl dX6_readNumber_6 ?_
  exact q_sub [1, 0] rfl (okX6_readNumber_b7 _ v0 0 h1 hyp)
theorem dX6_keyOf_0 : decode cX6_keyOf 0 = .ok (.iconst 0, 1) := by decide +kernel
theorem dX6_keyOf_1 : decode cX6_keyOf 1 = .ok (.istore_n 2, 1) := by decide +kernel
theorem dX6_keyOf_2 : decode cX6_keyOf 2 = .ok (.lconst 0, 1) := by decide +kernel
theorem dX6_keyOf_3 : decode cX6_keyOf 3 = .ok (.lstore_n 3, 1) := by decide +kernel
theorem dX6_keyOf_4 : decode cX6_keyOf 4 = .ok (.iconst 0, 1) := by decide +kernel
theorem dX6_keyOf_5 : decode cX6_keyOf 5 = .ok (.istore 5, 2) := by decide +kernel
theorem dX6_keyOf_7 : decode cX6_keyOf 7 = .ok (.iload 5, 2) := by decide +kernel
theorem dX6_keyOf_9 : decode cX6_keyOf 9 = .ok (.ldc 87, 2) := by decide +kernel
theorem dX6_keyOf_11 : decode cX6_keyOf 11 = .ok (.invokevirtual 89, 3) := by decide +kernel
theorem dX6_keyOf_14 : decode cX6_keyOf 14 = .ok (.if_icmp .ge 56, 3) := by decide +kernel
theorem dX6_keyOf_17 : decode cX6_keyOf 17 = .ok (.ldc 87, 2) := by decide +kernel
theorem dX6_keyOf_19 : decode cX6_keyOf 19 = .ok (.iload 5, 2) := by decide +kernel
theorem dX6_keyOf_21 : decode cX6_keyOf 21 = .ok (.invokevirtual 94, 3) := by decide +kernel
theorem dX6_keyOf_24 : decode cX6_keyOf 24 = .ok (.istore 6, 2) := by decide +kernel
theorem dX6_keyOf_26 : decode cX6_keyOf 26 = .ok (.iload 6, 2) := by decide +kernel
theorem dX6_keyOf_28 : decode cX6_keyOf 28 = .ok (.bipush 32, 2) := by decide +kernel
theorem dX6_keyOf_30 : decode cX6_keyOf 30 = .ok (.if_icmp .eq 21, 3) := by decide +kernel
theorem dX6_keyOf_33 : decode cX6_keyOf 33 = .ok (.lload_n 3, 1) := by decide +kernel
theorem dX6_keyOf_34 : decode cX6_keyOf 34 = .ok (.ldc2_w 81, 3) := by decide +kernel
theorem dX6_keyOf_37 : decode cX6_keyOf 37 = .ok (.lmul, 1) := by decide +kernel
theorem dX6_keyOf_38 : decode cX6_keyOf 38 = .ok (.iload 6, 2) := by decide +kernel
theorem dX6_keyOf_40 : decode cX6_keyOf 40 = .ok (.bipush 97, 2) := by decide +kernel
theorem dX6_keyOf_42 : decode cX6_keyOf 42 = .ok (.isub, 1) := by decide +kernel
theorem dX6_keyOf_43 : decode cX6_keyOf 43 = .ok (.iconst 1, 1) := by decide +kernel
theorem dX6_keyOf_44 : decode cX6_keyOf 44 = .ok (.iadd, 1) := by decide +kernel
theorem dX6_keyOf_45 : decode cX6_keyOf 45 = .ok (.i2l, 1) := by decide +kernel
theorem dX6_keyOf_46 : decode cX6_keyOf 46 = .ok (.ladd, 1) := by decide +kernel
theorem dX6_keyOf_47 : decode cX6_keyOf 47 = .ok (.lstore_n 3, 1) := by decide +kernel
theorem dX6_keyOf_48 : decode cX6_keyOf 48 = .ok (.goto 16, 3) := by decide +kernel
theorem dX6_keyOf_51 : decode cX6_keyOf 51 = .ok (.lload_n 3, 1) := by decide +kernel
theorem dX6_keyOf_52 : decode cX6_keyOf 52 = .ok (.lload_n 0, 1) := by decide +kernel
theorem dX6_keyOf_53 : decode cX6_keyOf 53 = .ok (.lcmp, 1) := by decide +kernel
theorem dX6_keyOf_54 : decode cX6_keyOf 54 = .ok (.ifCond .ne 5, 3) := by decide +kernel
theorem dX6_keyOf_57 : decode cX6_keyOf 57 = .ok (.iload_n 2, 1) := by decide +kernel
theorem dX6_keyOf_58 : decode cX6_keyOf 58 = .ok (.ireturn, 1) := by decide +kernel
theorem dX6_keyOf_59 : decode cX6_keyOf 59 = .ok (.iinc 2 1, 3) := by decide +kernel
theorem dX6_keyOf_62 : decode cX6_keyOf 62 = .ok (.lconst 0, 1) := by decide +kernel
theorem dX6_keyOf_63 : decode cX6_keyOf 63 = .ok (.lstore_n 3, 1) := by decide +kernel
theorem dX6_keyOf_64 : decode cX6_keyOf 64 = .ok (.iinc 5 1, 3) := by decide +kernel
theorem dX6_keyOf_67 : decode cX6_keyOf 67 = .ok (.goto (-60), 3) := by decide +kernel
theorem dX6_keyOf_70 : decode cX6_keyOf 70 = .ok (.bipush 22, 2) := by decide +kernel
theorem dX6_keyOf_72 : decode cX6_keyOf 72 = .ok (.ireturn, 1) := by decide +kernel
def fX6_keyOf_b7 (n : Nat) : Nat → Int64 → Int32 → Int64 → Int32 → qH → Option (Int32 × qH)
  | 0, _, _, _, _, _ => none
  | w + 1, v0, v2, v3, v5, h =>
    if sLen ≤ v5 then
    (some (22, h))
    else
    ((sAt v5).bind fun x2 =>
    if x2 = 32 then
    (if (lg_cmp v3 v0) = 0 then
    (some (v2, h))
    else
    (fX6_keyOf_b7 n w v0 (v2 + 1) 0 (v5 + 1) h))
    else
    (fX6_keyOf_b7 n w v0 v2 ((v3 * 32) + (((x2 - 97) + 1).toInt64)) (v5 + 1) h))
set_option maxHeartbeats 4000000 in
set_option maxRecDepth 100000 in
theorem okX6_keyOf_b7 {l : Launch} {n : Nat} {r : Int32} {h' : qH} : ∀ (w : Nat) (v0 : Int64) (v2 : Int32) (v3 : Int64) (v5 : Int32) (h : qH), fX6_keyOf_b7 n w v0 v2 v3 v5 h = some (r, h') → q_W l 8 yX6_keyOf cX6_keyOf 7 (some .int) (some (.int r)) h' 7 [(0, .long v0), (2, .int v2), (3, .long v3), (5, .int v5)] [] h := by
  intro w
  induction w with
  | zero => intro v0 v2 v3 v5 h hyp; cases hyp
  | succ w ih =>
    intro v0 v2 v3 v5 h hyp
    unfold fX6_keyOf_b7 at hyp
    refine q_iload 3 rfl dX6_keyOf_7 ?_
    refine q_ldcS rfl dX6_keyOf_9 ?_
    refine q_slen kL_X6_89 (by decide) (Nat.le_of_ble_eq_true rfl) dX6_keyOf_11 ?_
    refine q_icmp_ge (tgt := 70) dX6_keyOf_14 (by decide) (fun c1 => ?_) (fun c1 => ?_)
    · have hyp := q_pos c1 hyp
      refine q_bipush (x := 22) (by decide) dX6_keyOf_70 ?_
      exact q_iretH rfl rfl dX6_keyOf_72 hyp
    · have hyp := q_neg c1 hyp
      refine q_ldcS rfl dX6_keyOf_17 ?_
      refine q_iload 3 rfl dX6_keyOf_19 ?_
      refine q_bind hyp (fun x2 e3 hyp => ?_)
      refine q_sat kL_X6_94 (by decide) (Nat.le_of_ble_eq_true rfl) dX6_keyOf_21 e3 ?_
      refine q_istore (ls' := [(6, .int x2), (0, .long v0), (2, .int v2), (3, .long v3), (5, .int v5)]) (by decide) rfl dX6_keyOf_24 ?_
      refine q_iload 0 rfl dX6_keyOf_26 ?_
      refine q_bipush (x := 32) (by decide) dX6_keyOf_28 ?_
      refine q_icmp_eq (tgt := 51) dX6_keyOf_30 (by decide) (fun c4 => ?_) (fun c4 => ?_)
      · have hyp := q_pos c4 hyp
        refine q_lload_n 3 rfl dX6_keyOf_51 ?_
        refine q_lload_n 1 rfl dX6_keyOf_52 ?_
        refine q_lcmp dX6_keyOf_53 ?_
        refine q_if_ne (tgt := 59) dX6_keyOf_54 (by decide) (fun c5 => ?_) (fun c5 => ?_)
        · have hyp := q_neg c5 hyp
          refine q_iinc (ls' := [(2, .int (v2 + 1)), (6, .int x2), (0, .long v0), (3, .long v3), (5, .int v5)]) 2 rfl rfl (by decide) rfl dX6_keyOf_59 ?_
          refine q_lconst (x := 0) rfl dX6_keyOf_62 ?_
          refine q_lstore_n (ls' := [(3, .long 0), (2, .int (v2 + 1)), (6, .int x2), (0, .long v0), (5, .int v5)]) (by decide) rfl dX6_keyOf_63 ?_
          refine q_iinc (ls' := [(5, .int (v5 + 1)), (3, .long 0), (2, .int (v2 + 1)), (6, .int x2), (0, .long v0)]) 4 rfl rfl (by decide) rfl dX6_keyOf_64 ?_
          refine q_goto (tgt := 7) dX6_keyOf_67 (by decide) ?_
          exact q_sub [4, 2, 1, 0] rfl (ih v0 (v2 + 1) 0 (v5 + 1) h hyp)
        · have hyp := q_pos c5 hyp
          refine q_iload_n 2 rfl dX6_keyOf_57 ?_
          exact q_iretH rfl rfl dX6_keyOf_58 hyp
      · have hyp := q_neg c4 hyp
        refine q_lload_n 3 rfl dX6_keyOf_33 ?_
        refine q_ldc2 kK_X6_81 dX6_keyOf_34 ?_
        refine q_lmul dX6_keyOf_37 ?_
        refine q_iload 0 rfl dX6_keyOf_38 ?_
        refine q_bipush (x := 97) (by decide) dX6_keyOf_40 ?_
        refine q_isub dX6_keyOf_42 ?_
        refine q_iconst (x := 1) rfl dX6_keyOf_43 ?_
        refine q_iadd dX6_keyOf_44 ?_
        refine q_i2l dX6_keyOf_45 ?_
        refine q_ladd dX6_keyOf_46 ?_
        refine q_lstore_n (ls' := [(3, .long ((v3 * 32) + (((x2 - 97) + 1).toInt64))), (6, .int x2), (0, .long v0), (2, .int v2), (5, .int v5)]) (by decide) rfl dX6_keyOf_47 ?_
        refine q_goto (tgt := 64) dX6_keyOf_48 (by decide) ?_
        refine q_iinc (ls' := [(5, .int (v5 + 1)), (3, .long ((v3 * 32) + (((x2 - 97) + 1).toInt64))), (6, .int x2), (0, .long v0), (2, .int v2)]) 4 rfl rfl (by decide) rfl dX6_keyOf_64 ?_
        refine q_goto (tgt := 7) dX6_keyOf_67 (by decide) ?_
        exact q_sub [3, 4, 1, 0] rfl (ih v0 v2 ((v3 * 32) + (((x2 - 97) + 1).toInt64)) (v5 + 1) h hyp)
def fX6_keyOf (n : Nat) (v0 : Int64) (h : qH) : Option (Int32 × qH) :=
  fX6_keyOf_b7 n n v0 0 0 0 h
set_option maxHeartbeats 4000000 in
set_option maxRecDepth 100000 in
theorem okX6_keyOf {l : Launch} {n : Nat} {v0 : Int64} {h : qH} {p : Int32 × qH} (hyp : fX6_keyOf n v0 h = some p) : q_M l 8 yX6_keyOf cX6_keyOf 7 (some .int) [.long v0] h (some (.int p.1)) p.2 := by
  obtain ⟨r, h'⟩ := p
  unfold fX6_keyOf at hyp
  refine q_M.of (by decide) (Nat.le_of_ble_eq_true rfl) ?_
  refine q_to (ls' := [(0, .long v0)]) (st' := []) rfl rfl ?_
  refine q_iconst (x := 0) rfl dX6_keyOf_0 ?_
  refine q_istore_n (ls' := [(2, .int 0), (0, .long v0)]) (by decide) rfl dX6_keyOf_1 ?_
  refine q_lconst (x := 0) rfl dX6_keyOf_2 ?_
  refine q_lstore_n (ls' := [(3, .long 0), (2, .int 0), (0, .long v0)]) (by decide) rfl dX6_keyOf_3 ?_
  refine q_iconst (x := 0) rfl dX6_keyOf_4 ?_
  refine q_istore (ls' := [(5, .int 0), (3, .long 0), (2, .int 0), (0, .long v0)]) (by decide) rfl dX6_keyOf_5 ?_
  exact q_sub [3, 2, 1, 0] rfl (okX6_keyOf_b7 _ v0 0 0 0 h hyp)
theorem dX6_readWord_0 : decode cX6_readWord 0 = .ok (.aload_n 0, 1) := by decide +kernel
theorem dX6_readWord_1 : decode cX6_readWord 1 = .ok (.lconst 0, 1) := by decide +kernel
theorem dX6_readWord_2 : decode cX6_readWord 2 = .ok (.putfield 77, 3) := by decide +kernel
theorem dX6_readWord_5 : decode cX6_readWord 5 = .ok (.iconst 0, 1) := by decide +kernel
theorem dX6_readWord_6 : decode cX6_readWord 6 = .ok (.istore_n 1, 1) := by decide +kernel
theorem dX6_readWord_7 : decode cX6_readWord 7 = .ok (.iload_n 1, 1) := by decide +kernel
theorem dX6_readWord_8 : decode cX6_readWord 8 = .ok (.sipush 1000, 3) := by decide +kernel
theorem dX6_readWord_11 : decode cX6_readWord 11 = .ok (.if_icmp .ge 60, 3) := by decide +kernel
theorem dX6_readWord_14 : decode cX6_readWord 14 = .ok (.aload_n 0, 1) := by decide +kernel
theorem dX6_readWord_15 : decode cX6_readWord 15 = .ok (.aload_n 0, 1) := by decide +kernel
theorem dX6_readWord_16 : decode cX6_readWord 16 = .ok (.getfield 23, 3) := by decide +kernel
theorem dX6_readWord_19 : decode cX6_readWord 19 = .ok (.invokevirtual 58, 3) := by decide +kernel
theorem dX6_readWord_22 : decode cX6_readWord 22 = .ok (.invokestatic 62, 3) := by decide +kernel
theorem dX6_readWord_25 : decode cX6_readWord 25 = .ok (.ifCond .eq 46, 3) := by decide +kernel
theorem dX6_readWord_28 : decode cX6_readWord 28 = .ok (.aload_n 0, 1) := by decide +kernel
theorem dX6_readWord_29 : decode cX6_readWord 29 = .ok (.aload_n 0, 1) := by decide +kernel
theorem dX6_readWord_30 : decode cX6_readWord 30 = .ok (.getfield 77, 3) := by decide +kernel
theorem dX6_readWord_33 : decode cX6_readWord 33 = .ok (.ldc2_w 81, 3) := by decide +kernel
theorem dX6_readWord_36 : decode cX6_readWord 36 = .ok (.lmul, 1) := by decide +kernel
theorem dX6_readWord_37 : decode cX6_readWord 37 = .ok (.aload_n 0, 1) := by decide +kernel
theorem dX6_readWord_38 : decode cX6_readWord 38 = .ok (.aload_n 0, 1) := by decide +kernel
theorem dX6_readWord_39 : decode cX6_readWord 39 = .ok (.getfield 23, 3) := by decide +kernel
theorem dX6_readWord_42 : decode cX6_readWord 42 = .ok (.invokevirtual 58, 3) := by decide +kernel
theorem dX6_readWord_45 : decode cX6_readWord 45 = .ok (.bipush 97, 2) := by decide +kernel
theorem dX6_readWord_47 : decode cX6_readWord 47 = .ok (.isub, 1) := by decide +kernel
theorem dX6_readWord_48 : decode cX6_readWord 48 = .ok (.iconst 1, 1) := by decide +kernel
theorem dX6_readWord_49 : decode cX6_readWord 49 = .ok (.iadd, 1) := by decide +kernel
theorem dX6_readWord_50 : decode cX6_readWord 50 = .ok (.i2l, 1) := by decide +kernel
theorem dX6_readWord_51 : decode cX6_readWord 51 = .ok (.ladd, 1) := by decide +kernel
theorem dX6_readWord_52 : decode cX6_readWord 52 = .ok (.putfield 77, 3) := by decide +kernel
theorem dX6_readWord_55 : decode cX6_readWord 55 = .ok (.aload_n 0, 1) := by decide +kernel
theorem dX6_readWord_56 : decode cX6_readWord 56 = .ok (.dup, 1) := by decide +kernel
theorem dX6_readWord_57 : decode cX6_readWord 57 = .ok (.getfield 23, 3) := by decide +kernel
theorem dX6_readWord_60 : decode cX6_readWord 60 = .ok (.iconst 1, 1) := by decide +kernel
theorem dX6_readWord_61 : decode cX6_readWord 61 = .ok (.iadd, 1) := by decide +kernel
theorem dX6_readWord_62 : decode cX6_readWord 62 = .ok (.putfield 23, 3) := by decide +kernel
theorem dX6_readWord_65 : decode cX6_readWord 65 = .ok (.iinc 1 1, 3) := by decide +kernel
theorem dX6_readWord_68 : decode cX6_readWord 68 = .ok (.goto (-61), 3) := by decide +kernel
theorem dX6_readWord_71 : decode cX6_readWord 71 = .ok (.aload_n 0, 1) := by decide +kernel
theorem dX6_readWord_72 : decode cX6_readWord 72 = .ok (.aload_n 0, 1) := by decide +kernel
theorem dX6_readWord_73 : decode cX6_readWord 73 = .ok (.getfield 23, 3) := by decide +kernel
theorem dX6_readWord_76 : decode cX6_readWord 76 = .ok (.aload_n 0, 1) := by decide +kernel
theorem dX6_readWord_77 : decode cX6_readWord 77 = .ok (.getfield 32, 3) := by decide +kernel
theorem dX6_readWord_80 : decode cX6_readWord 80 = .ok (.isub, 1) := by decide +kernel
theorem dX6_readWord_81 : decode cX6_readWord 81 = .ok (.bipush 8, 2) := by decide +kernel
theorem dX6_readWord_83 : decode cX6_readWord 83 = .ok (.if_icmp .gt 7, 3) := by decide +kernel
theorem dX6_readWord_86 : decode cX6_readWord 86 = .ok (.iconst 2, 1) := by decide +kernel
theorem dX6_readWord_87 : decode cX6_readWord 87 = .ok (.goto 4, 3) := by decide +kernel
theorem dX6_readWord_90 : decode cX6_readWord 90 = .ok (.iconst 1, 1) := by decide +kernel
theorem dX6_readWord_91 : decode cX6_readWord 91 = .ok (.putfield 35, 3) := by decide +kernel
theorem dX6_readWord_94 : decode cX6_readWord 94 = .ok (.aload_n 0, 1) := by decide +kernel
theorem dX6_readWord_95 : decode cX6_readWord 95 = .ok (.aload_n 0, 1) := by decide +kernel
theorem dX6_readWord_96 : decode cX6_readWord 96 = .ok (.getfield 77, 3) := by decide +kernel
theorem dX6_readWord_99 : decode cX6_readWord 99 = .ok (.invokestatic 83, 3) := by decide +kernel
theorem dX6_readWord_102 : decode cX6_readWord 102 = .ok (.putfield 42, 3) := by decide +kernel
theorem dX6_readWord_105 : decode cX6_readWord 105 = .ok (.return_, 1) := by decide +kernel
def fX6_readWord_b91 (n : Nat) (v0 : Nat) (s0 : Int32) (s1 : Nat) (h : qH) : Option (qH) :=
  (pF h s1 6 4 (.int s0)).bind fun h1 =>
  (gL h1 v0 6 6).bind fun x3 =>
  (fX6_keyOf n x3 h1).bind fun p5 =>
  (pF p5.2 v0 6 7 (.int p5.1)).bind fun h6 =>
  some h6
set_option maxHeartbeats 4000000 in
set_option maxRecDepth 100000 in
theorem okX6_readWord_b91 {l : Launch} {n : Nat} {v0 : Nat} {s0 : Int32} {s1 : Nat} {h : qH} {h' : qH} (hyp : fX6_readWord_b91 n v0 s0 s1 h = some h') : q_W l 9 yX6_readWord cX6_readWord 2 none none h' 91 [(0, .ref v0)] [.int s0, .ref s1] h := by
  unfold fX6_readWord_b91 at hyp
  refine q_bind hyp (fun h1 e2 hyp => ?_)
  refine q_putF kF_X6_35 (fun _ => ⟨rfl, rfl⟩) dX6_readWord_91 e2 ?_
  refine q_aload_n 0 rfl dX6_readWord_94 ?_
  refine q_aload_n 0 rfl dX6_readWord_95 ?_
  refine q_bind hyp (fun x3 e4 hyp => ?_)
  refine q_getL kF_X6_77 dX6_readWord_96 e4 ?_
  refine q_bind hyp (fun p5 e8 hyp => ?_)
  refine q_callS (as := [.long x3]) (st := [.ref v0]) kY_X6_keyOf kS_X6_keyOf kL_X6_83 (okX6_keyOf (l := l) e8) (by decide) rfl (Nat.le_of_ble_eq_true rfl) dX6_readWord_99 ?_
  refine q_to (ls' := [(0, .ref v0)]) (st' := [.int p5.1, .ref v0]) rfl rfl ?_
  refine q_bind hyp (fun h6 e7 hyp => ?_)
  refine q_putF kF_X6_42 (fun _ => ⟨rfl, rfl⟩) dX6_readWord_102 e7 ?_
  exact q_vretH rfl dX6_readWord_105 hyp
def fX6_readWord_b71 (n : Nat) (v0 : Nat) (h : qH) : Option (qH) :=
  (gI h v0 6 2).bind fun x1 =>
  (gI h v0 6 3).bind fun x3 =>
  if 8 < (x1 - x3) then
  (fX6_readWord_b91 n v0 1 v0 h)
  else
  (fX6_readWord_b91 n v0 2 v0 h)
set_option maxHeartbeats 4000000 in
set_option maxRecDepth 100000 in
theorem okX6_readWord_b71 {l : Launch} {n : Nat} {v0 : Nat} {h : qH} {h' : qH} (hyp : fX6_readWord_b71 n v0 h = some h') : q_W l 9 yX6_readWord cX6_readWord 2 none none h' 71 [(0, .ref v0)] [] h := by
  unfold fX6_readWord_b71 at hyp
  refine q_aload_n 0 rfl dX6_readWord_71 ?_
  refine q_aload_n 0 rfl dX6_readWord_72 ?_
  refine q_bind hyp (fun x1 e2 hyp => ?_)
  refine q_getI kF_X6_23 dX6_readWord_73 e2 ?_
  refine q_aload_n 0 rfl dX6_readWord_76 ?_
  refine q_bind hyp (fun x3 e4 hyp => ?_)
  refine q_getI kF_X6_32 dX6_readWord_77 e4 ?_
  refine q_isub dX6_readWord_80 ?_
  refine q_bipush (x := 8) (by decide) dX6_readWord_81 ?_
  refine q_icmp_gt (tgt := 90) dX6_readWord_83 (by decide) (fun c5 => ?_) (fun c5 => ?_)
  · have hyp := q_pos c5 hyp
    refine q_iconst (x := 1) rfl dX6_readWord_90 ?_
    exact q_sub [0] rfl (okX6_readWord_b91 hyp)
  · have hyp := q_neg c5 hyp
    refine q_iconst (x := 2) rfl dX6_readWord_86 ?_
    refine q_goto (tgt := 91) dX6_readWord_87 (by decide) ?_
    exact q_sub [0] rfl (okX6_readWord_b91 hyp)
def fX6_readWord_b7 (n : Nat) : Nat → Nat → Int32 → qH → Option (qH)
  | 0, _, _, _ => none
  | w + 1, v0, v1, h =>
    if 1000 ≤ v1 then
    (fX6_readWord_b71 n v0 h)
    else
    ((gI h v0 6 2).bind fun x2 =>
    (fX6_signAt v0 x2 h).bind fun p4 =>
    (fX6_isLetter p4.1 p4.2).bind fun p5 =>
    if p5.1 = 0 then
    (fX6_readWord_b71 n v0 p5.2)
    else
    ((gL p5.2 v0 6 6).bind fun x7 =>
    (gI p5.2 v0 6 2).bind fun x9 =>
    (fX6_signAt v0 x9 p5.2).bind fun p11 =>
    (pF p11.2 v0 6 6 (.long ((x7 * 32) + (((p11.1 - 97) + 1).toInt64)))).bind fun h12 =>
    (gI h12 v0 6 2).bind fun x14 =>
    (pF h12 v0 6 2 (.int (x14 + 1))).bind fun h16 =>
    fX6_readWord_b7 n w v0 (v1 + 1) h16))
set_option maxHeartbeats 4000000 in
set_option maxRecDepth 100000 in
theorem okX6_readWord_b7 {l : Launch} {n : Nat} {h' : qH} : ∀ (w : Nat) (v0 : Nat) (v1 : Int32) (h : qH), fX6_readWord_b7 n w v0 v1 h = some h' → q_W l 9 yX6_readWord cX6_readWord 2 none none h' 7 [(0, .ref v0), (1, .int v1)] [] h := by
  intro w
  induction w with
  | zero => intro v0 v1 h hyp; cases hyp
  | succ w ih =>
    intro v0 v1 h hyp
    unfold fX6_readWord_b7 at hyp
    refine q_iload_n 1 rfl dX6_readWord_7 ?_
    refine q_sipush (x := 1000) (by decide) dX6_readWord_8 ?_
    refine q_icmp_ge (tgt := 71) dX6_readWord_11 (by decide) (fun c1 => ?_) (fun c1 => ?_)
    · have hyp := q_pos c1 hyp
      exact q_sub [0] rfl (okX6_readWord_b71 hyp)
    · have hyp := q_neg c1 hyp
      refine q_aload_n 0 rfl dX6_readWord_14 ?_
      refine q_aload_n 0 rfl dX6_readWord_15 ?_
      refine q_bind hyp (fun x2 e3 hyp => ?_)
      refine q_getI kF_X6_23 dX6_readWord_16 e3 ?_
      refine q_bind hyp (fun p4 e20 hyp => ?_)
      refine q_callV (as := [.int x2]) (st := []) kY_X6_signAt kL_X6_58 (okX6_signAt (l := l) e20) (by decide) rfl (obX6_signAt e20) (Nat.le_of_ble_eq_true rfl) dX6_readWord_19 ?_
      refine q_to (ls' := [(0, .ref v0), (1, .int v1)]) (st' := [.int p4.1]) rfl rfl ?_
      refine q_bind hyp (fun p5 e19 hyp => ?_)
      refine q_callS (as := [.int p4.1]) (st := []) kY_X6_isLetter kS_X6_isLetter kL_X6_62 (okX6_isLetter (l := l) e19) (by decide) rfl (Nat.le_of_ble_eq_true rfl) dX6_readWord_22 ?_
      refine q_to (ls' := [(0, .ref v0), (1, .int v1)]) (st' := [.int p5.1]) rfl rfl ?_
      refine q_if_eq (tgt := 71) dX6_readWord_25 (by decide) (fun c6 => ?_) (fun c6 => ?_)
      · have hyp := q_pos c6 hyp
        exact q_sub [0] rfl (okX6_readWord_b71 hyp)
      · have hyp := q_neg c6 hyp
        refine q_aload_n 0 rfl dX6_readWord_28 ?_
        refine q_aload_n 0 rfl dX6_readWord_29 ?_
        refine q_bind hyp (fun x7 e8 hyp => ?_)
        refine q_getL kF_X6_77 dX6_readWord_30 e8 ?_
        refine q_ldc2 kK_X6_81 dX6_readWord_33 ?_
        refine q_lmul dX6_readWord_36 ?_
        refine q_aload_n 0 rfl dX6_readWord_37 ?_
        refine q_aload_n 0 rfl dX6_readWord_38 ?_
        refine q_bind hyp (fun x9 e10 hyp => ?_)
        refine q_getI kF_X6_23 dX6_readWord_39 e10 ?_
        refine q_bind hyp (fun p11 e18 hyp => ?_)
        refine q_callV (as := [.int x9]) (st := [.long (x7 * 32), .ref v0]) kY_X6_signAt kL_X6_58 (okX6_signAt (l := l) e18) (by decide) rfl (obX6_signAt e18) (Nat.le_of_ble_eq_true rfl) dX6_readWord_42 ?_
        refine q_to (ls' := [(0, .ref v0), (1, .int v1)]) (st' := [.int p11.1, .long (x7 * 32), .ref v0]) rfl rfl ?_
        refine q_bipush (x := 97) (by decide) dX6_readWord_45 ?_
        refine q_isub dX6_readWord_47 ?_
        refine q_iconst (x := 1) rfl dX6_readWord_48 ?_
        refine q_iadd dX6_readWord_49 ?_
        refine q_i2l dX6_readWord_50 ?_
        refine q_ladd dX6_readWord_51 ?_
        refine q_bind hyp (fun h12 e13 hyp => ?_)
        refine q_putF kF_X6_77 (fun _ => ⟨rfl, rfl⟩) dX6_readWord_52 e13 ?_
        refine q_aload_n 0 rfl dX6_readWord_55 ?_
        refine q_dup rfl dX6_readWord_56 ?_
        refine q_bind hyp (fun x14 e15 hyp => ?_)
        refine q_getI kF_X6_23 dX6_readWord_57 e15 ?_
        refine q_iconst (x := 1) rfl dX6_readWord_60 ?_
        refine q_iadd dX6_readWord_61 ?_
        refine q_bind hyp (fun h16 e17 hyp => ?_)
        refine q_putF kF_X6_23 (fun _ => ⟨rfl, rfl⟩) dX6_readWord_62 e17 ?_
        refine q_iinc (ls' := [(1, .int (v1 + 1)), (0, .ref v0)]) 1 rfl rfl (by decide) rfl dX6_readWord_65 ?_
        refine q_goto (tgt := 7) dX6_readWord_68 (by decide) ?_
        exact q_sub [1, 0] rfl (ih v0 (v1 + 1) h16 hyp)
def fX6_readWord (n : Nat) (v0 : Nat) (h : qH) : Option (qH) :=
  (isO h v0 6).bind fun _ =>
  (pF h v0 6 6 (.long 0)).bind fun h1 =>
  fX6_readWord_b7 n n v0 0 h1
theorem obX6_readWord {n : Nat} {v0 : Nat} {h : qH} {p : qH} (hyp : fX6_readWord n v0 h = some p) : ∃ fs, h.1 v0 = some (.inr (6, fs)) := by
  unfold fX6_readWord at hyp
  exact q_bind hyp (fun _ e _ => isO_some e)
set_option maxHeartbeats 4000000 in
set_option maxRecDepth 100000 in
theorem okX6_readWord {l : Launch} {n : Nat} {v0 : Nat} {h : qH} {h' : qH} (hyp : fX6_readWord n v0 h = some h') : q_M l 9 yX6_readWord cX6_readWord 2 none [.ref v0] h none h' := by
  unfold fX6_readWord at hyp
  refine q_bind hyp (fun _ _ hyp => ?_)
  refine q_M.of (by decide) (Nat.le_of_ble_eq_true rfl) ?_
  refine q_to (ls' := [(0, .ref v0)]) (st' := []) rfl rfl ?_
  refine q_aload_n 0 rfl dX6_readWord_0 ?_
  refine q_lconst (x := 0) rfl dX6_readWord_1 ?_
  refine q_bind hyp (fun h1 e2 hyp => ?_)
  refine q_putF kF_X6_77 (fun _ => ⟨rfl, rfl⟩) dX6_readWord_2 e2 ?_
  refine q_iconst (x := 0) rfl dX6_readWord_5 ?_
  refine q_istore_n (ls' := [(1, .int 0), (0, .ref v0)]) (by decide) rfl dX6_readWord_6 ?_
  exact q_sub [1, 0] rfl (okX6_readWord_b7 _ v0 0 h1 hyp)
theorem dX6_advance_0 : decode cX6_advance 0 = .ok (.aload_n 0, 1) := by decide +kernel
theorem dX6_advance_1 : decode cX6_advance 1 = .ok (.getfield 23, 3) := by decide +kernel
theorem dX6_advance_4 : decode cX6_advance 4 = .ok (.aload_n 0, 1) := by decide +kernel
theorem dX6_advance_5 : decode cX6_advance 5 = .ok (.getfield 19, 3) := by decide +kernel
theorem dX6_advance_8 : decode cX6_advance 8 = .ok (.if_icmp .ge 42, 3) := by decide +kernel
theorem dX6_advance_11 : decode cX6_advance 11 = .ok (.aload_n 0, 1) := by decide +kernel
theorem dX6_advance_12 : decode cX6_advance 12 = .ok (.aload_n 0, 1) := by decide +kernel
theorem dX6_advance_13 : decode cX6_advance 13 = .ok (.getfield 23, 3) := by decide +kernel
theorem dX6_advance_16 : decode cX6_advance 16 = .ok (.invokevirtual 58, 3) := by decide +kernel
theorem dX6_advance_19 : decode cX6_advance 19 = .ok (.bipush 32, 2) := by decide +kernel
theorem dX6_advance_21 : decode cX6_advance 21 = .ok (.if_icmp .eq 16, 3) := by decide +kernel
theorem dX6_advance_24 : decode cX6_advance 24 = .ok (.aload_n 0, 1) := by decide +kernel
theorem dX6_advance_25 : decode cX6_advance 25 = .ok (.aload_n 0, 1) := by decide +kernel
theorem dX6_advance_26 : decode cX6_advance 26 = .ok (.getfield 23, 3) := by decide +kernel
theorem dX6_advance_29 : decode cX6_advance 29 = .ok (.invokevirtual 58, 3) := by decide +kernel
theorem dX6_advance_32 : decode cX6_advance 32 = .ok (.bipush 10, 2) := by decide +kernel
theorem dX6_advance_34 : decode cX6_advance 34 = .ok (.if_icmp .ne 16, 3) := by decide +kernel
theorem dX6_advance_37 : decode cX6_advance 37 = .ok (.aload_n 0, 1) := by decide +kernel
theorem dX6_advance_38 : decode cX6_advance 38 = .ok (.dup, 1) := by decide +kernel
theorem dX6_advance_39 : decode cX6_advance 39 = .ok (.getfield 23, 3) := by decide +kernel
theorem dX6_advance_42 : decode cX6_advance 42 = .ok (.iconst 1, 1) := by decide +kernel
theorem dX6_advance_43 : decode cX6_advance 43 = .ok (.iadd, 1) := by decide +kernel
theorem dX6_advance_44 : decode cX6_advance 44 = .ok (.putfield 23, 3) := by decide +kernel
theorem dX6_advance_47 : decode cX6_advance 47 = .ok (.goto (-47), 3) := by decide +kernel
theorem dX6_advance_50 : decode cX6_advance 50 = .ok (.aload_n 0, 1) := by decide +kernel
theorem dX6_advance_51 : decode cX6_advance 51 = .ok (.aload_n 0, 1) := by decide +kernel
theorem dX6_advance_52 : decode cX6_advance 52 = .ok (.getfield 23, 3) := by decide +kernel
theorem dX6_advance_55 : decode cX6_advance 55 = .ok (.putfield 32, 3) := by decide +kernel
theorem dX6_advance_58 : decode cX6_advance 58 = .ok (.aload_n 0, 1) := by decide +kernel
theorem dX6_advance_59 : decode cX6_advance 59 = .ok (.aload_n 0, 1) := by decide +kernel
theorem dX6_advance_60 : decode cX6_advance 60 = .ok (.getfield 23, 3) := by decide +kernel
theorem dX6_advance_63 : decode cX6_advance 63 = .ok (.invokevirtual 58, 3) := by decide +kernel
theorem dX6_advance_66 : decode cX6_advance 66 = .ok (.istore_n 1, 1) := by decide +kernel
theorem dX6_advance_67 : decode cX6_advance 67 = .ok (.aload_n 0, 1) := by decide +kernel
theorem dX6_advance_68 : decode cX6_advance 68 = .ok (.getfield 23, 3) := by decide +kernel
theorem dX6_advance_71 : decode cX6_advance 71 = .ok (.aload_n 0, 1) := by decide +kernel
theorem dX6_advance_72 : decode cX6_advance 72 = .ok (.getfield 19, 3) := by decide +kernel
theorem dX6_advance_75 : decode cX6_advance 75 = .ok (.if_icmp .lt 11, 3) := by decide +kernel
theorem dX6_advance_78 : decode cX6_advance 78 = .ok (.aload_n 0, 1) := by decide +kernel
theorem dX6_advance_79 : decode cX6_advance 79 = .ok (.iconst 0, 1) := by decide +kernel
theorem dX6_advance_80 : decode cX6_advance 80 = .ok (.putfield 35, 3) := by decide +kernel
theorem dX6_advance_83 : decode cX6_advance 83 = .ok (.goto 57, 3) := by decide +kernel
theorem dX6_advance_86 : decode cX6_advance 86 = .ok (.iload_n 1, 1) := by decide +kernel
theorem dX6_advance_87 : decode cX6_advance 87 = .ok (.invokestatic 62, 3) := by decide +kernel
theorem dX6_advance_90 : decode cX6_advance 90 = .ok (.ifCond .eq 10, 3) := by decide +kernel
theorem dX6_advance_93 : decode cX6_advance 93 = .ok (.aload_n 0, 1) := by decide +kernel
theorem dX6_advance_94 : decode cX6_advance 94 = .ok (.invokevirtual 65, 3) := by decide +kernel
theorem dX6_advance_97 : decode cX6_advance 97 = .ok (.goto 43, 3) := by decide +kernel
theorem dX6_advance_100 : decode cX6_advance 100 = .ok (.iload_n 1, 1) := by decide +kernel
theorem dX6_advance_101 : decode cX6_advance 101 = .ok (.invokestatic 68, 3) := by decide +kernel
theorem dX6_advance_104 : decode cX6_advance 104 = .ok (.ifCond .eq 10, 3) := by decide +kernel
theorem dX6_advance_107 : decode cX6_advance 107 = .ok (.aload_n 0, 1) := by decide +kernel
theorem dX6_advance_108 : decode cX6_advance 108 = .ok (.invokevirtual 71, 3) := by decide +kernel
theorem dX6_advance_111 : decode cX6_advance 111 = .ok (.goto 29, 3) := by decide +kernel
theorem dX6_advance_114 : decode cX6_advance 114 = .ok (.aload_n 0, 1) := by decide +kernel
theorem dX6_advance_115 : decode cX6_advance 115 = .ok (.iload_n 1, 1) := by decide +kernel
theorem dX6_advance_116 : decode cX6_advance 116 = .ok (.invokestatic 74, 3) := by decide +kernel
theorem dX6_advance_119 : decode cX6_advance 119 = .ok (.ifCond .eq 7, 3) := by decide +kernel
theorem dX6_advance_122 : decode cX6_advance 122 = .ok (.iload_n 1, 1) := by decide +kernel
theorem dX6_advance_123 : decode cX6_advance 123 = .ok (.goto 4, 3) := by decide +kernel
theorem dX6_advance_126 : decode cX6_advance 126 = .ok (.iconst 1, 1) := by decide +kernel
theorem dX6_advance_127 : decode cX6_advance 127 = .ok (.putfield 35, 3) := by decide +kernel
theorem dX6_advance_130 : decode cX6_advance 130 = .ok (.aload_n 0, 1) := by decide +kernel
theorem dX6_advance_131 : decode cX6_advance 131 = .ok (.dup, 1) := by decide +kernel
theorem dX6_advance_132 : decode cX6_advance 132 = .ok (.getfield 23, 3) := by decide +kernel
theorem dX6_advance_135 : decode cX6_advance 135 = .ok (.iconst 1, 1) := by decide +kernel
theorem dX6_advance_136 : decode cX6_advance 136 = .ok (.iadd, 1) := by decide +kernel
theorem dX6_advance_137 : decode cX6_advance 137 = .ok (.putfield 23, 3) := by decide +kernel
theorem dX6_advance_140 : decode cX6_advance 140 = .ok (.return_, 1) := by decide +kernel
def fX6_advance_b127 (n : Nat) (v0 : Nat) (s0 : Int32) (s1 : Nat) (h : qH) : Option (qH) :=
  (pF h s1 6 4 (.int s0)).bind fun h1 =>
  (gI h1 v0 6 2).bind fun x3 =>
  (pF h1 v0 6 2 (.int (x3 + 1))).bind fun h5 =>
  some h5
set_option maxHeartbeats 4000000 in
set_option maxRecDepth 100000 in
theorem okX6_advance_b127 {l : Launch} {n : Nat} {v0 : Nat} {s0 : Int32} {s1 : Nat} {h : qH} {h' : qH} (hyp : fX6_advance_b127 n v0 s0 s1 h = some h') : q_W l 10 yX6_advance cX6_advance 2 none none h' 127 [(0, .ref v0)] [.int s0, .ref s1] h := by
  unfold fX6_advance_b127 at hyp
  refine q_bind hyp (fun h1 e2 hyp => ?_)
  refine q_putF kF_X6_35 (fun _ => ⟨rfl, rfl⟩) dX6_advance_127 e2 ?_
  refine q_aload_n 0 rfl dX6_advance_130 ?_
  refine q_dup rfl dX6_advance_131 ?_
  refine q_bind hyp (fun x3 e4 hyp => ?_)
  refine q_getI kF_X6_23 dX6_advance_132 e4 ?_
  refine q_iconst (x := 1) rfl dX6_advance_135 ?_
  refine q_iadd dX6_advance_136 ?_
  refine q_bind hyp (fun h5 e6 hyp => ?_)
  refine q_putF kF_X6_23 (fun _ => ⟨rfl, rfl⟩) dX6_advance_137 e6 ?_
  exact q_vretH rfl dX6_advance_140 hyp
def fX6_advance_b50 (n : Nat) (v0 : Nat) (h : qH) : Option (qH) :=
  (gI h v0 6 2).bind fun x1 =>
  (pF h v0 6 3 (.int x1)).bind fun h3 =>
  (gI h3 v0 6 2).bind fun x5 =>
  (fX6_signAt v0 x5 h3).bind fun p7 =>
  (gI p7.2 v0 6 2).bind fun x8 =>
  (gI p7.2 v0 6 1).bind fun x10 =>
  if x8 < x10 then
  ((fX6_isLetter p7.1 p7.2).bind fun p13 =>
  if p13.1 = 0 then
  ((fX6_isDigit p7.1 p13.2).bind fun p15 =>
  if p15.1 = 0 then
  ((fX6_isSign p7.1 p15.2).bind fun p17 =>
  if p17.1 = 0 then
  (fX6_advance_b127 n v0 1 v0 p17.2)
  else
  (fX6_advance_b127 n v0 p7.1 v0 p17.2))
  else
  ((fX6_readNumber n v0 p15.2).bind fun h20 =>
  some h20))
  else
  ((fX6_readWord n v0 p13.2).bind fun h23 =>
  some h23))
  else
  ((pF p7.2 v0 6 4 (.int 0)).bind fun h26 =>
  some h26)
set_option maxHeartbeats 4000000 in
set_option maxRecDepth 100000 in
theorem okX6_advance_b50 {l : Launch} {n : Nat} {v0 : Nat} {h : qH} {h' : qH} (hyp : fX6_advance_b50 n v0 h = some h') : q_W l 10 yX6_advance cX6_advance 2 none none h' 50 [(0, .ref v0)] [] h := by
  unfold fX6_advance_b50 at hyp
  refine q_aload_n 0 rfl dX6_advance_50 ?_
  refine q_aload_n 0 rfl dX6_advance_51 ?_
  refine q_bind hyp (fun x1 e2 hyp => ?_)
  refine q_getI kF_X6_23 dX6_advance_52 e2 ?_
  refine q_bind hyp (fun h3 e4 hyp => ?_)
  refine q_putF kF_X6_32 (fun _ => ⟨rfl, rfl⟩) dX6_advance_55 e4 ?_
  refine q_aload_n 0 rfl dX6_advance_58 ?_
  refine q_aload_n 0 rfl dX6_advance_59 ?_
  refine q_bind hyp (fun x5 e6 hyp => ?_)
  refine q_getI kF_X6_23 dX6_advance_60 e6 ?_
  refine q_bind hyp (fun p7 e28 hyp => ?_)
  refine q_callV (as := [.int x5]) (st := []) kY_X6_signAt kL_X6_58 (okX6_signAt (l := l) e28) (by decide) rfl (obX6_signAt e28) (Nat.le_of_ble_eq_true rfl) dX6_advance_63 ?_
  refine q_to (ls' := [(0, .ref v0)]) (st' := [.int p7.1]) rfl rfl ?_
  refine q_istore_n (ls' := [(1, .int p7.1), (0, .ref v0)]) (by decide) rfl dX6_advance_66 ?_
  refine q_aload_n 1 rfl dX6_advance_67 ?_
  refine q_bind hyp (fun x8 e9 hyp => ?_)
  refine q_getI kF_X6_23 dX6_advance_68 e9 ?_
  refine q_aload_n 1 rfl dX6_advance_71 ?_
  refine q_bind hyp (fun x10 e11 hyp => ?_)
  refine q_getI kF_X6_19 dX6_advance_72 e11 ?_
  refine q_icmp_lt (tgt := 86) dX6_advance_75 (by decide) (fun c12 => ?_) (fun c12 => ?_)
  · have hyp := q_pos c12 hyp
    refine q_iload_n 0 rfl dX6_advance_86 ?_
    refine q_bind hyp (fun p13 e25 hyp => ?_)
    refine q_callS (as := [.int p7.1]) (st := []) kY_X6_isLetter kS_X6_isLetter kL_X6_62 (okX6_isLetter (l := l) e25) (by decide) rfl (Nat.le_of_ble_eq_true rfl) dX6_advance_87 ?_
    refine q_to (ls' := [(1, .int p7.1), (0, .ref v0)]) (st' := [.int p13.1]) rfl rfl ?_
    refine q_if_eq (tgt := 100) dX6_advance_90 (by decide) (fun c14 => ?_) (fun c14 => ?_)
    · have hyp := q_pos c14 hyp
      refine q_iload_n 0 rfl dX6_advance_100 ?_
      refine q_bind hyp (fun p15 e22 hyp => ?_)
      refine q_callS (as := [.int p7.1]) (st := []) kY_X6_isDigit kS_X6_isDigit kL_X6_68 (okX6_isDigit (l := l) e22) (by decide) rfl (Nat.le_of_ble_eq_true rfl) dX6_advance_101 ?_
      refine q_to (ls' := [(1, .int p7.1), (0, .ref v0)]) (st' := [.int p15.1]) rfl rfl ?_
      refine q_if_eq (tgt := 114) dX6_advance_104 (by decide) (fun c16 => ?_) (fun c16 => ?_)
      · have hyp := q_pos c16 hyp
        refine q_aload_n 1 rfl dX6_advance_114 ?_
        refine q_iload_n 0 rfl dX6_advance_115 ?_
        refine q_bind hyp (fun p17 e19 hyp => ?_)
        refine q_callS (as := [.int p7.1]) (st := [.ref v0]) kY_X6_isSign kS_X6_isSign kL_X6_74 (okX6_isSign (l := l) e19) (by decide) rfl (Nat.le_of_ble_eq_true rfl) dX6_advance_116 ?_
        refine q_to (ls' := [(1, .int p7.1), (0, .ref v0)]) (st' := [.int p17.1, .ref v0]) rfl rfl ?_
        refine q_if_eq (tgt := 126) dX6_advance_119 (by decide) (fun c18 => ?_) (fun c18 => ?_)
        · have hyp := q_pos c18 hyp
          refine q_iconst (x := 1) rfl dX6_advance_126 ?_
          exact q_sub [1] rfl (okX6_advance_b127 hyp)
        · have hyp := q_neg c18 hyp
          refine q_iload_n 0 rfl dX6_advance_122 ?_
          refine q_goto (tgt := 127) dX6_advance_123 (by decide) ?_
          exact q_sub [1] rfl (okX6_advance_b127 hyp)
      · have hyp := q_neg c16 hyp
        refine q_aload_n 1 rfl dX6_advance_107 ?_
        refine q_bind hyp (fun h20 e21 hyp => ?_)
        refine q_callV (as := []) (st := []) kY_X6_readNumber kL_X6_71 (okX6_readNumber (l := l) e21) (by decide) rfl (obX6_readNumber e21) (Nat.le_of_ble_eq_true rfl) dX6_advance_108 ?_
        refine q_to (ls' := [(1, .int p7.1), (0, .ref v0)]) (st' := []) rfl rfl ?_
        refine q_goto (tgt := 140) dX6_advance_111 (by decide) ?_
        exact q_vretH rfl dX6_advance_140 hyp
    · have hyp := q_neg c14 hyp
      refine q_aload_n 1 rfl dX6_advance_93 ?_
      refine q_bind hyp (fun h23 e24 hyp => ?_)
      refine q_callV (as := []) (st := []) kY_X6_readWord kL_X6_65 (okX6_readWord (l := l) e24) (by decide) rfl (obX6_readWord e24) (Nat.le_of_ble_eq_true rfl) dX6_advance_94 ?_
      refine q_to (ls' := [(1, .int p7.1), (0, .ref v0)]) (st' := []) rfl rfl ?_
      refine q_goto (tgt := 140) dX6_advance_97 (by decide) ?_
      exact q_vretH rfl dX6_advance_140 hyp
  · have hyp := q_neg c12 hyp
    refine q_aload_n 1 rfl dX6_advance_78 ?_
    refine q_iconst (x := 0) rfl dX6_advance_79 ?_
    refine q_bind hyp (fun h26 e27 hyp => ?_)
    refine q_putF kF_X6_35 (fun _ => ⟨rfl, rfl⟩) dX6_advance_80 e27 ?_
    refine q_goto (tgt := 140) dX6_advance_83 (by decide) ?_
    exact q_vretH rfl dX6_advance_140 hyp
def fX6_advance_b37 (n : Nat) (K0 : Nat → qH → Option (qH)) (v0 : Nat) (h : qH) : Option (qH) :=
  (gI h v0 6 2).bind fun x1 =>
  (pF h v0 6 2 (.int (x1 + 1))).bind fun h3 =>
  K0 v0 h3
set_option maxHeartbeats 4000000 in
set_option maxRecDepth 100000 in
theorem okX6_advance_b37 {l : Launch} {n : Nat} {K0 : Nat → qH → Option (qH)} {v0 : Nat} {h : qH} {h' : qH} (hK0 : ∀ (v0 : Nat) (h : qH), K0 v0 h = some h' → q_W l 10 yX6_advance cX6_advance 2 none none h' 0 [(0, .ref v0)] [] h) (hyp : fX6_advance_b37 n K0 v0 h = some h') : q_W l 10 yX6_advance cX6_advance 2 none none h' 37 [(0, .ref v0)] [] h := by
  unfold fX6_advance_b37 at hyp
  refine q_aload_n 0 rfl dX6_advance_37 ?_
  refine q_dup rfl dX6_advance_38 ?_
  refine q_bind hyp (fun x1 e2 hyp => ?_)
  refine q_getI kF_X6_23 dX6_advance_39 e2 ?_
  refine q_iconst (x := 1) rfl dX6_advance_42 ?_
  refine q_iadd dX6_advance_43 ?_
  refine q_bind hyp (fun h3 e4 hyp => ?_)
  refine q_putF kF_X6_23 (fun _ => ⟨rfl, rfl⟩) dX6_advance_44 e4 ?_
  refine q_goto (tgt := 0) dX6_advance_47 (by decide) ?_
  exact q_sub [0] rfl (hK0 v0 h3 hyp)
def fX6_advance_b0 (n : Nat) : Nat → Nat → qH → Option (qH)
  | 0, _, _ => none
  | w + 1, v0, h =>
    (gI h v0 6 2).bind fun x1 =>
    (gI h v0 6 1).bind fun x3 =>
    if x3 ≤ x1 then
    (fX6_advance_b50 n v0 h)
    else
    ((gI h v0 6 2).bind fun x6 =>
    (fX6_signAt v0 x6 h).bind fun p8 =>
    if p8.1 = 32 then
    (fX6_advance_b37 n (fX6_advance_b0 n w) v0 p8.2)
    else
    ((gI p8.2 v0 6 2).bind fun x10 =>
    (fX6_signAt v0 x10 p8.2).bind fun p12 =>
    if p12.1 = 10 then
    (fX6_advance_b37 n (fX6_advance_b0 n w) v0 p12.2)
    else
    (fX6_advance_b50 n v0 p12.2)))
set_option maxHeartbeats 4000000 in
set_option maxRecDepth 100000 in
theorem okX6_advance_b0 {l : Launch} {n : Nat} {h' : qH} : ∀ (w : Nat) (v0 : Nat) (h : qH), fX6_advance_b0 n w v0 h = some h' → q_W l 10 yX6_advance cX6_advance 2 none none h' 0 [(0, .ref v0)] [] h := by
  intro w
  induction w with
  | zero => intro v0 h hyp; cases hyp
  | succ w ih =>
    intro v0 h hyp
    unfold fX6_advance_b0 at hyp
    refine q_aload_n 0 rfl dX6_advance_0 ?_
    refine q_bind hyp (fun x1 e2 hyp => ?_)
    refine q_getI kF_X6_23 dX6_advance_1 e2 ?_
    refine q_aload_n 0 rfl dX6_advance_4 ?_
    refine q_bind hyp (fun x3 e4 hyp => ?_)
    refine q_getI kF_X6_19 dX6_advance_5 e4 ?_
    refine q_icmp_ge (tgt := 50) dX6_advance_8 (by decide) (fun c5 => ?_) (fun c5 => ?_)
    · have hyp := q_pos c5 hyp
      exact q_sub [0] rfl (okX6_advance_b50 hyp)
    · have hyp := q_neg c5 hyp
      refine q_aload_n 0 rfl dX6_advance_11 ?_
      refine q_aload_n 0 rfl dX6_advance_12 ?_
      refine q_bind hyp (fun x6 e7 hyp => ?_)
      refine q_getI kF_X6_23 dX6_advance_13 e7 ?_
      refine q_bind hyp (fun p8 e15 hyp => ?_)
      refine q_callV (as := [.int x6]) (st := []) kY_X6_signAt kL_X6_58 (okX6_signAt (l := l) e15) (by decide) rfl (obX6_signAt e15) (Nat.le_of_ble_eq_true rfl) dX6_advance_16 ?_
      refine q_to (ls' := [(0, .ref v0)]) (st' := [.int p8.1]) rfl rfl ?_
      refine q_bipush (x := 32) (by decide) dX6_advance_19 ?_
      refine q_icmp_eq (tgt := 37) dX6_advance_21 (by decide) (fun c9 => ?_) (fun c9 => ?_)
      · have hyp := q_pos c9 hyp
        exact q_sub [0] rfl (okX6_advance_b37 ih hyp)
      · have hyp := q_neg c9 hyp
        refine q_aload_n 0 rfl dX6_advance_24 ?_
        refine q_aload_n 0 rfl dX6_advance_25 ?_
        refine q_bind hyp (fun x10 e11 hyp => ?_)
        refine q_getI kF_X6_23 dX6_advance_26 e11 ?_
        refine q_bind hyp (fun p12 e14 hyp => ?_)
        refine q_callV (as := [.int x10]) (st := []) kY_X6_signAt kL_X6_58 (okX6_signAt (l := l) e14) (by decide) rfl (obX6_signAt e14) (Nat.le_of_ble_eq_true rfl) dX6_advance_29 ?_
        refine q_to (ls' := [(0, .ref v0)]) (st' := [.int p12.1]) rfl rfl ?_
        refine q_bipush (x := 10) (by decide) dX6_advance_32 ?_
        refine q_icmp_ne (tgt := 50) dX6_advance_34 (by decide) (fun c13 => ?_) (fun c13 => ?_)
        · have hyp := q_neg c13 hyp
          exact q_sub [0] rfl (okX6_advance_b50 hyp)
        · have hyp := q_pos c13 hyp
          exact q_sub [0] rfl (okX6_advance_b37 ih hyp)
def fX6_advance (n : Nat) (v0 : Nat) (h : qH) : Option (qH) :=
  (isO h v0 6).bind fun _ =>
  fX6_advance_b0 n n v0 h
theorem obX6_advance {n : Nat} {v0 : Nat} {h : qH} {p : qH} (hyp : fX6_advance n v0 h = some p) : ∃ fs, h.1 v0 = some (.inr (6, fs)) := by
  unfold fX6_advance at hyp
  exact q_bind hyp (fun _ e _ => isO_some e)
set_option maxHeartbeats 4000000 in
set_option maxRecDepth 100000 in
theorem okX6_advance {l : Launch} {n : Nat} {v0 : Nat} {h : qH} {h' : qH} (hyp : fX6_advance n v0 h = some h') : q_M l 10 yX6_advance cX6_advance 2 none [.ref v0] h none h' := by
  unfold fX6_advance at hyp
  refine q_bind hyp (fun _ _ hyp => ?_)
  refine q_M.of (by decide) (Nat.le_of_ble_eq_true rfl) ?_
  refine q_to (ls' := [(0, .ref v0)]) (st' := []) rfl rfl ?_
  exact q_sub [0] rfl (okX6_advance_b0 _ v0 h hyp)
theorem dX9_bit_0 : decode cX9_bit 0 = .ok (.iload_n 0, 1) := by decide +kernel
theorem dX9_bit_1 : decode cX9_bit 1 = .ok (.iload_n 1, 1) := by decide +kernel
theorem dX9_bit_2 : decode cX9_bit 2 = .ok (.ishr, 1) := by decide +kernel
theorem dX9_bit_3 : decode cX9_bit 3 = .ok (.iconst 1, 1) := by decide +kernel
theorem dX9_bit_4 : decode cX9_bit 4 = .ok (.iand, 1) := by decide +kernel
theorem dX9_bit_5 : decode cX9_bit 5 = .ok (.ireturn, 1) := by decide +kernel
def fX9_bit (v0 : Int32) (v1 : Int32) (h : qH) : Option (Int32 × qH) :=
  some ((v0 >>> (v1 &&& 31)) &&& 1, h)
set_option maxHeartbeats 4000000 in
set_option maxRecDepth 100000 in
theorem okX9_bit {l : Launch} {v0 : Int32} {v1 : Int32} {h : qH} {p : Int32 × qH} (hyp : fX9_bit v0 v1 h = some p) : q_M l 1 yX9_bit cX9_bit 2 (some .int) [.int v0, .int v1] h (some (.int p.1)) p.2 := by
  obtain ⟨r, h'⟩ := p
  unfold fX9_bit at hyp
  refine q_M.of (by decide) (Nat.le_of_ble_eq_true rfl) ?_
  refine q_to (ls' := [(0, .int v0), (1, .int v1)]) (st' := []) rfl rfl ?_
  refine q_iload_n 0 rfl dX9_bit_0 ?_
  refine q_iload_n 1 rfl dX9_bit_1 ?_
  refine q_ishr dX9_bit_2 ?_
  refine q_iconst (x := 1) rfl dX9_bit_3 ?_
  refine q_iand dX9_bit_4 ?_
  exact q_iretH rfl rfl dX9_bit_5 hyp
theorem dX4_readLed_0 : decode cX4_readLed 0 = .ok (.aload_n 0, 1) := by decide +kernel
theorem dX4_readLed_1 : decode cX4_readLed 1 = .ok (.getfield 9, 3) := by decide +kernel
theorem dX4_readLed_4 : decode cX4_readLed 4 = .ok (.invokevirtual 60, 3) := by decide +kernel
theorem dX4_readLed_7 : decode cX4_readLed 7 = .ok (.aload_n 0, 1) := by decide +kernel
theorem dX4_readLed_8 : decode cX4_readLed 8 = .ok (.aload_n 1, 1) := by decide +kernel
theorem dX4_readLed_9 : decode cX4_readLed 9 = .ok (.invokevirtual 110, 3) := by decide +kernel
theorem dX4_readLed_12 : decode cX4_readLed 12 = .ok (.istore_n 2, 1) := by decide +kernel
theorem dX4_readLed_13 : decode cX4_readLed 13 = .ok (.iload_n 2, 1) := by decide +kernel
theorem dX4_readLed_14 : decode cX4_readLed 14 = .ok (.iconst (-1), 1) := by decide +kernel
theorem dX4_readLed_15 : decode cX4_readLed 15 = .ok (.if_icmp .ne 4, 3) := by decide +kernel
theorem dX4_readLed_18 : decode cX4_readLed 18 = .ok (.return_, 1) := by decide +kernel
theorem dX4_readLed_19 : decode cX4_readLed 19 = .ok (.aload_n 0, 1) := by decide +kernel
theorem dX4_readLed_20 : decode cX4_readLed 20 = .ok (.getfield 9, 3) := by decide +kernel
theorem dX4_readLed_23 : decode cX4_readLed 23 = .ok (.invokevirtual 60, 3) := by decide +kernel
theorem dX4_readLed_26 : decode cX4_readLed 26 = .ok (.aload_n 0, 1) := by decide +kernel
theorem dX4_readLed_27 : decode cX4_readLed 27 = .ok (.aload_n 1, 1) := by decide +kernel
theorem dX4_readLed_28 : decode cX4_readLed 28 = .ok (.invokevirtual 110, 3) := by decide +kernel
theorem dX4_readLed_31 : decode cX4_readLed 31 = .ok (.istore_n 3, 1) := by decide +kernel
theorem dX4_readLed_32 : decode cX4_readLed 32 = .ok (.iload_n 3, 1) := by decide +kernel
theorem dX4_readLed_33 : decode cX4_readLed 33 = .ok (.iconst (-1), 1) := by decide +kernel
theorem dX4_readLed_34 : decode cX4_readLed 34 = .ok (.if_icmp .ne 4, 3) := by decide +kernel
theorem dX4_readLed_37 : decode cX4_readLed 37 = .ok (.return_, 1) := by decide +kernel
theorem dX4_readLed_38 : decode cX4_readLed 38 = .ok (.aload_n 1, 1) := by decide +kernel
theorem dX4_readLed_39 : decode cX4_readLed 39 = .ok (.getfield 81, 3) := by decide +kernel
theorem dX4_readLed_42 : decode cX4_readLed 42 = .ok (.iload_n 3, 1) := by decide +kernel
theorem dX4_readLed_43 : decode cX4_readLed 43 = .ok (.iaload, 1) := by decide +kernel
theorem dX4_readLed_44 : decode cX4_readLed 44 = .ok (.aload_n 1, 1) := by decide +kernel
theorem dX4_readLed_45 : decode cX4_readLed 45 = .ok (.getfield 81, 3) := by decide +kernel
theorem dX4_readLed_48 : decode cX4_readLed 48 = .ok (.iload_n 2, 1) := by decide +kernel
theorem dX4_readLed_49 : decode cX4_readLed 49 = .ok (.iaload, 1) := by decide +kernel
theorem dX4_readLed_50 : decode cX4_readLed 50 = .ok (.if_icmp .le 17, 3) := by decide +kernel
theorem dX4_readLed_53 : decode cX4_readLed 53 = .ok (.aload_n 1, 1) := by decide +kernel
theorem dX4_readLed_54 : decode cX4_readLed 54 = .ok (.getfield 91, 3) := by decide +kernel
theorem dX4_readLed_57 : decode cX4_readLed 57 = .ok (.iload_n 2, 1) := by decide +kernel
theorem dX4_readLed_58 : decode cX4_readLed 58 = .ok (.iaload, 1) := by decide +kernel
theorem dX4_readLed_59 : decode cX4_readLed 59 = .ok (.iload_n 3, 1) := by decide +kernel
theorem dX4_readLed_60 : decode cX4_readLed 60 = .ok (.invokestatic 114, 3) := by decide +kernel
theorem dX4_readLed_63 : decode cX4_readLed 63 = .ok (.iconst 1, 1) := by decide +kernel
theorem dX4_readLed_64 : decode cX4_readLed 64 = .ok (.if_icmp .ne 12, 3) := by decide +kernel
theorem dX4_readLed_67 : decode cX4_readLed 67 = .ok (.aload_n 0, 1) := by decide +kernel
theorem dX4_readLed_68 : decode cX4_readLed 68 = .ok (.getfield 9, 3) := by decide +kernel
theorem dX4_readLed_71 : decode cX4_readLed 71 = .ok (.iconst 3, 1) := by decide +kernel
theorem dX4_readLed_72 : decode cX4_readLed 72 = .ok (.invokevirtual 47, 3) := by decide +kernel
theorem dX4_readLed_75 : decode cX4_readLed 75 = .ok (.return_, 1) := by decide +kernel
theorem dX4_readLed_76 : decode cX4_readLed 76 = .ok (.aload_n 1, 1) := by decide +kernel
theorem dX4_readLed_77 : decode cX4_readLed 77 = .ok (.getfield 91, 3) := by decide +kernel
theorem dX4_readLed_80 : decode cX4_readLed 80 = .ok (.iload_n 2, 1) := by decide +kernel
theorem dX4_readLed_81 : decode cX4_readLed 81 = .ok (.dup2, 1) := by decide +kernel
theorem dX4_readLed_82 : decode cX4_readLed 82 = .ok (.iaload, 1) := by decide +kernel
theorem dX4_readLed_83 : decode cX4_readLed 83 = .ok (.iconst 1, 1) := by decide +kernel
theorem dX4_readLed_84 : decode cX4_readLed 84 = .ok (.iload_n 3, 1) := by decide +kernel
theorem dX4_readLed_85 : decode cX4_readLed 85 = .ok (.ishl, 1) := by decide +kernel
theorem dX4_readLed_86 : decode cX4_readLed 86 = .ok (.ior, 1) := by decide +kernel
theorem dX4_readLed_87 : decode cX4_readLed 87 = .ok (.iastore, 1) := by decide +kernel
theorem dX4_readLed_88 : decode cX4_readLed 88 = .ok (.aload_n 0, 1) := by decide +kernel
theorem dX4_readLed_89 : decode cX4_readLed 89 = .ok (.getfield 9, 3) := by decide +kernel
theorem dX4_readLed_92 : decode cX4_readLed 92 = .ok (.invokevirtual 60, 3) := by decide +kernel
theorem dX4_readLed_95 : decode cX4_readLed 95 = .ok (.return_, 1) := by decide +kernel
def fX4_readLed_b67 (n : Nat) (v0 : Nat) (h : qH) : Option (qH) :=
  (gR h v0 4 0).bind fun x1 =>
  (fX6_fail x1 3 h).bind fun h3 =>
  some h3
set_option maxHeartbeats 4000000 in
set_option maxRecDepth 100000 in
theorem okX4_readLed_b67 {l : Launch} {n : Nat} {v0 : Nat} {h : qH} {h' : qH} (hyp : fX4_readLed_b67 n v0 h = some h') : q_W l 11 yX4_readLed cX4_readLed 4 none none h' 67 [(0, .ref v0)] [] h := by
  unfold fX4_readLed_b67 at hyp
  refine q_aload_n 0 rfl dX4_readLed_67 ?_
  refine q_bind hyp (fun x1 e2 hyp => ?_)
  refine q_getR kF_X4_9 dX4_readLed_68 e2 ?_
  refine q_iconst (x := 3) rfl dX4_readLed_71 ?_
  refine q_bind hyp (fun h3 e4 hyp => ?_)
  refine q_callV (as := [.int 3]) (st := []) kY_X6_fail kL_X4_47 (okX6_fail (l := l) e4) (by decide) rfl (obX6_fail e4) (Nat.le_of_ble_eq_true rfl) dX4_readLed_72 ?_
  refine q_to (ls' := [(0, .ref v0)]) (st' := []) rfl rfl ?_
  exact q_vretH rfl dX4_readLed_75 hyp
def fX4_readLed (n : Nat) (v0 : Nat) (v1 : Nat) (h : qH) : Option (qH) :=
  (isO h v0 4).bind fun _ =>
  (gR h v0 4 0).bind fun x1 =>
  (fX6_advance n x1 h).bind fun h3 =>
  (fX4_matterHere n v0 v1 h3).bind fun p4 =>
  if p4.1 = ((-1)) then
  (some p4.2)
  else
  ((gR p4.2 v0 4 0).bind fun x6 =>
  (fX6_advance n x6 p4.2).bind fun h8 =>
  (fX4_matterHere n v0 v1 h8).bind fun p9 =>
  if p9.1 = ((-1)) then
  (some p9.2)
  else
  ((gR p9.2 v1 5 2).bind fun x11 =>
  (aI .int p9.2 x11 p9.1).bind fun x13 =>
  (gR p9.2 v1 5 2).bind fun x15 =>
  (aI .int p9.2 x15 p4.1).bind fun x17 =>
  if x13 ≤ x17 then
  (fX4_readLed_b67 n v0 p9.2)
  else
  ((gR p9.2 v1 5 4).bind fun x20 =>
  (aI .int p9.2 x20 p4.1).bind fun x22 =>
  (fX9_bit x22 p9.1 p9.2).bind fun p24 =>
  if p24.1 = 1 then
  (fX4_readLed_b67 n v0 p24.2)
  else
  ((gR p24.2 v1 5 4).bind fun x26 =>
  (aI .int p24.2 x26 p4.1).bind fun x28 =>
  (sI .int p24.2 x26 p4.1 (x28 ||| ((1 : Int32) <<< (p9.1 &&& 31)))).bind fun h30 =>
  (gR h30 v0 4 0).bind fun x32 =>
  (fX6_advance n x32 h30).bind fun h34 =>
  some h34))))
theorem obX4_readLed {n : Nat} {v0 : Nat} {v1 : Nat} {h : qH} {p : qH} (hyp : fX4_readLed n v0 v1 h = some p) : ∃ fs, h.1 v0 = some (.inr (4, fs)) := by
  unfold fX4_readLed at hyp
  exact q_bind hyp (fun _ e _ => isO_some e)
set_option maxHeartbeats 4000000 in
set_option maxRecDepth 100000 in
theorem okX4_readLed {l : Launch} {n : Nat} {v0 : Nat} {v1 : Nat} {h : qH} {h' : qH} (hyp : fX4_readLed n v0 v1 h = some h') : q_M l 11 yX4_readLed cX4_readLed 4 none [.ref v0, .ref v1] h none h' := by
  unfold fX4_readLed at hyp
  refine q_bind hyp (fun _ _ hyp => ?_)
  refine q_M.of (by decide) (Nat.le_of_ble_eq_true rfl) ?_
  refine q_to (ls' := [(0, .ref v0), (1, .ref v1)]) (st' := []) rfl rfl ?_
  refine q_aload_n 0 rfl dX4_readLed_0 ?_
  refine q_bind hyp (fun x1 e2 hyp => ?_)
  refine q_getR kF_X4_9 dX4_readLed_1 e2 ?_
  refine q_bind hyp (fun h3 e40 hyp => ?_)
  refine q_callV (as := []) (st := []) kY_X6_advance kL_X4_60 (okX6_advance (l := l) e40) (by decide) rfl (obX6_advance e40) (Nat.le_of_ble_eq_true rfl) dX4_readLed_4 ?_
  refine q_to (ls' := [(0, .ref v0), (1, .ref v1)]) (st' := []) rfl rfl ?_
  refine q_aload_n 0 rfl dX4_readLed_7 ?_
  refine q_aload_n 1 rfl dX4_readLed_8 ?_
  refine q_bind hyp (fun p4 e39 hyp => ?_)
  refine q_callV (as := [.ref v1]) (st := []) kY_X4_matterHere kL_X4_110 (okX4_matterHere (l := l) e39) (by decide) rfl (obX4_matterHere e39) (Nat.le_of_ble_eq_true rfl) dX4_readLed_9 ?_
  refine q_to (ls' := [(0, .ref v0), (1, .ref v1)]) (st' := [.int p4.1]) rfl rfl ?_
  refine q_istore_n (ls' := [(2, .int p4.1), (0, .ref v0), (1, .ref v1)]) (by decide) rfl dX4_readLed_12 ?_
  refine q_iload_n 0 rfl dX4_readLed_13 ?_
  refine q_iconst (x := (-1)) rfl dX4_readLed_14 ?_
  refine q_icmp_ne (tgt := 19) dX4_readLed_15 (by decide) (fun c5 => ?_) (fun c5 => ?_)
  · have hyp := q_neg c5 hyp
    refine q_aload_n 1 rfl dX4_readLed_19 ?_
    refine q_bind hyp (fun x6 e7 hyp => ?_)
    refine q_getR kF_X4_9 dX4_readLed_20 e7 ?_
    refine q_bind hyp (fun h8 e38 hyp => ?_)
    refine q_callV (as := []) (st := []) kY_X6_advance kL_X4_60 (okX6_advance (l := l) e38) (by decide) rfl (obX6_advance e38) (Nat.le_of_ble_eq_true rfl) dX4_readLed_23 ?_
    refine q_to (ls' := [(2, .int p4.1), (0, .ref v0), (1, .ref v1)]) (st' := []) rfl rfl ?_
    refine q_aload_n 1 rfl dX4_readLed_26 ?_
    refine q_aload_n 2 rfl dX4_readLed_27 ?_
    refine q_bind hyp (fun p9 e37 hyp => ?_)
    refine q_callV (as := [.ref v1]) (st := []) kY_X4_matterHere kL_X4_110 (okX4_matterHere (l := l) e37) (by decide) rfl (obX4_matterHere e37) (Nat.le_of_ble_eq_true rfl) dX4_readLed_28 ?_
    refine q_to (ls' := [(2, .int p4.1), (0, .ref v0), (1, .ref v1)]) (st' := [.int p9.1]) rfl rfl ?_
    refine q_istore_n (ls' := [(3, .int p9.1), (2, .int p4.1), (0, .ref v0), (1, .ref v1)]) (by decide) rfl dX4_readLed_31 ?_
    refine q_iload_n 0 rfl dX4_readLed_32 ?_
    refine q_iconst (x := (-1)) rfl dX4_readLed_33 ?_
    refine q_icmp_ne (tgt := 38) dX4_readLed_34 (by decide) (fun c10 => ?_) (fun c10 => ?_)
    · have hyp := q_neg c10 hyp
      refine q_aload_n 3 rfl dX4_readLed_38 ?_
      refine q_bind hyp (fun x11 e12 hyp => ?_)
      refine q_getR kF_X4_81 dX4_readLed_39 e12 ?_
      refine q_iload_n 0 rfl dX4_readLed_42 ?_
      refine q_bind hyp (fun x13 e14 hyp => ?_)
      refine q_iald dX4_readLed_43 e14 ?_
      refine q_aload_n 3 rfl dX4_readLed_44 ?_
      refine q_bind hyp (fun x15 e16 hyp => ?_)
      refine q_getR kF_X4_81 dX4_readLed_45 e16 ?_
      refine q_iload_n 1 rfl dX4_readLed_48 ?_
      refine q_bind hyp (fun x17 e18 hyp => ?_)
      refine q_iald dX4_readLed_49 e18 ?_
      refine q_icmp_le (tgt := 67) dX4_readLed_50 (by decide) (fun c19 => ?_) (fun c19 => ?_)
      · have hyp := q_pos c19 hyp
        exact q_sub [2] rfl (okX4_readLed_b67 hyp)
      · have hyp := q_neg c19 hyp
        refine q_aload_n 3 rfl dX4_readLed_53 ?_
        refine q_bind hyp (fun x20 e21 hyp => ?_)
        refine q_getR kF_X4_91 dX4_readLed_54 e21 ?_
        refine q_iload_n 1 rfl dX4_readLed_57 ?_
        refine q_bind hyp (fun x22 e23 hyp => ?_)
        refine q_iald dX4_readLed_58 e23 ?_
        refine q_iload_n 0 rfl dX4_readLed_59 ?_
        refine q_bind hyp (fun p24 e36 hyp => ?_)
        refine q_callS (as := [.int x22, .int p9.1]) (st := []) kY_X9_bit kS_X9_bit kL_X4_114 (okX9_bit (l := l) e36) (by decide) rfl (Nat.le_of_ble_eq_true rfl) dX4_readLed_60 ?_
        refine q_to (ls' := [(3, .int p9.1), (2, .int p4.1), (0, .ref v0), (1, .ref v1)]) (st' := [.int p24.1]) rfl rfl ?_
        refine q_iconst (x := 1) rfl dX4_readLed_63 ?_
        refine q_icmp_ne (tgt := 76) dX4_readLed_64 (by decide) (fun c25 => ?_) (fun c25 => ?_)
        · have hyp := q_neg c25 hyp
          refine q_aload_n 3 rfl dX4_readLed_76 ?_
          refine q_bind hyp (fun x26 e27 hyp => ?_)
          refine q_getR kF_X4_91 dX4_readLed_77 e27 ?_
          refine q_iload_n 1 rfl dX4_readLed_80 ?_
          refine q_dup2 rfl rfl dX4_readLed_81 ?_
          refine q_bind hyp (fun x28 e29 hyp => ?_)
          refine q_iald dX4_readLed_82 e29 ?_
          refine q_iconst (x := 1) rfl dX4_readLed_83 ?_
          refine q_iload_n 0 rfl dX4_readLed_84 ?_
          refine q_ishl dX4_readLed_85 ?_
          refine q_ior dX4_readLed_86 ?_
          refine q_bind hyp (fun h30 e31 hyp => ?_)
          refine q_iast dX4_readLed_87 e31 ?_
          refine q_aload_n 2 rfl dX4_readLed_88 ?_
          refine q_bind hyp (fun x32 e33 hyp => ?_)
          refine q_getR kF_X4_9 dX4_readLed_89 e33 ?_
          refine q_bind hyp (fun h34 e35 hyp => ?_)
          refine q_callV (as := []) (st := []) kY_X6_advance kL_X4_60 (okX6_advance (l := l) e35) (by decide) rfl (obX6_advance e35) (Nat.le_of_ble_eq_true rfl) dX4_readLed_92 ?_
          refine q_to (ls' := [(3, .int p9.1), (2, .int p4.1), (0, .ref v0), (1, .ref v1)]) (st' := []) rfl rfl ?_
          exact q_vretH rfl dX4_readLed_95 hyp
        · have hyp := q_pos c25 hyp
          exact q_sub [2] rfl (okX4_readLed_b67 hyp)
    · have hyp := q_pos c10 hyp
      exact q_vretH rfl dX4_readLed_37 hyp
  · have hyp := q_pos c5 hyp
    exact q_vretH rfl dX4_readLed_18 hyp
