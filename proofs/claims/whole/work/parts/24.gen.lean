/-! Functions over the abstract heap, and that the machine computes them (written by gen.py). -/
theorem dX10_dinners_0 : decode cX10_dinners 0 = .ok (.aload_n 0, 1) := by decide +kernel
theorem dX10_dinners_1 : decode cX10_dinners 1 = .ok (.iconst 0, 1) := by decide +kernel
theorem dX10_dinners_2 : decode cX10_dinners 2 = .ok (.putfield 136, 3) := by decide +kernel
theorem dX10_dinners_5 : decode cX10_dinners 5 = .ok (.iload_n 1, 1) := by decide +kernel
theorem dX10_dinners_6 : decode cX10_dinners 6 = .ok (.iconst 1, 1) := by decide +kernel
theorem dX10_dinners_7 : decode cX10_dinners 7 = .ok (.bipush 60, 2) := by decide +kernel
theorem dX10_dinners_9 : decode cX10_dinners 9 = .ok (.invokestatic 252, 3) := by decide +kernel
theorem dX10_dinners_12 : decode cX10_dinners 12 = .ok (.ifCond .ne 5, 3) := by decide +kernel
theorem dX10_dinners_15 : decode cX10_dinners 15 = .ok (.iconst (-1), 1) := by decide +kernel
theorem dX10_dinners_16 : decode cX10_dinners 16 = .ok (.ireturn, 1) := by decide +kernel
theorem dX10_dinners_17 : decode cX10_dinners 17 = .ok (.aload_n 0, 1) := by decide +kernel
theorem dX10_dinners_18 : decode cX10_dinners 18 = .ok (.getfield 99, 3) := by decide +kernel
theorem dX10_dinners_21 : decode cX10_dinners 21 = .ok (.iconst 0, 1) := by decide +kernel
theorem dX10_dinners_22 : decode cX10_dinners 22 = .ok (.aload_n 0, 1) := by decide +kernel
theorem dX10_dinners_23 : decode cX10_dinners 23 = .ok (.getfield 105, 3) := by decide +kernel
theorem dX10_dinners_26 : decode cX10_dinners 26 = .ok (.iconst 0, 1) := by decide +kernel
theorem dX10_dinners_27 : decode cX10_dinners 27 = .ok (.invokestatic 355, 3) := by decide +kernel
theorem dX10_dinners_30 : decode cX10_dinners 30 = .ok (.iconst 0, 1) := by decide +kernel
theorem dX10_dinners_31 : decode cX10_dinners 31 = .ok (.istore_n 2, 1) := by decide +kernel
theorem dX10_dinners_32 : decode cX10_dinners 32 = .ok (.iconst 0, 1) := by decide +kernel
theorem dX10_dinners_33 : decode cX10_dinners 33 = .ok (.istore_n 3, 1) := by decide +kernel
theorem dX10_dinners_34 : decode cX10_dinners 34 = .ok (.iload_n 3, 1) := by decide +kernel
theorem dX10_dinners_35 : decode cX10_dinners 35 = .ok (.iload_n 1, 1) := by decide +kernel
theorem dX10_dinners_36 : decode cX10_dinners 36 = .ok (.if_icmp .ge 23, 3) := by decide +kernel
theorem dX10_dinners_39 : decode cX10_dinners 39 = .ok (.aload_n 0, 1) := by decide +kernel
theorem dX10_dinners_40 : decode cX10_dinners 40 = .ok (.invokevirtual 368, 3) := by decide +kernel
theorem dX10_dinners_43 : decode cX10_dinners 43 = .ok (.iload_n 2, 1) := by decide +kernel
theorem dX10_dinners_44 : decode cX10_dinners 44 = .ok (.aload_n 0, 1) := by decide +kernel
theorem dX10_dinners_45 : decode cX10_dinners 45 = .ok (.invokevirtual 349, 3) := by decide +kernel
theorem dX10_dinners_48 : decode cX10_dinners 48 = .ok (.invokestatic 371, 3) := by decide +kernel
theorem dX10_dinners_51 : decode cX10_dinners 51 = .ok (.iadd, 1) := by decide +kernel
theorem dX10_dinners_52 : decode cX10_dinners 52 = .ok (.istore_n 2, 1) := by decide +kernel
theorem dX10_dinners_53 : decode cX10_dinners 53 = .ok (.iinc 3 1, 3) := by decide +kernel
theorem dX10_dinners_56 : decode cX10_dinners 56 = .ok (.goto (-22), 3) := by decide +kernel
theorem dX10_dinners_59 : decode cX10_dinners 59 = .ok (.aload_n 0, 1) := by decide +kernel
theorem dX10_dinners_60 : decode cX10_dinners 60 = .ok (.getfield 105, 3) := by decide +kernel
theorem dX10_dinners_63 : decode cX10_dinners 63 = .ok (.iconst 0, 1) := by decide +kernel
theorem dX10_dinners_64 : decode cX10_dinners 64 = .ok (.aload_n 0, 1) := by decide +kernel
theorem dX10_dinners_65 : decode cX10_dinners 65 = .ok (.getfield 99, 3) := by decide +kernel
theorem dX10_dinners_68 : decode cX10_dinners 68 = .ok (.iconst 0, 1) := by decide +kernel
theorem dX10_dinners_69 : decode cX10_dinners 69 = .ok (.invokestatic 355, 3) := by decide +kernel
theorem dX10_dinners_72 : decode cX10_dinners 72 = .ok (.iload_n 2, 1) := by decide +kernel
theorem dX10_dinners_73 : decode cX10_dinners 73 = .ok (.ireturn, 1) := by decide +kernel
def fX10_dinners_b34 (n : Nat) : Nat → Nat → Int32 → Int32 → Int32 → qH → Option (Int32 × qH)
  | 0, _, _, _, _, _ => none
  | w + 1, v0, v1, v2, v3, h =>
    if v1 ≤ v3 then
    ((gR h v0 10 43).bind fun x2 =>
    (gR h v0 10 41).bind fun x4 =>
    (fX10_copies n x2 0 x4 0 h).bind fun h6 =>
    some (v2, h6))
    else
    ((fX10_passes n v0 h).bind fun h8 =>
    (fX10_meantNow n v0 h8).bind fun p9 =>
    (fX10_bits n p9.1 p9.2).bind fun p10 =>
    fX10_dinners_b34 n w v0 v1 (v2 + p10.1) (v3 + 1) p10.2)
set_option maxHeartbeats 4000000 in
set_option maxRecDepth 100000 in
theorem okX10_dinners_b34 {l : Launch} {n : Nat} {r : Int32} {h' : qH} : ∀ (w : Nat) (v0 : Nat) (v1 : Int32) (v2 : Int32) (v3 : Int32) (h : qH), fX10_dinners_b34 n w v0 v1 v2 v3 h = some (r, h') → q_W l 2 yX10_dinners cX10_dinners 4 (some .int) (some (.int r)) h' 34 [(0, .ref v0), (1, .int v1), (2, .int v2), (3, .int v3)] [] h := by
  intro w
  induction w with
  | zero => intro v0 v1 v2 v3 h hyp; cases hyp
  | succ w ih =>
    intro v0 v1 v2 v3 h hyp
    unfold fX10_dinners_b34 at hyp
    refine q_iload_n 3 rfl dX10_dinners_34 ?_
    refine q_iload_n 1 rfl dX10_dinners_35 ?_
    refine q_icmp_ge (tgt := 59) dX10_dinners_36 (by decide) (fun c1 => ?_) (fun c1 => ?_)
    · have hyp := q_pos c1 hyp
      refine q_aload_n 0 rfl dX10_dinners_59 ?_
      refine q_bind hyp (fun x2 e3 hyp => ?_)
      refine q_getR kF_X10_105 dX10_dinners_60 e3 ?_
      refine q_iconst (x := 0) rfl dX10_dinners_63 ?_
      refine q_aload_n 0 rfl dX10_dinners_64 ?_
      refine q_bind hyp (fun x4 e5 hyp => ?_)
      refine q_getR kF_X10_99 dX10_dinners_65 e5 ?_
      refine q_iconst (x := 0) rfl dX10_dinners_68 ?_
      refine q_bind hyp (fun h6 e7 hyp => ?_)
      refine q_callS (as := [.ref x2, .int 0, .ref x4, .int 0]) (st := []) kY_X10_copies kS_X10_copies kL_X10_355 (okX10_copies (l := l) e7) (by decide) rfl (Nat.le_of_ble_eq_true rfl) dX10_dinners_69 ?_
      refine q_to (ls' := [(0, .ref v0), (1, .int v1), (2, .int v2), (3, .int v3)]) (st' := []) rfl rfl ?_
      refine q_iload_n 2 rfl dX10_dinners_72 ?_
      exact q_iretH rfl rfl dX10_dinners_73 hyp
    · have hyp := q_neg c1 hyp
      refine q_aload_n 0 rfl dX10_dinners_39 ?_
      refine q_bind hyp (fun h8 e13 hyp => ?_)
      refine q_callV (as := []) (st := []) kY_X10_passes kL_X10_368 (okX10_passes (l := l) e13) (by decide) rfl (obX10_passes e13) (Nat.le_of_ble_eq_true rfl) dX10_dinners_40 ?_
      refine q_to (ls' := [(0, .ref v0), (1, .int v1), (2, .int v2), (3, .int v3)]) (st' := []) rfl rfl ?_
      refine q_iload_n 2 rfl dX10_dinners_43 ?_
      refine q_aload_n 0 rfl dX10_dinners_44 ?_
      refine q_bind hyp (fun p9 e12 hyp => ?_)
      refine q_callV (as := []) (st := [.int v2]) kY_X10_meantNow kL_X10_349 (okX10_meantNow (l := l) e12) (by decide) rfl (obX10_meantNow e12) (Nat.le_of_ble_eq_true rfl) dX10_dinners_45 ?_
      refine q_to (ls' := [(0, .ref v0), (1, .int v1), (2, .int v2), (3, .int v3)]) (st' := [.int p9.1, .int v2]) rfl rfl ?_
      refine q_bind hyp (fun p10 e11 hyp => ?_)
      refine q_callS (as := [.int p9.1]) (st := [.int v2]) kY_X10_bits kS_X10_bits kL_X10_371 (okX10_bits (l := l) e11) (by decide) rfl (Nat.le_of_ble_eq_true rfl) dX10_dinners_48 ?_
      refine q_to (ls' := [(0, .ref v0), (1, .int v1), (2, .int v2), (3, .int v3)]) (st' := [.int p10.1, .int v2]) rfl rfl ?_
      refine q_iadd dX10_dinners_51 ?_
      refine q_istore_n (ls' := [(2, .int (v2 + p10.1)), (0, .ref v0), (1, .int v1), (3, .int v3)]) (by decide) rfl dX10_dinners_52 ?_
      refine q_iinc (ls' := [(3, .int (v3 + 1)), (2, .int (v2 + p10.1)), (0, .ref v0), (1, .int v1)]) 3 rfl rfl (by decide) rfl dX10_dinners_53 ?_
      refine q_goto (tgt := 34) dX10_dinners_56 (by decide) ?_
      exact q_sub [2, 3, 1, 0] rfl (ih v0 v1 (v2 + p10.1) (v3 + 1) p10.2 hyp)
def fX10_dinners (n : Nat) (v0 : Nat) (v1 : Int32) (h : qH) : Option (Int32 × qH) :=
  (isO h v0 10).bind fun _ =>
  (pF h v0 10 0 (.int 0)).bind fun h1 =>
  (fX10_within v1 1 60 h1).bind fun p3 =>
  if p3.1 = 0 then
  (some ((-1), p3.2))
  else
  ((gR p3.2 v0 10 41).bind fun x5 =>
  (gR p3.2 v0 10 43).bind fun x7 =>
  (fX10_copies n x5 0 x7 0 p3.2).bind fun h9 =>
  fX10_dinners_b34 n n v0 v1 0 0 h9)
theorem obX10_dinners {n : Nat} {v0 : Nat} {v1 : Int32} {h : qH} {p : Int32 × qH} (hyp : fX10_dinners n v0 v1 h = some p) : ∃ fs, h.1 v0 = some (.inr (10, fs)) := by
  unfold fX10_dinners at hyp
  exact q_bind hyp (fun _ e _ => isO_some e)
set_option maxHeartbeats 4000000 in
set_option maxRecDepth 100000 in
theorem okX10_dinners {l : Launch} {n : Nat} {v0 : Nat} {v1 : Int32} {h : qH} {p : Int32 × qH} (hyp : fX10_dinners n v0 v1 h = some p) : q_M l 2 yX10_dinners cX10_dinners 4 (some .int) [.ref v0, .int v1] h (some (.int p.1)) p.2 := by
  obtain ⟨r, h'⟩ := p
  unfold fX10_dinners at hyp
  refine q_bind hyp (fun _ _ hyp => ?_)
  refine q_M.of (by decide) (Nat.le_of_ble_eq_true rfl) ?_
  refine q_to (ls' := [(0, .ref v0), (1, .int v1)]) (st' := []) rfl rfl ?_
  refine q_aload_n 0 rfl dX10_dinners_0 ?_
  refine q_iconst (x := 0) rfl dX10_dinners_1 ?_
  refine q_bind hyp (fun h1 e2 hyp => ?_)
  refine q_putF kF_X10_136 (fun _ => ⟨rfl, rfl⟩) dX10_dinners_2 e2 ?_
  refine q_iload_n 1 rfl dX10_dinners_5 ?_
  refine q_iconst (x := 1) rfl dX10_dinners_6 ?_
  refine q_bipush (x := 60) (by decide) dX10_dinners_7 ?_
  refine q_bind hyp (fun p3 e11 hyp => ?_)
  refine q_callS (as := [.int v1, .int 1, .int 60]) (st := []) kY_X10_within kS_X10_within kL_X10_252 (okX10_within (l := l) e11) (by decide) rfl (Nat.le_of_ble_eq_true rfl) dX10_dinners_9 ?_
  refine q_to (ls' := [(0, .ref v0), (1, .int v1)]) (st' := [.int p3.1]) rfl rfl ?_
  refine q_if_ne (tgt := 17) dX10_dinners_12 (by decide) (fun c4 => ?_) (fun c4 => ?_)
  · have hyp := q_neg c4 hyp
    refine q_aload_n 0 rfl dX10_dinners_17 ?_
    refine q_bind hyp (fun x5 e6 hyp => ?_)
    refine q_getR kF_X10_99 dX10_dinners_18 e6 ?_
    refine q_iconst (x := 0) rfl dX10_dinners_21 ?_
    refine q_aload_n 0 rfl dX10_dinners_22 ?_
    refine q_bind hyp (fun x7 e8 hyp => ?_)
    refine q_getR kF_X10_105 dX10_dinners_23 e8 ?_
    refine q_iconst (x := 0) rfl dX10_dinners_26 ?_
    refine q_bind hyp (fun h9 e10 hyp => ?_)
    refine q_callS (as := [.ref x5, .int 0, .ref x7, .int 0]) (st := []) kY_X10_copies kS_X10_copies kL_X10_355 (okX10_copies (l := l) e10) (by decide) rfl (Nat.le_of_ble_eq_true rfl) dX10_dinners_27 ?_
    refine q_to (ls' := [(0, .ref v0), (1, .int v1)]) (st' := []) rfl rfl ?_
    refine q_iconst (x := 0) rfl dX10_dinners_30 ?_
    refine q_istore_n (ls' := [(2, .int 0), (0, .ref v0), (1, .int v1)]) (by decide) rfl dX10_dinners_31 ?_
    refine q_iconst (x := 0) rfl dX10_dinners_32 ?_
    refine q_istore_n (ls' := [(3, .int 0), (2, .int 0), (0, .ref v0), (1, .int v1)]) (by decide) rfl dX10_dinners_33 ?_
    exact q_sub [2, 3, 1, 0] rfl (okX10_dinners_b34 _ v0 v1 0 0 h9 hyp)
  · have hyp := q_pos c4 hyp
    refine q_iconst (x := (-1)) rfl dX10_dinners_15 ?_
    exact q_iretH rfl rfl dX10_dinners_16 hyp
theorem dX10_draws_0 : decode cX10_draws 0 = .ok (.aload_n 0, 1) := by decide +kernel
theorem dX10_draws_1 : decode cX10_draws 1 = .ok (.aload_n 0, 1) := by decide +kernel
theorem dX10_draws_2 : decode cX10_draws 2 = .ok (.getfield 426, 3) := by decide +kernel
theorem dX10_draws_5 : decode cX10_draws 5 = .ok (.ldc2_w 429, 3) := by decide +kernel
theorem dX10_draws_8 : decode cX10_draws 8 = .ok (.lmul, 1) := by decide +kernel
theorem dX10_draws_9 : decode cX10_draws 9 = .ok (.ldc2_w 431, 3) := by decide +kernel
theorem dX10_draws_12 : decode cX10_draws 12 = .ok (.ladd, 1) := by decide +kernel
theorem dX10_draws_13 : decode cX10_draws 13 = .ok (.ldc2_w 433, 3) := by decide +kernel
theorem dX10_draws_16 : decode cX10_draws 16 = .ok (.lrem, 1) := by decide +kernel
theorem dX10_draws_17 : decode cX10_draws 17 = .ok (.putfield 426, 3) := by decide +kernel
theorem dX10_draws_20 : decode cX10_draws 20 = .ok (.aload_n 0, 1) := by decide +kernel
theorem dX10_draws_21 : decode cX10_draws 21 = .ok (.getfield 426, 3) := by decide +kernel
theorem dX10_draws_24 : decode cX10_draws 24 = .ok (.ldc2_w 435, 3) := by decide +kernel
theorem dX10_draws_27 : decode cX10_draws 27 = .ok (.ldiv, 1) := by decide +kernel
theorem dX10_draws_28 : decode cX10_draws 28 = .ok (.iload_n 1, 1) := by decide +kernel
theorem dX10_draws_29 : decode cX10_draws 29 = .ok (.i2l, 1) := by decide +kernel
theorem dX10_draws_30 : decode cX10_draws 30 = .ok (.lrem, 1) := by decide +kernel
theorem dX10_draws_31 : decode cX10_draws 31 = .ok (.l2i, 1) := by decide +kernel
theorem dX10_draws_32 : decode cX10_draws 32 = .ok (.ireturn, 1) := by decide +kernel
def fX10_draws (v0 : Nat) (v1 : Int32) (h : qH) : Option (Int32 × qH) :=
  (isO h v0 10).bind fun _ =>
  (gL h v0 10 52).bind fun x1 =>
  (pF h v0 10 52 (.long (((x1 * 1103515245) + 12345) - ((x1 * 1103515245) + 12345) / 2147483648 * 2147483648))).bind fun h3 =>
  (gL h3 v0 10 52).bind fun x5 =>
  (qZL v1.toInt64).bind fun _ =>
  some (((x5 / 65536) - (x5 / 65536) / v1.toInt64 * v1.toInt64).toInt32, h3)
theorem obX10_draws {v0 : Nat} {v1 : Int32} {h : qH} {p : Int32 × qH} (hyp : fX10_draws v0 v1 h = some p) : ∃ fs, h.1 v0 = some (.inr (10, fs)) := by
  unfold fX10_draws at hyp
  exact q_bind hyp (fun _ e _ => isO_some e)
set_option maxHeartbeats 4000000 in
set_option maxRecDepth 100000 in
theorem okX10_draws {l : Launch} {v0 : Nat} {v1 : Int32} {h : qH} {p : Int32 × qH} (hyp : fX10_draws v0 v1 h = some p) : q_M l 1 yX10_draws cX10_draws 2 (some .int) [.ref v0, .int v1] h (some (.int p.1)) p.2 := by
  obtain ⟨r, h'⟩ := p
  unfold fX10_draws at hyp
  refine q_bind hyp (fun _ _ hyp => ?_)
  refine q_M.of (by decide) (Nat.le_of_ble_eq_true rfl) ?_
  refine q_to (ls' := [(0, .ref v0), (1, .int v1)]) (st' := []) rfl rfl ?_
  refine q_aload_n 0 rfl dX10_draws_0 ?_
  refine q_aload_n 0 rfl dX10_draws_1 ?_
  refine q_bind hyp (fun x1 e2 hyp => ?_)
  refine q_getL kF_X10_426 dX10_draws_2 e2 ?_
  refine q_ldc2 kK_X10_429 dX10_draws_5 ?_
  refine q_lmul dX10_draws_8 ?_
  refine q_ldc2 kK_X10_431 dX10_draws_9 ?_
  refine q_ladd dX10_draws_12 ?_
  refine q_ldc2 kK_X10_433 dX10_draws_13 ?_
  refine q_lrem dX10_draws_16 (by decide) ?_
  refine q_bind hyp (fun h3 e4 hyp => ?_)
  refine q_putF kF_X10_426 (fun _ => ⟨rfl, rfl⟩) dX10_draws_17 e4 ?_
  refine q_aload_n 0 rfl dX10_draws_20 ?_
  refine q_bind hyp (fun x5 e6 hyp => ?_)
  refine q_getL kF_X10_426 dX10_draws_21 e6 ?_
  refine q_ldc2 kK_X10_435 dX10_draws_24 ?_
  refine q_ldiv dX10_draws_27 (by decide) ?_
  refine q_iload_n 1 rfl dX10_draws_28 ?_
  refine q_i2l dX10_draws_29 ?_
  refine q_bind hyp (fun _ e7 hyp => ?_)
  refine q_lrem dX10_draws_30 (qZL_some e7) ?_
  refine q_l2i dX10_draws_31 ?_
  exact q_iretH rfl rfl dX10_draws_32 hyp
theorem dX10_easiest_0 : decode cX10_easiest 0 = .ok (.aload_n 0, 1) := by decide +kernel
theorem dX10_easiest_1 : decode cX10_easiest 1 = .ok (.iconst 0, 1) := by decide +kernel
theorem dX10_easiest_2 : decode cX10_easiest 2 = .ok (.putfield 136, 3) := by decide +kernel
theorem dX10_easiest_5 : decode cX10_easiest 5 = .ok (.aload_n 0, 1) := by decide +kernel
theorem dX10_easiest_6 : decode cX10_easiest 6 = .ok (.invokevirtual 390, 3) := by decide +kernel
theorem dX10_easiest_9 : decode cX10_easiest 9 = .ok (.iconst (-1), 1) := by decide +kernel
theorem dX10_easiest_10 : decode cX10_easiest 10 = .ok (.istore_n 1, 1) := by decide +kernel
theorem dX10_easiest_11 : decode cX10_easiest 11 = .ok (.iconst 0, 1) := by decide +kernel
theorem dX10_easiest_12 : decode cX10_easiest 12 = .ok (.istore_n 2, 1) := by decide +kernel
theorem dX10_easiest_13 : decode cX10_easiest 13 = .ok (.iload_n 2, 1) := by decide +kernel
theorem dX10_easiest_14 : decode cX10_easiest 14 = .ok (.aload_n 0, 1) := by decide +kernel
theorem dX10_easiest_15 : decode cX10_easiest 15 = .ok (.getfield 13, 3) := by decide +kernel
theorem dX10_easiest_18 : decode cX10_easiest 18 = .ok (.iconst 0, 1) := by decide +kernel
theorem dX10_easiest_19 : decode cX10_easiest 19 = .ok (.iaload, 1) := by decide +kernel
theorem dX10_easiest_20 : decode cX10_easiest 20 = .ok (.if_icmp .ge 56, 3) := by decide +kernel
theorem dX10_easiest_23 : decode cX10_easiest 23 = .ok (.aload_n 0, 1) := by decide +kernel
theorem dX10_easiest_24 : decode cX10_easiest 24 = .ok (.getfield 99, 3) := by decide +kernel
theorem dX10_easiest_27 : decode cX10_easiest 27 = .ok (.iconst 2, 1) := by decide +kernel
theorem dX10_easiest_28 : decode cX10_easiest 28 = .ok (.iload_n 2, 1) := by decide +kernel
theorem dX10_easiest_29 : decode cX10_easiest 29 = .ok (.iadd, 1) := by decide +kernel
theorem dX10_easiest_30 : decode cX10_easiest 30 = .ok (.iaload, 1) := by decide +kernel
theorem dX10_easiest_31 : decode cX10_easiest 31 = .ok (.ifCond .eq 39, 3) := by decide +kernel
theorem dX10_easiest_34 : decode cX10_easiest 34 = .ok (.aload_n 0, 1) := by decide +kernel
theorem dX10_easiest_35 : decode cX10_easiest 35 = .ok (.getfield 120, 3) := by decide +kernel
theorem dX10_easiest_38 : decode cX10_easiest 38 = .ok (.iload_n 2, 1) := by decide +kernel
theorem dX10_easiest_39 : decode cX10_easiest 39 = .ok (.iaload, 1) := by decide +kernel
theorem dX10_easiest_40 : decode cX10_easiest 40 = .ok (.ldc_w 383, 3) := by decide +kernel
theorem dX10_easiest_43 : decode cX10_easiest 43 = .ok (.if_icmp .ne 6, 3) := by decide +kernel
theorem dX10_easiest_46 : decode cX10_easiest 46 = .ok (.goto 24, 3) := by decide +kernel
theorem dX10_easiest_49 : decode cX10_easiest 49 = .ok (.iload_n 1, 1) := by decide +kernel
theorem dX10_easiest_50 : decode cX10_easiest 50 = .ok (.ifCond .lt 18, 3) := by decide +kernel
theorem dX10_easiest_53 : decode cX10_easiest 53 = .ok (.aload_n 0, 1) := by decide +kernel
theorem dX10_easiest_54 : decode cX10_easiest 54 = .ok (.getfield 120, 3) := by decide +kernel
theorem dX10_easiest_57 : decode cX10_easiest 57 = .ok (.iload_n 2, 1) := by decide +kernel
theorem dX10_easiest_58 : decode cX10_easiest 58 = .ok (.iaload, 1) := by decide +kernel
theorem dX10_easiest_59 : decode cX10_easiest 59 = .ok (.aload_n 0, 1) := by decide +kernel
theorem dX10_easiest_60 : decode cX10_easiest 60 = .ok (.getfield 120, 3) := by decide +kernel
theorem dX10_easiest_63 : decode cX10_easiest 63 = .ok (.iload_n 1, 1) := by decide +kernel
theorem dX10_easiest_64 : decode cX10_easiest 64 = .ok (.iaload, 1) := by decide +kernel
theorem dX10_easiest_65 : decode cX10_easiest 65 = .ok (.if_icmp .ge 5, 3) := by decide +kernel
theorem dX10_easiest_68 : decode cX10_easiest 68 = .ok (.iload_n 2, 1) := by decide +kernel
theorem dX10_easiest_69 : decode cX10_easiest 69 = .ok (.istore_n 1, 1) := by decide +kernel
theorem dX10_easiest_70 : decode cX10_easiest 70 = .ok (.iinc 2 1, 3) := by decide +kernel
theorem dX10_easiest_73 : decode cX10_easiest 73 = .ok (.goto (-60), 3) := by decide +kernel
theorem dX10_easiest_76 : decode cX10_easiest 76 = .ok (.iload_n 1, 1) := by decide +kernel
theorem dX10_easiest_77 : decode cX10_easiest 77 = .ok (.ireturn, 1) := by decide +kernel
def fX10_easiest_b13 (n : Nat) : Nat → Nat → Int32 → Int32 → qH → Option (Int32 × qH)
  | 0, _, _, _, _ => none
  | w + 1, v0, v1, v2, h =>
    (gR h v0 10 10).bind fun x1 =>
    (aI .int h x1 0).bind fun x3 =>
    if x3 ≤ v2 then
    (some (v1, h))
    else
    ((gR h v0 10 41).bind fun x6 =>
    (aI .int h x6 (2 + v2)).bind fun x8 =>
    if x8 = 0 then
    (fX10_easiest_b13 n w v0 v1 (v2 + 1) h)
    else
    ((gR h v0 10 49).bind fun x11 =>
    (aI .int h x11 v2).bind fun x13 =>
    if x13 = 1000000 then
    (fX10_easiest_b13 n w v0 v1 (v2 + 1) h)
    else
    (if v1 < 0 then
    (fX10_easiest_b13 n w v0 v2 (v2 + 1) h)
    else
    ((gR h v0 10 49).bind fun x17 =>
    (aI .int h x17 v2).bind fun x19 =>
    (gR h v0 10 49).bind fun x21 =>
    (aI .int h x21 v1).bind fun x23 =>
    if x23 ≤ x19 then
    (fX10_easiest_b13 n w v0 v1 (v2 + 1) h)
    else
    (fX10_easiest_b13 n w v0 v2 (v2 + 1) h)))))
set_option maxHeartbeats 4000000 in
set_option maxRecDepth 100000 in
theorem okX10_easiest_b13 {l : Launch} {n : Nat} {r : Int32} {h' : qH} : ∀ (w : Nat) (v0 : Nat) (v1 : Int32) (v2 : Int32) (h : qH), fX10_easiest_b13 n w v0 v1 v2 h = some (r, h') → q_W l 8 yX10_easiest cX10_easiest 3 (some .int) (some (.int r)) h' 13 [(0, .ref v0), (1, .int v1), (2, .int v2)] [] h := by
  intro w
  induction w with
  | zero => intro v0 v1 v2 h hyp; cases hyp
  | succ w ih =>
    intro v0 v1 v2 h hyp
    unfold fX10_easiest_b13 at hyp
    refine q_iload_n 2 rfl dX10_easiest_13 ?_
    refine q_aload_n 0 rfl dX10_easiest_14 ?_
    refine q_bind hyp (fun x1 e2 hyp => ?_)
    refine q_getR kF_X10_13 dX10_easiest_15 e2 ?_
    refine q_iconst (x := 0) rfl dX10_easiest_18 ?_
    refine q_bind hyp (fun x3 e4 hyp => ?_)
    refine q_iald dX10_easiest_19 e4 ?_
    refine q_icmp_ge (tgt := 76) dX10_easiest_20 (by decide) (fun c5 => ?_) (fun c5 => ?_)
    · have hyp := q_pos c5 hyp
      refine q_iload_n 1 rfl dX10_easiest_76 ?_
      exact q_iretH rfl rfl dX10_easiest_77 hyp
    · have hyp := q_neg c5 hyp
      refine q_aload_n 0 rfl dX10_easiest_23 ?_
      refine q_bind hyp (fun x6 e7 hyp => ?_)
      refine q_getR kF_X10_99 dX10_easiest_24 e7 ?_
      refine q_iconst (x := 2) rfl dX10_easiest_27 ?_
      refine q_iload_n 2 rfl dX10_easiest_28 ?_
      refine q_iadd dX10_easiest_29 ?_
      refine q_bind hyp (fun x8 e9 hyp => ?_)
      refine q_iald dX10_easiest_30 e9 ?_
      refine q_if_eq (tgt := 70) dX10_easiest_31 (by decide) (fun c10 => ?_) (fun c10 => ?_)
      · have hyp := q_pos c10 hyp
        refine q_iinc (ls' := [(2, .int (v2 + 1)), (0, .ref v0), (1, .int v1)]) 2 rfl rfl (by decide) rfl dX10_easiest_70 ?_
        refine q_goto (tgt := 13) dX10_easiest_73 (by decide) ?_
        exact q_sub [1, 2, 0] rfl (ih v0 v1 (v2 + 1) h hyp)
      · have hyp := q_neg c10 hyp
        refine q_aload_n 0 rfl dX10_easiest_34 ?_
        refine q_bind hyp (fun x11 e12 hyp => ?_)
        refine q_getR kF_X10_120 dX10_easiest_35 e12 ?_
        refine q_iload_n 2 rfl dX10_easiest_38 ?_
        refine q_bind hyp (fun x13 e14 hyp => ?_)
        refine q_iald dX10_easiest_39 e14 ?_
        refine q_ldcw kK_X10_383 dX10_easiest_40 ?_
        refine q_icmp_ne (tgt := 49) dX10_easiest_43 (by decide) (fun c15 => ?_) (fun c15 => ?_)
        · have hyp := q_neg c15 hyp
          refine q_iload_n 1 rfl dX10_easiest_49 ?_
          refine q_if_lt (tgt := 68) dX10_easiest_50 (by decide) (fun c16 => ?_) (fun c16 => ?_)
          · have hyp := q_pos c16 hyp
            refine q_iload_n 2 rfl dX10_easiest_68 ?_
            refine q_istore_n (ls' := [(1, .int v2), (0, .ref v0), (2, .int v2)]) (by decide) rfl dX10_easiest_69 ?_
            refine q_iinc (ls' := [(2, .int (v2 + 1)), (1, .int v2), (0, .ref v0)]) 2 rfl rfl (by decide) rfl dX10_easiest_70 ?_
            refine q_goto (tgt := 13) dX10_easiest_73 (by decide) ?_
            exact q_sub [2, 1, 0] rfl (ih v0 v2 (v2 + 1) h hyp)
          · have hyp := q_neg c16 hyp
            refine q_aload_n 0 rfl dX10_easiest_53 ?_
            refine q_bind hyp (fun x17 e18 hyp => ?_)
            refine q_getR kF_X10_120 dX10_easiest_54 e18 ?_
            refine q_iload_n 2 rfl dX10_easiest_57 ?_
            refine q_bind hyp (fun x19 e20 hyp => ?_)
            refine q_iald dX10_easiest_58 e20 ?_
            refine q_aload_n 0 rfl dX10_easiest_59 ?_
            refine q_bind hyp (fun x21 e22 hyp => ?_)
            refine q_getR kF_X10_120 dX10_easiest_60 e22 ?_
            refine q_iload_n 1 rfl dX10_easiest_63 ?_
            refine q_bind hyp (fun x23 e24 hyp => ?_)
            refine q_iald dX10_easiest_64 e24 ?_
            refine q_icmp_ge (tgt := 70) dX10_easiest_65 (by decide) (fun c25 => ?_) (fun c25 => ?_)
            · have hyp := q_pos c25 hyp
              refine q_iinc (ls' := [(2, .int (v2 + 1)), (0, .ref v0), (1, .int v1)]) 2 rfl rfl (by decide) rfl dX10_easiest_70 ?_
              refine q_goto (tgt := 13) dX10_easiest_73 (by decide) ?_
              exact q_sub [1, 2, 0] rfl (ih v0 v1 (v2 + 1) h hyp)
            · have hyp := q_neg c25 hyp
              refine q_iload_n 2 rfl dX10_easiest_68 ?_
              refine q_istore_n (ls' := [(1, .int v2), (0, .ref v0), (2, .int v2)]) (by decide) rfl dX10_easiest_69 ?_
              refine q_iinc (ls' := [(2, .int (v2 + 1)), (1, .int v2), (0, .ref v0)]) 2 rfl rfl (by decide) rfl dX10_easiest_70 ?_
              refine q_goto (tgt := 13) dX10_easiest_73 (by decide) ?_
              exact q_sub [2, 1, 0] rfl (ih v0 v2 (v2 + 1) h hyp)
        · have hyp := q_pos c15 hyp
          refine q_goto (tgt := 70) dX10_easiest_46 (by decide) ?_
          refine q_iinc (ls' := [(2, .int (v2 + 1)), (0, .ref v0), (1, .int v1)]) 2 rfl rfl (by decide) rfl dX10_easiest_70 ?_
          refine q_goto (tgt := 13) dX10_easiest_73 (by decide) ?_
          exact q_sub [1, 2, 0] rfl (ih v0 v1 (v2 + 1) h hyp)
def fX10_easiest (n : Nat) (v0 : Nat) (h : qH) : Option (Int32 × qH) :=
  (isO h v0 10).bind fun _ =>
  (pF h v0 10 0 (.int 0)).bind fun h1 =>
  (fX10_laysCosts n v0 h1).bind fun h3 =>
  fX10_easiest_b13 n n v0 ((-1)) 0 h3
theorem obX10_easiest {n : Nat} {v0 : Nat} {h : qH} {p : Int32 × qH} (hyp : fX10_easiest n v0 h = some p) : ∃ fs, h.1 v0 = some (.inr (10, fs)) := by
  unfold fX10_easiest at hyp
  exact q_bind hyp (fun _ e _ => isO_some e)
set_option maxHeartbeats 4000000 in
set_option maxRecDepth 100000 in
theorem okX10_easiest {l : Launch} {n : Nat} {v0 : Nat} {h : qH} {p : Int32 × qH} (hyp : fX10_easiest n v0 h = some p) : q_M l 8 yX10_easiest cX10_easiest 3 (some .int) [.ref v0] h (some (.int p.1)) p.2 := by
  obtain ⟨r, h'⟩ := p
  unfold fX10_easiest at hyp
  refine q_bind hyp (fun _ _ hyp => ?_)
  refine q_M.of (by decide) (Nat.le_of_ble_eq_true rfl) ?_
  refine q_to (ls' := [(0, .ref v0)]) (st' := []) rfl rfl ?_
  refine q_aload_n 0 rfl dX10_easiest_0 ?_
  refine q_iconst (x := 0) rfl dX10_easiest_1 ?_
  refine q_bind hyp (fun h1 e2 hyp => ?_)
  refine q_putF kF_X10_136 (fun _ => ⟨rfl, rfl⟩) dX10_easiest_2 e2 ?_
  refine q_aload_n 0 rfl dX10_easiest_5 ?_
  refine q_bind hyp (fun h3 e4 hyp => ?_)
  refine q_callV (as := []) (st := []) kY_X10_laysCosts kL_X10_390 (okX10_laysCosts (l := l) e4) (by decide) rfl (obX10_laysCosts e4) (Nat.le_of_ble_eq_true rfl) dX10_easiest_6 ?_
  refine q_to (ls' := [(0, .ref v0)]) (st' := []) rfl rfl ?_
  refine q_iconst (x := (-1)) rfl dX10_easiest_9 ?_
  refine q_istore_n (ls' := [(1, .int ((-1))), (0, .ref v0)]) (by decide) rfl dX10_easiest_10 ?_
  refine q_iconst (x := 0) rfl dX10_easiest_11 ?_
  refine q_istore_n (ls' := [(2, .int 0), (1, .int ((-1))), (0, .ref v0)]) (by decide) rfl dX10_easiest_12 ?_
  exact q_sub [2, 1, 0] rfl (okX10_easiest_b13 _ v0 ((-1)) 0 h3 hyp)
theorem dX10_eaten_0 : decode cX10_eaten 0 = .ok (.aload_n 0, 1) := by decide +kernel
theorem dX10_eaten_1 : decode cX10_eaten 1 = .ok (.getfield 99, 3) := by decide +kernel
theorem dX10_eaten_4 : decode cX10_eaten 4 = .ok (.bipush 9, 2) := by decide +kernel
theorem dX10_eaten_6 : decode cX10_eaten 6 = .ok (.iload_n 1, 1) := by decide +kernel
theorem dX10_eaten_7 : decode cX10_eaten 7 = .ok (.iadd, 1) := by decide +kernel
theorem dX10_eaten_8 : decode cX10_eaten 8 = .ok (.iconst 0, 1) := by decide +kernel
theorem dX10_eaten_9 : decode cX10_eaten 9 = .ok (.iastore, 1) := by decide +kernel
theorem dX10_eaten_10 : decode cX10_eaten 10 = .ok (.aload_n 0, 1) := by decide +kernel
theorem dX10_eaten_11 : decode cX10_eaten 11 = .ok (.getfield 99, 3) := by decide +kernel
theorem dX10_eaten_14 : decode cX10_eaten 14 = .ok (.iconst 2, 1) := by decide +kernel
theorem dX10_eaten_15 : decode cX10_eaten 15 = .ok (.iload_n 1, 1) := by decide +kernel
theorem dX10_eaten_16 : decode cX10_eaten 16 = .ok (.iadd, 1) := by decide +kernel
theorem dX10_eaten_17 : decode cX10_eaten 17 = .ok (.aload_n 0, 1) := by decide +kernel
theorem dX10_eaten_18 : decode cX10_eaten 18 = .ok (.getfield 26, 3) := by decide +kernel
theorem dX10_eaten_21 : decode cX10_eaten 21 = .ok (.iload_n 1, 1) := by decide +kernel
theorem dX10_eaten_22 : decode cX10_eaten 22 = .ok (.iaload, 1) := by decide +kernel
theorem dX10_eaten_23 : decode cX10_eaten 23 = .ok (.iastore, 1) := by decide +kernel
theorem dX10_eaten_24 : decode cX10_eaten 24 = .ok (.return_, 1) := by decide +kernel
def fX10_eaten (v0 : Nat) (v1 : Int32) (h : qH) : Option (qH) :=
  (isO h v0 10).bind fun _ =>
  (gR h v0 10 41).bind fun x1 =>
  (sI .int h x1 (9 + v1) 0).bind fun h3 =>
  (gR h3 v0 10 41).bind fun x5 =>
  (gR h3 v0 10 14).bind fun x7 =>
  (aI .int h3 x7 v1).bind fun x9 =>
  (sI .int h3 x5 (2 + v1) x9).bind fun h11 =>
  some h11
theorem obX10_eaten {v0 : Nat} {v1 : Int32} {h : qH} {p : qH} (hyp : fX10_eaten v0 v1 h = some p) : ∃ fs, h.1 v0 = some (.inr (10, fs)) := by
  unfold fX10_eaten at hyp
  exact q_bind hyp (fun _ e _ => isO_some e)
set_option maxHeartbeats 4000000 in
set_option maxRecDepth 100000 in
theorem okX10_eaten {l : Launch} {v0 : Nat} {v1 : Int32} {h : qH} {h' : qH} (hyp : fX10_eaten v0 v1 h = some h') : q_M l 1 yX10_eaten cX10_eaten 2 none [.ref v0, .int v1] h none h' := by
  unfold fX10_eaten at hyp
  refine q_bind hyp (fun _ _ hyp => ?_)
  refine q_M.of (by decide) (Nat.le_of_ble_eq_true rfl) ?_
  refine q_to (ls' := [(0, .ref v0), (1, .int v1)]) (st' := []) rfl rfl ?_
  refine q_aload_n 0 rfl dX10_eaten_0 ?_
  refine q_bind hyp (fun x1 e2 hyp => ?_)
  refine q_getR kF_X10_99 dX10_eaten_1 e2 ?_
  refine q_bipush (x := 9) (by decide) dX10_eaten_4 ?_
  refine q_iload_n 1 rfl dX10_eaten_6 ?_
  refine q_iadd dX10_eaten_7 ?_
  refine q_iconst (x := 0) rfl dX10_eaten_8 ?_
  refine q_bind hyp (fun h3 e4 hyp => ?_)
  refine q_iast dX10_eaten_9 e4 ?_
  refine q_aload_n 0 rfl dX10_eaten_10 ?_
  refine q_bind hyp (fun x5 e6 hyp => ?_)
  refine q_getR kF_X10_99 dX10_eaten_11 e6 ?_
  refine q_iconst (x := 2) rfl dX10_eaten_14 ?_
  refine q_iload_n 1 rfl dX10_eaten_15 ?_
  refine q_iadd dX10_eaten_16 ?_
  refine q_aload_n 0 rfl dX10_eaten_17 ?_
  refine q_bind hyp (fun x7 e8 hyp => ?_)
  refine q_getR kF_X10_26 dX10_eaten_18 e8 ?_
  refine q_iload_n 1 rfl dX10_eaten_21 ?_
  refine q_bind hyp (fun x9 e10 hyp => ?_)
  refine q_iald dX10_eaten_22 e10 ?_
  refine q_bind hyp (fun h11 e12 hyp => ?_)
  refine q_iast dX10_eaten_23 e12 ?_
  exact q_vretH rfl dX10_eaten_24 hyp
theorem dX10_keeps_0 : decode cX10_keeps 0 = .ok (.aload_n 0, 1) := by decide +kernel
theorem dX10_keeps_1 : decode cX10_keeps 1 = .ok (.getfield 314, 3) := by decide +kernel
theorem dX10_keeps_4 : decode cX10_keeps 4 = .ok (.bipush 16, 2) := by decide +kernel
theorem dX10_keeps_6 : decode cX10_keeps 6 = .ok (.if_icmp .ne 43, 3) := by decide +kernel
theorem dX10_keeps_9 : decode cX10_keeps 9 = .ok (.iconst 0, 1) := by decide +kernel
theorem dX10_keeps_10 : decode cX10_keeps 10 = .ok (.istore_n 1, 1) := by decide +kernel
theorem dX10_keeps_11 : decode cX10_keeps 11 = .ok (.iload_n 1, 1) := by decide +kernel
theorem dX10_keeps_12 : decode cX10_keeps 12 = .ok (.sipush 240, 3) := by decide +kernel
theorem dX10_keeps_15 : decode cX10_keeps 15 = .ok (.if_icmp .ge 24, 3) := by decide +kernel
theorem dX10_keeps_18 : decode cX10_keeps 18 = .ok (.aload_n 0, 1) := by decide +kernel
theorem dX10_keeps_19 : decode cX10_keeps 19 = .ok (.getfield 111, 3) := by decide +kernel
theorem dX10_keeps_22 : decode cX10_keeps 22 = .ok (.iload_n 1, 1) := by decide +kernel
theorem dX10_keeps_23 : decode cX10_keeps 23 = .ok (.aload_n 0, 1) := by decide +kernel
theorem dX10_keeps_24 : decode cX10_keeps 24 = .ok (.getfield 111, 3) := by decide +kernel
theorem dX10_keeps_27 : decode cX10_keeps 27 = .ok (.iload_n 1, 1) := by decide +kernel
theorem dX10_keeps_28 : decode cX10_keeps 28 = .ok (.bipush 16, 2) := by decide +kernel
theorem dX10_keeps_30 : decode cX10_keeps 30 = .ok (.iadd, 1) := by decide +kernel
theorem dX10_keeps_31 : decode cX10_keeps 31 = .ok (.iaload, 1) := by decide +kernel
theorem dX10_keeps_32 : decode cX10_keeps 32 = .ok (.iastore, 1) := by decide +kernel
theorem dX10_keeps_33 : decode cX10_keeps 33 = .ok (.iinc 1 1, 3) := by decide +kernel
theorem dX10_keeps_36 : decode cX10_keeps 36 = .ok (.goto (-25), 3) := by decide +kernel
theorem dX10_keeps_39 : decode cX10_keeps 39 = .ok (.aload_n 0, 1) := by decide +kernel
theorem dX10_keeps_40 : decode cX10_keeps 40 = .ok (.dup, 1) := by decide +kernel
theorem dX10_keeps_41 : decode cX10_keeps 41 = .ok (.getfield 314, 3) := by decide +kernel
theorem dX10_keeps_44 : decode cX10_keeps 44 = .ok (.iconst 1, 1) := by decide +kernel
theorem dX10_keeps_45 : decode cX10_keeps 45 = .ok (.isub, 1) := by decide +kernel
theorem dX10_keeps_46 : decode cX10_keeps 46 = .ok (.putfield 314, 3) := by decide +kernel
theorem dX10_keeps_49 : decode cX10_keeps 49 = .ok (.aload_n 0, 1) := by decide +kernel
theorem dX10_keeps_50 : decode cX10_keeps 50 = .ok (.getfield 99, 3) := by decide +kernel
theorem dX10_keeps_53 : decode cX10_keeps 53 = .ok (.iconst 0, 1) := by decide +kernel
theorem dX10_keeps_54 : decode cX10_keeps 54 = .ok (.aload_n 0, 1) := by decide +kernel
theorem dX10_keeps_55 : decode cX10_keeps 55 = .ok (.getfield 111, 3) := by decide +kernel
theorem dX10_keeps_58 : decode cX10_keeps 58 = .ok (.bipush 16, 2) := by decide +kernel
theorem dX10_keeps_60 : decode cX10_keeps 60 = .ok (.aload_n 0, 1) := by decide +kernel
theorem dX10_keeps_61 : decode cX10_keeps 61 = .ok (.getfield 314, 3) := by decide +kernel
theorem dX10_keeps_64 : decode cX10_keeps 64 = .ok (.imul, 1) := by decide +kernel
theorem dX10_keeps_65 : decode cX10_keeps 65 = .ok (.invokestatic 355, 3) := by decide +kernel
theorem dX10_keeps_68 : decode cX10_keeps 68 = .ok (.aload_n 0, 1) := by decide +kernel
theorem dX10_keeps_69 : decode cX10_keeps 69 = .ok (.dup, 1) := by decide +kernel
theorem dX10_keeps_70 : decode cX10_keeps 70 = .ok (.getfield 314, 3) := by decide +kernel
theorem dX10_keeps_73 : decode cX10_keeps 73 = .ok (.iconst 1, 1) := by decide +kernel
theorem dX10_keeps_74 : decode cX10_keeps 74 = .ok (.iadd, 1) := by decide +kernel
theorem dX10_keeps_75 : decode cX10_keeps 75 = .ok (.putfield 314, 3) := by decide +kernel
theorem dX10_keeps_78 : decode cX10_keeps 78 = .ok (.return_, 1) := by decide +kernel
def fX10_keeps_b49 (n : Nat) (v0 : Nat) (h : qH) : Option (qH) :=
  (gR h v0 10 41).bind fun x1 =>
  (gR h v0 10 45).bind fun x3 =>
  (gI h v0 10 47).bind fun x5 =>
  (fX10_copies n x1 0 x3 (16 * x5) h).bind fun h7 =>
  (gI h7 v0 10 47).bind fun x8 =>
  (pF h7 v0 10 47 (.int (x8 + 1))).bind fun h10 =>
  some h10
set_option maxHeartbeats 4000000 in
set_option maxRecDepth 100000 in
theorem okX10_keeps_b49 {l : Launch} {n : Nat} {v0 : Nat} {h : qH} {h' : qH} (hyp : fX10_keeps_b49 n v0 h = some h') : q_W l 2 yX10_keeps cX10_keeps 2 none none h' 49 [(0, .ref v0)] [] h := by
  unfold fX10_keeps_b49 at hyp
  refine q_aload_n 0 rfl dX10_keeps_49 ?_
  refine q_bind hyp (fun x1 e2 hyp => ?_)
  refine q_getR kF_X10_99 dX10_keeps_50 e2 ?_
  refine q_iconst (x := 0) rfl dX10_keeps_53 ?_
  refine q_aload_n 0 rfl dX10_keeps_54 ?_
  refine q_bind hyp (fun x3 e4 hyp => ?_)
  refine q_getR kF_X10_111 dX10_keeps_55 e4 ?_
  refine q_bipush (x := 16) (by decide) dX10_keeps_58 ?_
  refine q_aload_n 0 rfl dX10_keeps_60 ?_
  refine q_bind hyp (fun x5 e6 hyp => ?_)
  refine q_getI kF_X10_314 dX10_keeps_61 e6 ?_
  refine q_imul dX10_keeps_64 ?_
  refine q_bind hyp (fun h7 e12 hyp => ?_)
  refine q_callS (as := [.ref x1, .int 0, .ref x3, .int (16 * x5)]) (st := []) kY_X10_copies kS_X10_copies kL_X10_355 (okX10_copies (l := l) e12) (by decide) rfl (Nat.le_of_ble_eq_true rfl) dX10_keeps_65 ?_
  refine q_to (ls' := [(0, .ref v0)]) (st' := []) rfl rfl ?_
  refine q_aload_n 0 rfl dX10_keeps_68 ?_
  refine q_dup rfl dX10_keeps_69 ?_
  refine q_bind hyp (fun x8 e9 hyp => ?_)
  refine q_getI kF_X10_314 dX10_keeps_70 e9 ?_
  refine q_iconst (x := 1) rfl dX10_keeps_73 ?_
  refine q_iadd dX10_keeps_74 ?_
  refine q_bind hyp (fun h10 e11 hyp => ?_)
  refine q_putF kF_X10_314 (fun _ => ⟨rfl, rfl⟩) dX10_keeps_75 e11 ?_
  exact q_vretH rfl dX10_keeps_78 hyp
def fX10_keeps_b11 (n : Nat) : Nat → Nat → Int32 → qH → Option (qH)
  | 0, _, _, _ => none
  | w + 1, v0, v1, h =>
    if 240 ≤ v1 then
    ((gI h v0 10 47).bind fun x2 =>
    (pF h v0 10 47 (.int (x2 - 1))).bind fun h4 =>
    fX10_keeps_b49 n v0 h4)
    else
    ((gR h v0 10 45).bind fun x6 =>
    (gR h v0 10 45).bind fun x8 =>
    (aI .int h x8 (v1 + 16)).bind fun x10 =>
    (sI .int h x6 v1 x10).bind fun h12 =>
    fX10_keeps_b11 n w v0 (v1 + 1) h12)
set_option maxHeartbeats 4000000 in
set_option maxRecDepth 100000 in
theorem okX10_keeps_b11 {l : Launch} {n : Nat} {h' : qH} : ∀ (w : Nat) (v0 : Nat) (v1 : Int32) (h : qH), fX10_keeps_b11 n w v0 v1 h = some h' → q_W l 2 yX10_keeps cX10_keeps 2 none none h' 11 [(0, .ref v0), (1, .int v1)] [] h := by
  intro w
  induction w with
  | zero => intro v0 v1 h hyp; cases hyp
  | succ w ih =>
    intro v0 v1 h hyp
    unfold fX10_keeps_b11 at hyp
    refine q_iload_n 1 rfl dX10_keeps_11 ?_
    refine q_sipush (x := 240) (by decide) dX10_keeps_12 ?_
    refine q_icmp_ge (tgt := 39) dX10_keeps_15 (by decide) (fun c1 => ?_) (fun c1 => ?_)
    · have hyp := q_pos c1 hyp
      refine q_aload_n 0 rfl dX10_keeps_39 ?_
      refine q_dup rfl dX10_keeps_40 ?_
      refine q_bind hyp (fun x2 e3 hyp => ?_)
      refine q_getI kF_X10_314 dX10_keeps_41 e3 ?_
      refine q_iconst (x := 1) rfl dX10_keeps_44 ?_
      refine q_isub dX10_keeps_45 ?_
      refine q_bind hyp (fun h4 e5 hyp => ?_)
      refine q_putF kF_X10_314 (fun _ => ⟨rfl, rfl⟩) dX10_keeps_46 e5 ?_
      exact q_sub [0] rfl (okX10_keeps_b49 hyp)
    · have hyp := q_neg c1 hyp
      refine q_aload_n 0 rfl dX10_keeps_18 ?_
      refine q_bind hyp (fun x6 e7 hyp => ?_)
      refine q_getR kF_X10_111 dX10_keeps_19 e7 ?_
      refine q_iload_n 1 rfl dX10_keeps_22 ?_
      refine q_aload_n 0 rfl dX10_keeps_23 ?_
      refine q_bind hyp (fun x8 e9 hyp => ?_)
      refine q_getR kF_X10_111 dX10_keeps_24 e9 ?_
      refine q_iload_n 1 rfl dX10_keeps_27 ?_
      refine q_bipush (x := 16) (by decide) dX10_keeps_28 ?_
      refine q_iadd dX10_keeps_30 ?_
      refine q_bind hyp (fun x10 e11 hyp => ?_)
      refine q_iald dX10_keeps_31 e11 ?_
      refine q_bind hyp (fun h12 e13 hyp => ?_)
      refine q_iast dX10_keeps_32 e13 ?_
      refine q_iinc (ls' := [(1, .int (v1 + 1)), (0, .ref v0)]) 1 rfl rfl (by decide) rfl dX10_keeps_33 ?_
      refine q_goto (tgt := 11) dX10_keeps_36 (by decide) ?_
      exact q_sub [1, 0] rfl (ih v0 (v1 + 1) h12 hyp)
def fX10_keeps (n : Nat) (v0 : Nat) (h : qH) : Option (qH) :=
  (isO h v0 10).bind fun _ =>
  (gI h v0 10 47).bind fun x1 =>
  if x1 = 16 then
  (fX10_keeps_b11 n n v0 0 h)
  else
  (fX10_keeps_b49 n v0 h)
theorem obX10_keeps {n : Nat} {v0 : Nat} {h : qH} {p : qH} (hyp : fX10_keeps n v0 h = some p) : ∃ fs, h.1 v0 = some (.inr (10, fs)) := by
  unfold fX10_keeps at hyp
  exact q_bind hyp (fun _ e _ => isO_some e)
set_option maxHeartbeats 4000000 in
set_option maxRecDepth 100000 in
theorem okX10_keeps {l : Launch} {n : Nat} {v0 : Nat} {h : qH} {h' : qH} (hyp : fX10_keeps n v0 h = some h') : q_M l 2 yX10_keeps cX10_keeps 2 none [.ref v0] h none h' := by
  unfold fX10_keeps at hyp
  refine q_bind hyp (fun _ _ hyp => ?_)
  refine q_M.of (by decide) (Nat.le_of_ble_eq_true rfl) ?_
  refine q_to (ls' := [(0, .ref v0)]) (st' := []) rfl rfl ?_
  refine q_aload_n 0 rfl dX10_keeps_0 ?_
  refine q_bind hyp (fun x1 e2 hyp => ?_)
  refine q_getI kF_X10_314 dX10_keeps_1 e2 ?_
  refine q_bipush (x := 16) (by decide) dX10_keeps_4 ?_
  refine q_icmp_ne (tgt := 49) dX10_keeps_6 (by decide) (fun c3 => ?_) (fun c3 => ?_)
  · have hyp := q_neg c3 hyp
    exact q_sub [0] rfl (okX10_keeps_b49 hyp)
  · have hyp := q_pos c3 hyp
    refine q_iconst (x := 0) rfl dX10_keeps_9 ?_
    refine q_istore_n (ls' := [(1, .int 0), (0, .ref v0)]) (by decide) rfl dX10_keeps_10 ?_
    exact q_sub [1, 0] rfl (okX10_keeps_b11 _ v0 0 h hyp)
theorem dX10_eat_0 : decode cX10_eat 0 = .ok (.aload_n 0, 1) := by decide +kernel
theorem dX10_eat_1 : decode cX10_eat 1 = .ok (.iconst 0, 1) := by decide +kernel
theorem dX10_eat_2 : decode cX10_eat 2 = .ok (.putfield 136, 3) := by decide +kernel
theorem dX10_eat_5 : decode cX10_eat 5 = .ok (.aload_n 0, 1) := by decide +kernel
theorem dX10_eat_6 : decode cX10_eat 6 = .ok (.iload_n 1, 1) := by decide +kernel
theorem dX10_eat_7 : decode cX10_eat 7 = .ok (.invokevirtual 346, 3) := by decide +kernel
theorem dX10_eat_10 : decode cX10_eat 10 = .ok (.ifCond .eq 15, 3) := by decide +kernel
theorem dX10_eat_13 : decode cX10_eat 13 = .ok (.aload_n 0, 1) := by decide +kernel
theorem dX10_eat_14 : decode cX10_eat 14 = .ok (.getfield 99, 3) := by decide +kernel
theorem dX10_eat_17 : decode cX10_eat 17 = .ok (.bipush 9, 2) := by decide +kernel
theorem dX10_eat_19 : decode cX10_eat 19 = .ok (.iload_n 1, 1) := by decide +kernel
theorem dX10_eat_20 : decode cX10_eat 20 = .ok (.iadd, 1) := by decide +kernel
theorem dX10_eat_21 : decode cX10_eat 21 = .ok (.iaload, 1) := by decide +kernel
theorem dX10_eat_22 : decode cX10_eat 22 = .ok (.ifCond .ne 5, 3) := by decide +kernel
theorem dX10_eat_25 : decode cX10_eat 25 = .ok (.iconst (-1), 1) := by decide +kernel
theorem dX10_eat_26 : decode cX10_eat 26 = .ok (.ireturn, 1) := by decide +kernel
theorem dX10_eat_27 : decode cX10_eat 27 = .ok (.aload_n 0, 1) := by decide +kernel
theorem dX10_eat_28 : decode cX10_eat 28 = .ok (.invokevirtual 359, 3) := by decide +kernel
theorem dX10_eat_31 : decode cX10_eat 31 = .ok (.aload_n 0, 1) := by decide +kernel
theorem dX10_eat_32 : decode cX10_eat 32 = .ok (.iload_n 1, 1) := by decide +kernel
theorem dX10_eat_33 : decode cX10_eat 33 = .ok (.invokevirtual 365, 3) := by decide +kernel
theorem dX10_eat_36 : decode cX10_eat 36 = .ok (.aload_n 0, 1) := by decide +kernel
theorem dX10_eat_37 : decode cX10_eat 37 = .ok (.getfield 99, 3) := by decide +kernel
theorem dX10_eat_40 : decode cX10_eat 40 = .ok (.iconst 2, 1) := by decide +kernel
theorem dX10_eat_41 : decode cX10_eat 41 = .ok (.iload_n 1, 1) := by decide +kernel
theorem dX10_eat_42 : decode cX10_eat 42 = .ok (.iadd, 1) := by decide +kernel
theorem dX10_eat_43 : decode cX10_eat 43 = .ok (.iaload, 1) := by decide +kernel
theorem dX10_eat_44 : decode cX10_eat 44 = .ok (.ireturn, 1) := by decide +kernel
def fX10_eat (n : Nat) (v0 : Nat) (v1 : Int32) (h : qH) : Option (Int32 × qH) :=
  (isO h v0 10).bind fun _ =>
  (pF h v0 10 0 (.int 0)).bind fun h1 =>
  (fX10_isMatter v0 v1 h1).bind fun p3 =>
  if p3.1 = 0 then
  (some ((-1), p3.2))
  else
  ((gR p3.2 v0 10 41).bind fun x5 =>
  (aI .int p3.2 x5 (9 + v1)).bind fun x7 =>
  if x7 = 0 then
  (some ((-1), p3.2))
  else
  ((fX10_keeps n v0 p3.2).bind fun h10 =>
  (fX10_eaten v0 v1 h10).bind fun h11 =>
  (gR h11 v0 10 41).bind fun x12 =>
  (aI .int h11 x12 (2 + v1)).bind fun x14 =>
  some (x14, h11)))
theorem obX10_eat {n : Nat} {v0 : Nat} {v1 : Int32} {h : qH} {p : Int32 × qH} (hyp : fX10_eat n v0 v1 h = some p) : ∃ fs, h.1 v0 = some (.inr (10, fs)) := by
  unfold fX10_eat at hyp
  exact q_bind hyp (fun _ e _ => isO_some e)
set_option maxHeartbeats 4000000 in
set_option maxRecDepth 100000 in
theorem okX10_eat {l : Launch} {n : Nat} {v0 : Nat} {v1 : Int32} {h : qH} {p : Int32 × qH} (hyp : fX10_eat n v0 v1 h = some p) : q_M l 3 yX10_eat cX10_eat 2 (some .int) [.ref v0, .int v1] h (some (.int p.1)) p.2 := by
  obtain ⟨r, h'⟩ := p
  unfold fX10_eat at hyp
  refine q_bind hyp (fun _ _ hyp => ?_)
  refine q_M.of (by decide) (Nat.le_of_ble_eq_true rfl) ?_
  refine q_to (ls' := [(0, .ref v0), (1, .int v1)]) (st' := []) rfl rfl ?_
  refine q_aload_n 0 rfl dX10_eat_0 ?_
  refine q_iconst (x := 0) rfl dX10_eat_1 ?_
  refine q_bind hyp (fun h1 e2 hyp => ?_)
  refine q_putF kF_X10_136 (fun _ => ⟨rfl, rfl⟩) dX10_eat_2 e2 ?_
  refine q_aload_n 0 rfl dX10_eat_5 ?_
  refine q_iload_n 1 rfl dX10_eat_6 ?_
  refine q_bind hyp (fun p3 e18 hyp => ?_)
  refine q_callV (as := [.int v1]) (st := []) kY_X10_isMatter kL_X10_346 (okX10_isMatter (l := l) e18) (by decide) rfl (obX10_isMatter e18) (Nat.le_of_ble_eq_true rfl) dX10_eat_7 ?_
  refine q_to (ls' := [(0, .ref v0), (1, .int v1)]) (st' := [.int p3.1]) rfl rfl ?_
  refine q_if_eq (tgt := 25) dX10_eat_10 (by decide) (fun c4 => ?_) (fun c4 => ?_)
  · have hyp := q_pos c4 hyp
    refine q_iconst (x := (-1)) rfl dX10_eat_25 ?_
    exact q_iretH rfl rfl dX10_eat_26 hyp
  · have hyp := q_neg c4 hyp
    refine q_aload_n 0 rfl dX10_eat_13 ?_
    refine q_bind hyp (fun x5 e6 hyp => ?_)
    refine q_getR kF_X10_99 dX10_eat_14 e6 ?_
    refine q_bipush (x := 9) (by decide) dX10_eat_17 ?_
    refine q_iload_n 1 rfl dX10_eat_19 ?_
    refine q_iadd dX10_eat_20 ?_
    refine q_bind hyp (fun x7 e8 hyp => ?_)
    refine q_iald dX10_eat_21 e8 ?_
    refine q_if_ne (tgt := 27) dX10_eat_22 (by decide) (fun c9 => ?_) (fun c9 => ?_)
    · have hyp := q_neg c9 hyp
      refine q_aload_n 0 rfl dX10_eat_27 ?_
      refine q_bind hyp (fun h10 e17 hyp => ?_)
      refine q_callV (as := []) (st := []) kY_X10_keeps kL_X10_359 (okX10_keeps (l := l) e17) (by decide) rfl (obX10_keeps e17) (Nat.le_of_ble_eq_true rfl) dX10_eat_28 ?_
      refine q_to (ls' := [(0, .ref v0), (1, .int v1)]) (st' := []) rfl rfl ?_
      refine q_aload_n 0 rfl dX10_eat_31 ?_
      refine q_iload_n 1 rfl dX10_eat_32 ?_
      refine q_bind hyp (fun h11 e16 hyp => ?_)
      refine q_callV (as := [.int v1]) (st := []) kY_X10_eaten kL_X10_365 (okX10_eaten (l := l) e16) (by decide) rfl (obX10_eaten e16) (Nat.le_of_ble_eq_true rfl) dX10_eat_33 ?_
      refine q_to (ls' := [(0, .ref v0), (1, .int v1)]) (st' := []) rfl rfl ?_
      refine q_aload_n 0 rfl dX10_eat_36 ?_
      refine q_bind hyp (fun x12 e13 hyp => ?_)
      refine q_getR kF_X10_99 dX10_eat_37 e13 ?_
      refine q_iconst (x := 2) rfl dX10_eat_40 ?_
      refine q_iload_n 1 rfl dX10_eat_41 ?_
      refine q_iadd dX10_eat_42 ?_
      refine q_bind hyp (fun x14 e15 hyp => ?_)
      refine q_iald dX10_eat_43 e15 ?_
      exact q_iretH rfl rfl dX10_eat_44 hyp
    · have hyp := q_pos c9 hyp
      refine q_iconst (x := (-1)) rfl dX10_eat_25 ?_
      exact q_iretH rfl rfl dX10_eat_26 hyp
theorem dX10_elders_0 : decode cX10_elders 0 = .ok (.aload_n 0, 1) := by decide +kernel
theorem dX10_elders_1 : decode cX10_elders 1 = .ok (.iconst 0, 1) := by decide +kernel
theorem dX10_elders_2 : decode cX10_elders 2 = .ok (.putfield 136, 3) := by decide +kernel
theorem dX10_elders_5 : decode cX10_elders 5 = .ok (.aload_n 0, 1) := by decide +kernel
theorem dX10_elders_6 : decode cX10_elders 6 = .ok (.iload_n 1, 1) := by decide +kernel
theorem dX10_elders_7 : decode cX10_elders 7 = .ok (.invokevirtual 346, 3) := by decide +kernel
theorem dX10_elders_10 : decode cX10_elders 10 = .ok (.ifCond .ne 5, 3) := by decide +kernel
theorem dX10_elders_13 : decode cX10_elders 13 = .ok (.iconst (-1), 1) := by decide +kernel
theorem dX10_elders_14 : decode cX10_elders 14 = .ok (.ireturn, 1) := by decide +kernel
theorem dX10_elders_15 : decode cX10_elders 15 = .ok (.iconst 0, 1) := by decide +kernel
theorem dX10_elders_16 : decode cX10_elders 16 = .ok (.istore_n 2, 1) := by decide +kernel
theorem dX10_elders_17 : decode cX10_elders 17 = .ok (.iconst 0, 1) := by decide +kernel
theorem dX10_elders_18 : decode cX10_elders 18 = .ok (.istore_n 3, 1) := by decide +kernel
theorem dX10_elders_19 : decode cX10_elders 19 = .ok (.iload_n 3, 1) := by decide +kernel
theorem dX10_elders_20 : decode cX10_elders 20 = .ok (.aload_n 0, 1) := by decide +kernel
theorem dX10_elders_21 : decode cX10_elders 21 = .ok (.getfield 13, 3) := by decide +kernel
theorem dX10_elders_24 : decode cX10_elders 24 = .ok (.iconst 0, 1) := by decide +kernel
theorem dX10_elders_25 : decode cX10_elders 25 = .ok (.iaload, 1) := by decide +kernel
theorem dX10_elders_26 : decode cX10_elders 26 = .ok (.if_icmp .ge 33, 3) := by decide +kernel
theorem dX10_elders_29 : decode cX10_elders 29 = .ok (.aload_n 0, 1) := by decide +kernel
theorem dX10_elders_30 : decode cX10_elders 30 = .ok (.getfield 23, 3) := by decide +kernel
theorem dX10_elders_33 : decode cX10_elders 33 = .ok (.iload_n 3, 1) := by decide +kernel
theorem dX10_elders_34 : decode cX10_elders 34 = .ok (.iaload, 1) := by decide +kernel
theorem dX10_elders_35 : decode cX10_elders 35 = .ok (.aload_n 0, 1) := by decide +kernel
theorem dX10_elders_36 : decode cX10_elders 36 = .ok (.getfield 23, 3) := by decide +kernel
theorem dX10_elders_39 : decode cX10_elders 39 = .ok (.iload_n 1, 1) := by decide +kernel
theorem dX10_elders_40 : decode cX10_elders 40 = .ok (.iaload, 1) := by decide +kernel
theorem dX10_elders_41 : decode cX10_elders 41 = .ok (.if_icmp .lt 6, 3) := by decide +kernel
theorem dX10_elders_44 : decode cX10_elders 44 = .ok (.goto 9, 3) := by decide +kernel
theorem dX10_elders_47 : decode cX10_elders 47 = .ok (.iload_n 2, 1) := by decide +kernel
theorem dX10_elders_48 : decode cX10_elders 48 = .ok (.iconst 1, 1) := by decide +kernel
theorem dX10_elders_49 : decode cX10_elders 49 = .ok (.iload_n 3, 1) := by decide +kernel
theorem dX10_elders_50 : decode cX10_elders 50 = .ok (.ishl, 1) := by decide +kernel
theorem dX10_elders_51 : decode cX10_elders 51 = .ok (.ior, 1) := by decide +kernel
theorem dX10_elders_52 : decode cX10_elders 52 = .ok (.istore_n 2, 1) := by decide +kernel
theorem dX10_elders_53 : decode cX10_elders 53 = .ok (.iinc 3 1, 3) := by decide +kernel
theorem dX10_elders_56 : decode cX10_elders 56 = .ok (.goto (-37), 3) := by decide +kernel
theorem dX10_elders_59 : decode cX10_elders 59 = .ok (.iload_n 2, 1) := by decide +kernel
theorem dX10_elders_60 : decode cX10_elders 60 = .ok (.ireturn, 1) := by decide +kernel
def fX10_elders_b19 (n : Nat) : Nat → Nat → Int32 → Int32 → Int32 → qH → Option (Int32 × qH)
  | 0, _, _, _, _, _ => none
  | w + 1, v0, v1, v2, v3, h =>
    (gR h v0 10 10).bind fun x1 =>
    (aI .int h x1 0).bind fun x3 =>
    if x3 ≤ v3 then
    (some (v2, h))
    else
    ((gR h v0 10 13).bind fun x6 =>
    (aI .int h x6 v3).bind fun x8 =>
    (gR h v0 10 13).bind fun x10 =>
    (aI .int h x10 v1).bind fun x12 =>
    if x8 < x12 then
    (fX10_elders_b19 n w v0 v1 (v2 ||| ((1 : Int32) <<< (v3 &&& 31))) (v3 + 1) h)
    else
    (fX10_elders_b19 n w v0 v1 v2 (v3 + 1) h))
set_option maxHeartbeats 4000000 in
set_option maxRecDepth 100000 in
theorem okX10_elders_b19 {l : Launch} {n : Nat} {r : Int32} {h' : qH} : ∀ (w : Nat) (v0 : Nat) (v1 : Int32) (v2 : Int32) (v3 : Int32) (h : qH), fX10_elders_b19 n w v0 v1 v2 v3 h = some (r, h') → q_W l 2 yX10_elders cX10_elders 4 (some .int) (some (.int r)) h' 19 [(0, .ref v0), (1, .int v1), (2, .int v2), (3, .int v3)] [] h := by
  intro w
  induction w with
  | zero => intro v0 v1 v2 v3 h hyp; cases hyp
  | succ w ih =>
    intro v0 v1 v2 v3 h hyp
    unfold fX10_elders_b19 at hyp
    refine q_iload_n 3 rfl dX10_elders_19 ?_
    refine q_aload_n 0 rfl dX10_elders_20 ?_
    refine q_bind hyp (fun x1 e2 hyp => ?_)
    refine q_getR kF_X10_13 dX10_elders_21 e2 ?_
    refine q_iconst (x := 0) rfl dX10_elders_24 ?_
    refine q_bind hyp (fun x3 e4 hyp => ?_)
    refine q_iald dX10_elders_25 e4 ?_
    refine q_icmp_ge (tgt := 59) dX10_elders_26 (by decide) (fun c5 => ?_) (fun c5 => ?_)
    · have hyp := q_pos c5 hyp
      refine q_iload_n 2 rfl dX10_elders_59 ?_
      exact q_iretH rfl rfl dX10_elders_60 hyp
    · have hyp := q_neg c5 hyp
      refine q_aload_n 0 rfl dX10_elders_29 ?_
      refine q_bind hyp (fun x6 e7 hyp => ?_)
      refine q_getR kF_X10_23 dX10_elders_30 e7 ?_
      refine q_iload_n 3 rfl dX10_elders_33 ?_
      refine q_bind hyp (fun x8 e9 hyp => ?_)
      refine q_iald dX10_elders_34 e9 ?_
      refine q_aload_n 0 rfl dX10_elders_35 ?_
      refine q_bind hyp (fun x10 e11 hyp => ?_)
      refine q_getR kF_X10_23 dX10_elders_36 e11 ?_
      refine q_iload_n 1 rfl dX10_elders_39 ?_
      refine q_bind hyp (fun x12 e13 hyp => ?_)
      refine q_iald dX10_elders_40 e13 ?_
      refine q_icmp_lt (tgt := 47) dX10_elders_41 (by decide) (fun c14 => ?_) (fun c14 => ?_)
      · have hyp := q_pos c14 hyp
        refine q_iload_n 2 rfl dX10_elders_47 ?_
        refine q_iconst (x := 1) rfl dX10_elders_48 ?_
        refine q_iload_n 3 rfl dX10_elders_49 ?_
        refine q_ishl dX10_elders_50 ?_
        refine q_ior dX10_elders_51 ?_
        refine q_istore_n (ls' := [(2, .int (v2 ||| ((1 : Int32) <<< (v3 &&& 31)))), (0, .ref v0), (1, .int v1), (3, .int v3)]) (by decide) rfl dX10_elders_52 ?_
        refine q_iinc (ls' := [(3, .int (v3 + 1)), (2, .int (v2 ||| ((1 : Int32) <<< (v3 &&& 31)))), (0, .ref v0), (1, .int v1)]) 3 rfl rfl (by decide) rfl dX10_elders_53 ?_
        refine q_goto (tgt := 19) dX10_elders_56 (by decide) ?_
        exact q_sub [2, 3, 1, 0] rfl (ih v0 v1 (v2 ||| ((1 : Int32) <<< (v3 &&& 31))) (v3 + 1) h hyp)
      · have hyp := q_neg c14 hyp
        refine q_goto (tgt := 53) dX10_elders_44 (by decide) ?_
        refine q_iinc (ls' := [(3, .int (v3 + 1)), (0, .ref v0), (1, .int v1), (2, .int v2)]) 3 rfl rfl (by decide) rfl dX10_elders_53 ?_
        refine q_goto (tgt := 19) dX10_elders_56 (by decide) ?_
        exact q_sub [1, 2, 3, 0] rfl (ih v0 v1 v2 (v3 + 1) h hyp)
def fX10_elders (n : Nat) (v0 : Nat) (v1 : Int32) (h : qH) : Option (Int32 × qH) :=
  (isO h v0 10).bind fun _ =>
  (pF h v0 10 0 (.int 0)).bind fun h1 =>
  (fX10_isMatter v0 v1 h1).bind fun p3 =>
  if p3.1 = 0 then
  (some ((-1), p3.2))
  else
  (fX10_elders_b19 n n v0 v1 0 0 p3.2)
theorem obX10_elders {n : Nat} {v0 : Nat} {v1 : Int32} {h : qH} {p : Int32 × qH} (hyp : fX10_elders n v0 v1 h = some p) : ∃ fs, h.1 v0 = some (.inr (10, fs)) := by
  unfold fX10_elders at hyp
  exact q_bind hyp (fun _ e _ => isO_some e)
set_option maxHeartbeats 4000000 in
set_option maxRecDepth 100000 in
theorem okX10_elders {l : Launch} {n : Nat} {v0 : Nat} {v1 : Int32} {h : qH} {p : Int32 × qH} (hyp : fX10_elders n v0 v1 h = some p) : q_M l 2 yX10_elders cX10_elders 4 (some .int) [.ref v0, .int v1] h (some (.int p.1)) p.2 := by
  obtain ⟨r, h'⟩ := p
  unfold fX10_elders at hyp
  refine q_bind hyp (fun _ _ hyp => ?_)
  refine q_M.of (by decide) (Nat.le_of_ble_eq_true rfl) ?_
  refine q_to (ls' := [(0, .ref v0), (1, .int v1)]) (st' := []) rfl rfl ?_
  refine q_aload_n 0 rfl dX10_elders_0 ?_
  refine q_iconst (x := 0) rfl dX10_elders_1 ?_
  refine q_bind hyp (fun h1 e2 hyp => ?_)
  refine q_putF kF_X10_136 (fun _ => ⟨rfl, rfl⟩) dX10_elders_2 e2 ?_
  refine q_aload_n 0 rfl dX10_elders_5 ?_
  refine q_iload_n 1 rfl dX10_elders_6 ?_
  refine q_bind hyp (fun p3 e5 hyp => ?_)
  refine q_callV (as := [.int v1]) (st := []) kY_X10_isMatter kL_X10_346 (okX10_isMatter (l := l) e5) (by decide) rfl (obX10_isMatter e5) (Nat.le_of_ble_eq_true rfl) dX10_elders_7 ?_
  refine q_to (ls' := [(0, .ref v0), (1, .int v1)]) (st' := [.int p3.1]) rfl rfl ?_
  refine q_if_ne (tgt := 15) dX10_elders_10 (by decide) (fun c4 => ?_) (fun c4 => ?_)
  · have hyp := q_neg c4 hyp
    refine q_iconst (x := 0) rfl dX10_elders_15 ?_
    refine q_istore_n (ls' := [(2, .int 0), (0, .ref v0), (1, .int v1)]) (by decide) rfl dX10_elders_16 ?_
    refine q_iconst (x := 0) rfl dX10_elders_17 ?_
    refine q_istore_n (ls' := [(3, .int 0), (2, .int 0), (0, .ref v0), (1, .int v1)]) (by decide) rfl dX10_elders_18 ?_
    exact q_sub [2, 3, 1, 0] rfl (okX10_elders_b19 _ v0 v1 0 0 p3.2 hyp)
  · have hyp := q_pos c4 hyp
    refine q_iconst (x := (-1)) rfl dX10_elders_13 ?_
    exact q_iretH rfl rfl dX10_elders_14 hyp
theorem dX10_fact_0 : decode cX10_fact 0 = .ok (.aload_n 0, 1) := by decide +kernel
theorem dX10_fact_1 : decode cX10_fact 1 = .ok (.getfield 161, 3) := by decide +kernel
theorem dX10_fact_4 : decode cX10_fact 4 = .ok (.iconst 1, 1) := by decide +kernel
theorem dX10_fact_5 : decode cX10_fact 5 = .ok (.if_icmp .eq 5, 3) := by decide +kernel
theorem dX10_fact_8 : decode cX10_fact 8 = .ok (.iconst 0, 1) := by decide +kernel
theorem dX10_fact_9 : decode cX10_fact 9 = .ok (.ireturn, 1) := by decide +kernel
theorem dX10_fact_10 : decode cX10_fact 10 = .ok (.aload_n 0, 1) := by decide +kernel
theorem dX10_fact_11 : decode cX10_fact 11 = .ok (.getfield 154, 3) := by decide +kernel
theorem dX10_fact_14 : decode cX10_fact 14 = .ok (.ldc2_w 178, 3) := by decide +kernel
theorem dX10_fact_17 : decode cX10_fact 17 = .ok (.lcmp, 1) := by decide +kernel
theorem dX10_fact_18 : decode cX10_fact 18 = .ok (.ifCond .ne 5, 3) := by decide +kernel
theorem dX10_fact_21 : decode cX10_fact 21 = .ok (.iconst 1, 1) := by decide +kernel
theorem dX10_fact_22 : decode cX10_fact 22 = .ok (.ireturn, 1) := by decide +kernel
theorem dX10_fact_23 : decode cX10_fact 23 = .ok (.aload_n 0, 1) := by decide +kernel
theorem dX10_fact_24 : decode cX10_fact 24 = .ok (.getfield 154, 3) := by decide +kernel
theorem dX10_fact_27 : decode cX10_fact 27 = .ok (.ldc2_w 180, 3) := by decide +kernel
theorem dX10_fact_30 : decode cX10_fact 30 = .ok (.lcmp, 1) := by decide +kernel
theorem dX10_fact_31 : decode cX10_fact 31 = .ok (.ifCond .ne 5, 3) := by decide +kernel
theorem dX10_fact_34 : decode cX10_fact 34 = .ok (.iconst 2, 1) := by decide +kernel
theorem dX10_fact_35 : decode cX10_fact 35 = .ok (.ireturn, 1) := by decide +kernel
theorem dX10_fact_36 : decode cX10_fact 36 = .ok (.aload_n 0, 1) := by decide +kernel
theorem dX10_fact_37 : decode cX10_fact 37 = .ok (.getfield 154, 3) := by decide +kernel
theorem dX10_fact_40 : decode cX10_fact 40 = .ok (.ldc2_w 182, 3) := by decide +kernel
theorem dX10_fact_43 : decode cX10_fact 43 = .ok (.lcmp, 1) := by decide +kernel
theorem dX10_fact_44 : decode cX10_fact 44 = .ok (.ifCond .ne 7, 3) := by decide +kernel
theorem dX10_fact_47 : decode cX10_fact 47 = .ok (.iconst 3, 1) := by decide +kernel
theorem dX10_fact_48 : decode cX10_fact 48 = .ok (.goto 19, 3) := by decide +kernel
theorem dX10_fact_51 : decode cX10_fact 51 = .ok (.aload_n 0, 1) := by decide +kernel
theorem dX10_fact_52 : decode cX10_fact 52 = .ok (.getfield 154, 3) := by decide +kernel
theorem dX10_fact_55 : decode cX10_fact 55 = .ok (.ldc2_w 184, 3) := by decide +kernel
theorem dX10_fact_58 : decode cX10_fact 58 = .ok (.lcmp, 1) := by decide +kernel
theorem dX10_fact_59 : decode cX10_fact 59 = .ok (.ifCond .ne 7, 3) := by decide +kernel
theorem dX10_fact_62 : decode cX10_fact 62 = .ok (.iconst 4, 1) := by decide +kernel
theorem dX10_fact_63 : decode cX10_fact 63 = .ok (.goto 4, 3) := by decide +kernel
theorem dX10_fact_66 : decode cX10_fact 66 = .ok (.iconst 0, 1) := by decide +kernel
theorem dX10_fact_67 : decode cX10_fact 67 = .ok (.ireturn, 1) := by decide +kernel
def fX10_fact (v0 : Nat) (h : qH) : Option (Int32 × qH) :=
  (isO h v0 10).bind fun _ =>
  (gI h v0 10 6).bind fun x1 =>
  if x1 = 1 then
  ((gL h v0 10 7).bind fun x4 =>
  if (lg_cmp x4 240023) = 0 then
  (some (1, h))
  else
  ((gL h v0 10 7).bind fun x7 =>
  if (lg_cmp x7 1890856) = 0 then
  (some (2, h))
  else
  ((gL h v0 10 7).bind fun x10 =>
  if (lg_cmp x10 923) = 0 then
  (some (3, h))
  else
  ((gL h v0 10 7).bind fun x13 =>
  if (lg_cmp x13 10792937) = 0 then
  (some (4, h))
  else
  (some (0, h))))))
  else
  (some (0, h))
theorem obX10_fact {v0 : Nat} {h : qH} {p : Int32 × qH} (hyp : fX10_fact v0 h = some p) : ∃ fs, h.1 v0 = some (.inr (10, fs)) := by
  unfold fX10_fact at hyp
  exact q_bind hyp (fun _ e _ => isO_some e)
set_option maxHeartbeats 4000000 in
set_option maxRecDepth 100000 in
theorem okX10_fact {l : Launch} {v0 : Nat} {h : qH} {p : Int32 × qH} (hyp : fX10_fact v0 h = some p) : q_M l 1 yX10_fact cX10_fact 1 (some .int) [.ref v0] h (some (.int p.1)) p.2 := by
  obtain ⟨r, h'⟩ := p
  unfold fX10_fact at hyp
  refine q_bind hyp (fun _ _ hyp => ?_)
  refine q_M.of (by decide) (Nat.le_of_ble_eq_true rfl) ?_
  refine q_to (ls' := [(0, .ref v0)]) (st' := []) rfl rfl ?_
  refine q_aload_n 0 rfl dX10_fact_0 ?_
  refine q_bind hyp (fun x1 e2 hyp => ?_)
  refine q_getI kF_X10_161 dX10_fact_1 e2 ?_
  refine q_iconst (x := 1) rfl dX10_fact_4 ?_
  refine q_icmp_eq (tgt := 10) dX10_fact_5 (by decide) (fun c3 => ?_) (fun c3 => ?_)
  · have hyp := q_pos c3 hyp
    refine q_aload_n 0 rfl dX10_fact_10 ?_
    refine q_bind hyp (fun x4 e5 hyp => ?_)
    refine q_getL kF_X10_154 dX10_fact_11 e5 ?_
    refine q_ldc2 kK_X10_178 dX10_fact_14 ?_
    refine q_lcmp dX10_fact_17 ?_
    refine q_if_ne (tgt := 23) dX10_fact_18 (by decide) (fun c6 => ?_) (fun c6 => ?_)
    · have hyp := q_neg c6 hyp
      refine q_aload_n 0 rfl dX10_fact_23 ?_
      refine q_bind hyp (fun x7 e8 hyp => ?_)
      refine q_getL kF_X10_154 dX10_fact_24 e8 ?_
      refine q_ldc2 kK_X10_180 dX10_fact_27 ?_
      refine q_lcmp dX10_fact_30 ?_
      refine q_if_ne (tgt := 36) dX10_fact_31 (by decide) (fun c9 => ?_) (fun c9 => ?_)
      · have hyp := q_neg c9 hyp
        refine q_aload_n 0 rfl dX10_fact_36 ?_
        refine q_bind hyp (fun x10 e11 hyp => ?_)
        refine q_getL kF_X10_154 dX10_fact_37 e11 ?_
        refine q_ldc2 kK_X10_182 dX10_fact_40 ?_
        refine q_lcmp dX10_fact_43 ?_
        refine q_if_ne (tgt := 51) dX10_fact_44 (by decide) (fun c12 => ?_) (fun c12 => ?_)
        · have hyp := q_neg c12 hyp
          refine q_aload_n 0 rfl dX10_fact_51 ?_
          refine q_bind hyp (fun x13 e14 hyp => ?_)
          refine q_getL kF_X10_154 dX10_fact_52 e14 ?_
          refine q_ldc2 kK_X10_184 dX10_fact_55 ?_
          refine q_lcmp dX10_fact_58 ?_
          refine q_if_ne (tgt := 66) dX10_fact_59 (by decide) (fun c15 => ?_) (fun c15 => ?_)
          · have hyp := q_neg c15 hyp
            refine q_iconst (x := 0) rfl dX10_fact_66 ?_
            exact q_iretH rfl rfl dX10_fact_67 hyp
          · have hyp := q_pos c15 hyp
            refine q_iconst (x := 4) rfl dX10_fact_62 ?_
            refine q_goto (tgt := 67) dX10_fact_63 (by decide) ?_
            exact q_iretH rfl rfl dX10_fact_67 hyp
        · have hyp := q_pos c12 hyp
          refine q_iconst (x := 3) rfl dX10_fact_47 ?_
          refine q_goto (tgt := 67) dX10_fact_48 (by decide) ?_
          exact q_iretH rfl rfl dX10_fact_67 hyp
      · have hyp := q_pos c9 hyp
        refine q_iconst (x := 2) rfl dX10_fact_34 ?_
        exact q_iretH rfl rfl dX10_fact_35 hyp
    · have hyp := q_pos c6 hyp
      refine q_iconst (x := 1) rfl dX10_fact_21 ?_
      exact q_iretH rfl rfl dX10_fact_22 hyp
  · have hyp := q_neg c3 hyp
    refine q_iconst (x := 0) rfl dX10_fact_8 ?_
    exact q_iretH rfl rfl dX10_fact_9 hyp
theorem dX10_feed_0 : decode cX10_feed 0 = .ok (.aload_n 0, 1) := by decide +kernel
theorem dX10_feed_1 : decode cX10_feed 1 = .ok (.iconst 0, 1) := by decide +kernel
theorem dX10_feed_2 : decode cX10_feed 2 = .ok (.putfield 136, 3) := by decide +kernel
theorem dX10_feed_5 : decode cX10_feed 5 = .ok (.iconst 0, 1) := by decide +kernel
theorem dX10_feed_6 : decode cX10_feed 6 = .ok (.istore 7, 2) := by decide +kernel
theorem dX10_feed_8 : decode cX10_feed 8 = .ok (.iload 7, 2) := by decide +kernel
theorem dX10_feed_10 : decode cX10_feed 10 = .ok (.bipush 24, 2) := by decide +kernel
theorem dX10_feed_12 : decode cX10_feed 12 = .ok (.if_icmp .ge 108, 3) := by decide +kernel
theorem dX10_feed_15 : decode cX10_feed 15 = .ok (.iload 7, 2) := by decide +kernel
theorem dX10_feed_17 : decode cX10_feed 17 = .ok (.bipush 8, 2) := by decide +kernel
theorem dX10_feed_19 : decode cX10_feed 19 = .ok (.if_icmp .ge 7, 3) := by decide +kernel
theorem dX10_feed_22 : decode cX10_feed 22 = .ok (.lload_n 1, 1) := by decide +kernel
theorem dX10_feed_23 : decode cX10_feed 23 = .ok (.goto 16, 3) := by decide +kernel
theorem dX10_feed_26 : decode cX10_feed 26 = .ok (.iload 7, 2) := by decide +kernel
theorem dX10_feed_28 : decode cX10_feed 28 = .ok (.bipush 16, 2) := by decide +kernel
theorem dX10_feed_30 : decode cX10_feed 30 = .ok (.if_icmp .ge 7, 3) := by decide +kernel
theorem dX10_feed_33 : decode cX10_feed 33 = .ok (.lload_n 3, 1) := by decide +kernel
theorem dX10_feed_34 : decode cX10_feed 34 = .ok (.goto 5, 3) := by decide +kernel
theorem dX10_feed_37 : decode cX10_feed 37 = .ok (.lload 5, 2) := by decide +kernel
theorem dX10_feed_39 : decode cX10_feed 39 = .ok (.lstore 8, 2) := by decide +kernel
theorem dX10_feed_41 : decode cX10_feed 41 = .ok (.lload 8, 2) := by decide +kernel
theorem dX10_feed_43 : decode cX10_feed 43 = .ok (.bipush 56, 2) := by decide +kernel
theorem dX10_feed_45 : decode cX10_feed 45 = .ok (.bipush 8, 2) := by decide +kernel
theorem dX10_feed_47 : decode cX10_feed 47 = .ok (.iload 7, 2) := by decide +kernel
theorem dX10_feed_49 : decode cX10_feed 49 = .ok (.bipush 7, 2) := by decide +kernel
theorem dX10_feed_51 : decode cX10_feed 51 = .ok (.iand, 1) := by decide +kernel
theorem dX10_feed_52 : decode cX10_feed 52 = .ok (.imul, 1) := by decide +kernel
theorem dX10_feed_53 : decode cX10_feed 53 = .ok (.isub, 1) := by decide +kernel
theorem dX10_feed_54 : decode cX10_feed 54 = .ok (.lushr, 1) := by decide +kernel
theorem dX10_feed_55 : decode cX10_feed 55 = .ok (.ldc2_w 140, 3) := by decide +kernel
theorem dX10_feed_58 : decode cX10_feed 58 = .ok (.land, 1) := by decide +kernel
theorem dX10_feed_59 : decode cX10_feed 59 = .ok (.l2i, 1) := by decide +kernel
theorem dX10_feed_60 : decode cX10_feed 60 = .ok (.istore 10, 2) := by decide +kernel
theorem dX10_feed_62 : decode cX10_feed 62 = .ok (.aload_n 0, 1) := by decide +kernel
theorem dX10_feed_63 : decode cX10_feed 63 = .ok (.getfield 142, 3) := by decide +kernel
theorem dX10_feed_66 : decode cX10_feed 66 = .ok (.sipush 1000, 3) := by decide +kernel
theorem dX10_feed_69 : decode cX10_feed 69 = .ok (.if_icmp .ge 45, 3) := by decide +kernel
theorem dX10_feed_72 : decode cX10_feed 72 = .ok (.iload 10, 2) := by decide +kernel
theorem dX10_feed_74 : decode cX10_feed 74 = .ok (.bipush 10, 2) := by decide +kernel
theorem dX10_feed_76 : decode cX10_feed 76 = .ok (.if_icmp .eq 17, 3) := by decide +kernel
theorem dX10_feed_79 : decode cX10_feed 79 = .ok (.iload 10, 2) := by decide +kernel
theorem dX10_feed_81 : decode cX10_feed 81 = .ok (.bipush 32, 2) := by decide +kernel
theorem dX10_feed_83 : decode cX10_feed 83 = .ok (.if_icmp .lt 31, 3) := by decide +kernel
theorem dX10_feed_86 : decode cX10_feed 86 = .ok (.iload 10, 2) := by decide +kernel
theorem dX10_feed_88 : decode cX10_feed 88 = .ok (.bipush 126, 2) := by decide +kernel
theorem dX10_feed_90 : decode cX10_feed 90 = .ok (.if_icmp .gt 24, 3) := by decide +kernel
theorem dX10_feed_93 : decode cX10_feed 93 = .ok (.aload_n 0, 1) := by decide +kernel
theorem dX10_feed_94 : decode cX10_feed 94 = .ok (.getfield 7, 3) := by decide +kernel
theorem dX10_feed_97 : decode cX10_feed 97 = .ok (.aload_n 0, 1) := by decide +kernel
theorem dX10_feed_98 : decode cX10_feed 98 = .ok (.getfield 142, 3) := by decide +kernel
theorem dX10_feed_101 : decode cX10_feed 101 = .ok (.iload 10, 2) := by decide +kernel
theorem dX10_feed_103 : decode cX10_feed 103 = .ok (.iastore, 1) := by decide +kernel
theorem dX10_feed_104 : decode cX10_feed 104 = .ok (.aload_n 0, 1) := by decide +kernel
theorem dX10_feed_105 : decode cX10_feed 105 = .ok (.dup, 1) := by decide +kernel
theorem dX10_feed_106 : decode cX10_feed 106 = .ok (.getfield 142, 3) := by decide +kernel
theorem dX10_feed_109 : decode cX10_feed 109 = .ok (.iconst 1, 1) := by decide +kernel
theorem dX10_feed_110 : decode cX10_feed 110 = .ok (.iadd, 1) := by decide +kernel
theorem dX10_feed_111 : decode cX10_feed 111 = .ok (.putfield 142, 3) := by decide +kernel
theorem dX10_feed_114 : decode cX10_feed 114 = .ok (.iinc 7 1, 3) := by decide +kernel
theorem dX10_feed_117 : decode cX10_feed 117 = .ok (.goto (-109), 3) := by decide +kernel
theorem dX10_feed_120 : decode cX10_feed 120 = .ok (.aload_n 0, 1) := by decide +kernel
theorem dX10_feed_121 : decode cX10_feed 121 = .ok (.getfield 142, 3) := by decide +kernel
theorem dX10_feed_124 : decode cX10_feed 124 = .ok (.ireturn, 1) := by decide +kernel
def fX10_feed_b93 (n : Nat) (K8 : Nat → Int64 → Int64 → Int64 → Int32 → qH → Option (Int32 × qH)) (v0 : Nat) (v1 : Int64) (v3 : Int64) (v5 : Int64) (v7 : Int32) (v10 : Int32) (h : qH) : Option (Int32 × qH) :=
  (gR h v0 10 2).bind fun x1 =>
  (gI h v0 10 1).bind fun x3 =>
  (sI .int h x1 x3 v10).bind fun h5 =>
  (gI h5 v0 10 1).bind fun x7 =>
  (pF h5 v0 10 1 (.int (x7 + 1))).bind fun h9 =>
  K8 v0 v1 v3 v5 (v7 + 1) h9
set_option maxHeartbeats 4000000 in
set_option maxRecDepth 100000 in
theorem okX10_feed_b93 {l : Launch} {n : Nat} {K8 : Nat → Int64 → Int64 → Int64 → Int32 → qH → Option (Int32 × qH)} {v0 : Nat} {v1 : Int64} {v3 : Int64} {v5 : Int64} {v7 : Int32} {v10 : Int32} {h : qH} {r : Int32} {h' : qH} (hK8 : ∀ (v0 : Nat) (v1 : Int64) (v3 : Int64) (v5 : Int64) (v7 : Int32) (h : qH), K8 v0 v1 v3 v5 v7 h = some (r, h') → q_W l 1 yX10_feed cX10_feed 11 (some .int) (some (.int r)) h' 8 [(0, .ref v0), (1, .long v1), (3, .long v3), (5, .long v5), (7, .int v7)] [] h) (hyp : fX10_feed_b93 n K8 v0 v1 v3 v5 v7 v10 h = some (r, h')) : q_W l 1 yX10_feed cX10_feed 11 (some .int) (some (.int r)) h' 93 [(0, .ref v0), (1, .long v1), (3, .long v3), (5, .long v5), (7, .int v7), (10, .int v10)] [] h := by
  unfold fX10_feed_b93 at hyp
  refine q_aload_n 0 rfl dX10_feed_93 ?_
  refine q_bind hyp (fun x1 e2 hyp => ?_)
  refine q_getR kF_X10_7 dX10_feed_94 e2 ?_
  refine q_aload_n 0 rfl dX10_feed_97 ?_
  refine q_bind hyp (fun x3 e4 hyp => ?_)
  refine q_getI kF_X10_142 dX10_feed_98 e4 ?_
  refine q_iload 5 rfl dX10_feed_101 ?_
  refine q_bind hyp (fun h5 e6 hyp => ?_)
  refine q_iast dX10_feed_103 e6 ?_
  refine q_aload_n 0 rfl dX10_feed_104 ?_
  refine q_dup rfl dX10_feed_105 ?_
  refine q_bind hyp (fun x7 e8 hyp => ?_)
  refine q_getI kF_X10_142 dX10_feed_106 e8 ?_
  refine q_iconst (x := 1) rfl dX10_feed_109 ?_
  refine q_iadd dX10_feed_110 ?_
  refine q_bind hyp (fun h9 e10 hyp => ?_)
  refine q_putF kF_X10_142 (fun _ => ⟨rfl, rfl⟩) dX10_feed_111 e10 ?_
  refine q_iinc (ls' := [(7, .int (v7 + 1)), (0, .ref v0), (1, .long v1), (3, .long v3), (5, .long v5), (10, .int v10)]) 4 rfl rfl (by decide) rfl dX10_feed_114 ?_
  refine q_goto (tgt := 8) dX10_feed_117 (by decide) ?_
  exact q_sub [1, 2, 3, 4, 0] rfl (hK8 v0 v1 v3 v5 (v7 + 1) h9 hyp)
def fX10_feed_b39 (n : Nat) (K8 : Nat → Int64 → Int64 → Int64 → Int32 → qH → Option (Int32 × qH)) (v0 : Nat) (v1 : Int64) (v3 : Int64) (v5 : Int64) (v7 : Int32) (s0 : Int64) (h : qH) : Option (Int32 × qH) :=
  (gI h v0 10 1).bind fun x1 =>
  if 1000 ≤ x1 then
  (K8 v0 v1 v3 v5 (v7 + 1) h)
  else
  (if ((((s0.toUInt64 >>> ((56 - (8 * (v7 &&& 7))).toInt64.toUInt64 &&& Int64.toUInt64 63)).toInt64) &&& 255).toInt32) = 10 then
  (fX10_feed_b93 n K8 v0 v1 v3 v5 v7 ((((s0.toUInt64 >>> ((56 - (8 * (v7 &&& 7))).toInt64.toUInt64 &&& Int64.toUInt64 63)).toInt64) &&& 255).toInt32) h)
  else
  (if ((((s0.toUInt64 >>> ((56 - (8 * (v7 &&& 7))).toInt64.toUInt64 &&& Int64.toUInt64 63)).toInt64) &&& 255).toInt32) < 32 then
  (K8 v0 v1 v3 v5 (v7 + 1) h)
  else
  (if 126 < ((((s0.toUInt64 >>> ((56 - (8 * (v7 &&& 7))).toInt64.toUInt64 &&& Int64.toUInt64 63)).toInt64) &&& 255).toInt32) then
  (K8 v0 v1 v3 v5 (v7 + 1) h)
  else
  (fX10_feed_b93 n K8 v0 v1 v3 v5 v7 ((((s0.toUInt64 >>> ((56 - (8 * (v7 &&& 7))).toInt64.toUInt64 &&& Int64.toUInt64 63)).toInt64) &&& 255).toInt32) h))))
set_option maxHeartbeats 4000000 in
set_option maxRecDepth 100000 in
theorem okX10_feed_b39 {l : Launch} {n : Nat} {K8 : Nat → Int64 → Int64 → Int64 → Int32 → qH → Option (Int32 × qH)} {v0 : Nat} {v1 : Int64} {v3 : Int64} {v5 : Int64} {v7 : Int32} {s0 : Int64} {h : qH} {r : Int32} {h' : qH} (hK8 : ∀ (v0 : Nat) (v1 : Int64) (v3 : Int64) (v5 : Int64) (v7 : Int32) (h : qH), K8 v0 v1 v3 v5 v7 h = some (r, h') → q_W l 1 yX10_feed cX10_feed 11 (some .int) (some (.int r)) h' 8 [(0, .ref v0), (1, .long v1), (3, .long v3), (5, .long v5), (7, .int v7)] [] h) (hyp : fX10_feed_b39 n K8 v0 v1 v3 v5 v7 s0 h = some (r, h')) : q_W l 1 yX10_feed cX10_feed 11 (some .int) (some (.int r)) h' 39 [(0, .ref v0), (1, .long v1), (3, .long v3), (5, .long v5), (7, .int v7)] [.long s0] h := by
  unfold fX10_feed_b39 at hyp
  refine q_lstore (ls' := [(8, .long s0), (0, .ref v0), (1, .long v1), (3, .long v3), (5, .long v5), (7, .int v7)]) (by decide) rfl dX10_feed_39 ?_
  refine q_lload 0 rfl dX10_feed_41 ?_
  refine q_bipush (x := 56) (by decide) dX10_feed_43 ?_
  refine q_bipush (x := 8) (by decide) dX10_feed_45 ?_
  refine q_iload 5 rfl dX10_feed_47 ?_
  refine q_bipush (x := 7) (by decide) dX10_feed_49 ?_
  refine q_iand dX10_feed_51 ?_
  refine q_imul dX10_feed_52 ?_
  refine q_isub dX10_feed_53 ?_
  refine q_lushr dX10_feed_54 ?_
  refine q_ldc2 kK_X10_140 dX10_feed_55 ?_
  refine q_land dX10_feed_58 ?_
  refine q_l2i dX10_feed_59 ?_
  refine q_istore (ls' := [(10, .int ((((s0.toUInt64 >>> ((56 - (8 * (v7 &&& 7))).toInt64.toUInt64 &&& Int64.toUInt64 63)).toInt64) &&& 255).toInt32)), (8, .long s0), (0, .ref v0), (1, .long v1), (3, .long v3), (5, .long v5), (7, .int v7)]) (by decide) rfl dX10_feed_60 ?_
  refine q_aload_n 2 rfl dX10_feed_62 ?_
  refine q_bind hyp (fun x1 e2 hyp => ?_)
  refine q_getI kF_X10_142 dX10_feed_63 e2 ?_
  refine q_sipush (x := 1000) (by decide) dX10_feed_66 ?_
  refine q_icmp_ge (tgt := 114) dX10_feed_69 (by decide) (fun c3 => ?_) (fun c3 => ?_)
  · have hyp := q_pos c3 hyp
    refine q_iinc (ls' := [(7, .int (v7 + 1)), (10, .int ((((s0.toUInt64 >>> ((56 - (8 * (v7 &&& 7))).toInt64.toUInt64 &&& Int64.toUInt64 63)).toInt64) &&& 255).toInt32)), (8, .long s0), (0, .ref v0), (1, .long v1), (3, .long v3), (5, .long v5)]) 6 rfl rfl (by decide) rfl dX10_feed_114 ?_
    refine q_goto (tgt := 8) dX10_feed_117 (by decide) ?_
    exact q_sub [3, 4, 5, 6, 0] rfl (hK8 v0 v1 v3 v5 (v7 + 1) h hyp)
  · have hyp := q_neg c3 hyp
    refine q_iload 0 rfl dX10_feed_72 ?_
    refine q_bipush (x := 10) (by decide) dX10_feed_74 ?_
    refine q_icmp_eq (tgt := 93) dX10_feed_76 (by decide) (fun c4 => ?_) (fun c4 => ?_)
    · have hyp := q_pos c4 hyp
      exact q_sub [2, 3, 4, 5, 6, 0] rfl (okX10_feed_b93 hK8 hyp)
    · have hyp := q_neg c4 hyp
      refine q_iload 0 rfl dX10_feed_79 ?_
      refine q_bipush (x := 32) (by decide) dX10_feed_81 ?_
      refine q_icmp_lt (tgt := 114) dX10_feed_83 (by decide) (fun c5 => ?_) (fun c5 => ?_)
      · have hyp := q_pos c5 hyp
        refine q_iinc (ls' := [(7, .int (v7 + 1)), (10, .int ((((s0.toUInt64 >>> ((56 - (8 * (v7 &&& 7))).toInt64.toUInt64 &&& Int64.toUInt64 63)).toInt64) &&& 255).toInt32)), (8, .long s0), (0, .ref v0), (1, .long v1), (3, .long v3), (5, .long v5)]) 6 rfl rfl (by decide) rfl dX10_feed_114 ?_
        refine q_goto (tgt := 8) dX10_feed_117 (by decide) ?_
        exact q_sub [3, 4, 5, 6, 0] rfl (hK8 v0 v1 v3 v5 (v7 + 1) h hyp)
      · have hyp := q_neg c5 hyp
        refine q_iload 0 rfl dX10_feed_86 ?_
        refine q_bipush (x := 126) (by decide) dX10_feed_88 ?_
        refine q_icmp_gt (tgt := 114) dX10_feed_90 (by decide) (fun c6 => ?_) (fun c6 => ?_)
        · have hyp := q_pos c6 hyp
          refine q_iinc (ls' := [(7, .int (v7 + 1)), (10, .int ((((s0.toUInt64 >>> ((56 - (8 * (v7 &&& 7))).toInt64.toUInt64 &&& Int64.toUInt64 63)).toInt64) &&& 255).toInt32)), (8, .long s0), (0, .ref v0), (1, .long v1), (3, .long v3), (5, .long v5)]) 6 rfl rfl (by decide) rfl dX10_feed_114 ?_
          refine q_goto (tgt := 8) dX10_feed_117 (by decide) ?_
          exact q_sub [3, 4, 5, 6, 0] rfl (hK8 v0 v1 v3 v5 (v7 + 1) h hyp)
        · have hyp := q_neg c6 hyp
          exact q_sub [2, 3, 4, 5, 6, 0] rfl (okX10_feed_b93 hK8 hyp)
def fX10_feed_b8 (n : Nat) : Nat → Nat → Int64 → Int64 → Int64 → Int32 → qH → Option (Int32 × qH)
  | 0, _, _, _, _, _, _ => none
  | w + 1, v0, v1, v3, v5, v7, h =>
    if 24 ≤ v7 then
    ((gI h v0 10 1).bind fun x2 =>
    some (x2, h))
    else
    (if 8 ≤ v7 then
    (if 16 ≤ v7 then
    (fX10_feed_b39 n (fX10_feed_b8 n w) v0 v1 v3 v5 v7 v5 h)
    else
    (fX10_feed_b39 n (fX10_feed_b8 n w) v0 v1 v3 v5 v7 v3 h))
    else
    (fX10_feed_b39 n (fX10_feed_b8 n w) v0 v1 v3 v5 v7 v1 h))
set_option maxHeartbeats 4000000 in
set_option maxRecDepth 100000 in
theorem okX10_feed_b8 {l : Launch} {n : Nat} {r : Int32} {h' : qH} : ∀ (w : Nat) (v0 : Nat) (v1 : Int64) (v3 : Int64) (v5 : Int64) (v7 : Int32) (h : qH), fX10_feed_b8 n w v0 v1 v3 v5 v7 h = some (r, h') → q_W l 1 yX10_feed cX10_feed 11 (some .int) (some (.int r)) h' 8 [(0, .ref v0), (1, .long v1), (3, .long v3), (5, .long v5), (7, .int v7)] [] h := by
  intro w
  induction w with
  | zero => intro v0 v1 v3 v5 v7 h hyp; cases hyp
  | succ w ih =>
    intro v0 v1 v3 v5 v7 h hyp
    unfold fX10_feed_b8 at hyp
    refine q_iload 4 rfl dX10_feed_8 ?_
    refine q_bipush (x := 24) (by decide) dX10_feed_10 ?_
    refine q_icmp_ge (tgt := 120) dX10_feed_12 (by decide) (fun c1 => ?_) (fun c1 => ?_)
    · have hyp := q_pos c1 hyp
      refine q_aload_n 0 rfl dX10_feed_120 ?_
      refine q_bind hyp (fun x2 e3 hyp => ?_)
      refine q_getI kF_X10_142 dX10_feed_121 e3 ?_
      exact q_iretH rfl rfl dX10_feed_124 hyp
    · have hyp := q_neg c1 hyp
      refine q_iload 4 rfl dX10_feed_15 ?_
      refine q_bipush (x := 8) (by decide) dX10_feed_17 ?_
      refine q_icmp_ge (tgt := 26) dX10_feed_19 (by decide) (fun c4 => ?_) (fun c4 => ?_)
      · have hyp := q_pos c4 hyp
        refine q_iload 4 rfl dX10_feed_26 ?_
        refine q_bipush (x := 16) (by decide) dX10_feed_28 ?_
        refine q_icmp_ge (tgt := 37) dX10_feed_30 (by decide) (fun c5 => ?_) (fun c5 => ?_)
        · have hyp := q_pos c5 hyp
          refine q_lload 3 rfl dX10_feed_37 ?_
          exact q_sub [0, 1, 2, 3, 4] rfl (okX10_feed_b39 ih hyp)
        · have hyp := q_neg c5 hyp
          refine q_lload_n 2 rfl dX10_feed_33 ?_
          refine q_goto (tgt := 39) dX10_feed_34 (by decide) ?_
          exact q_sub [0, 1, 2, 3, 4] rfl (okX10_feed_b39 ih hyp)
      · have hyp := q_neg c4 hyp
        refine q_lload_n 1 rfl dX10_feed_22 ?_
        refine q_goto (tgt := 39) dX10_feed_23 (by decide) ?_
        exact q_sub [0, 1, 2, 3, 4] rfl (okX10_feed_b39 ih hyp)
def fX10_feed (n : Nat) (v0 : Nat) (v1 : Int64) (v3 : Int64) (v5 : Int64) (h : qH) : Option (Int32 × qH) :=
  (isO h v0 10).bind fun _ =>
  (pF h v0 10 0 (.int 0)).bind fun h1 =>
  fX10_feed_b8 n n v0 v1 v3 v5 0 h1
theorem obX10_feed {n : Nat} {v0 : Nat} {v1 : Int64} {v3 : Int64} {v5 : Int64} {h : qH} {p : Int32 × qH} (hyp : fX10_feed n v0 v1 v3 v5 h = some p) : ∃ fs, h.1 v0 = some (.inr (10, fs)) := by
  unfold fX10_feed at hyp
  exact q_bind hyp (fun _ e _ => isO_some e)
set_option maxHeartbeats 4000000 in
set_option maxRecDepth 100000 in
theorem okX10_feed {l : Launch} {n : Nat} {v0 : Nat} {v1 : Int64} {v3 : Int64} {v5 : Int64} {h : qH} {p : Int32 × qH} (hyp : fX10_feed n v0 v1 v3 v5 h = some p) : q_M l 1 yX10_feed cX10_feed 11 (some .int) [.ref v0, .long v1, .long v3, .long v5] h (some (.int p.1)) p.2 := by
  obtain ⟨r, h'⟩ := p
  unfold fX10_feed at hyp
  refine q_bind hyp (fun _ _ hyp => ?_)
  refine q_M.of (by decide) (Nat.le_of_ble_eq_true rfl) ?_
  refine q_to (ls' := [(0, .ref v0), (1, .long v1), (3, .long v3), (5, .long v5)]) (st' := []) rfl rfl ?_
  refine q_aload_n 0 rfl dX10_feed_0 ?_
  refine q_iconst (x := 0) rfl dX10_feed_1 ?_
  refine q_bind hyp (fun h1 e2 hyp => ?_)
  refine q_putF kF_X10_136 (fun _ => ⟨rfl, rfl⟩) dX10_feed_2 e2 ?_
  refine q_iconst (x := 0) rfl dX10_feed_5 ?_
  refine q_istore (ls' := [(7, .int 0), (0, .ref v0), (1, .long v1), (3, .long v3), (5, .long v5)]) (by decide) rfl dX10_feed_6 ?_
  exact q_sub [1, 2, 3, 4, 0] rfl (okX10_feed_b8 _ v0 v1 v3 v5 0 h1 hyp)
theorem dX10_fills_0 : decode cX10_fills 0 = .ok (.aload_n 0, 1) := by decide +kernel
theorem dX10_fills_1 : decode cX10_fills 1 = .ok (.iconst 0, 1) := by decide +kernel
theorem dX10_fills_2 : decode cX10_fills 2 = .ok (.putfield 136, 3) := by decide +kernel
theorem dX10_fills_5 : decode cX10_fills 5 = .ok (.iload_n 1, 1) := by decide +kernel
theorem dX10_fills_6 : decode cX10_fills 6 = .ok (.iconst 0, 1) := by decide +kernel
theorem dX10_fills_7 : decode cX10_fills 7 = .ok (.sipush 200, 3) := by decide +kernel
theorem dX10_fills_10 : decode cX10_fills 10 = .ok (.invokestatic 252, 3) := by decide +kernel
theorem dX10_fills_13 : decode cX10_fills 13 = .ok (.ifCond .ne 5, 3) := by decide +kernel
theorem dX10_fills_16 : decode cX10_fills 16 = .ok (.iconst (-1), 1) := by decide +kernel
theorem dX10_fills_17 : decode cX10_fills 17 = .ok (.ireturn, 1) := by decide +kernel
theorem dX10_fills_18 : decode cX10_fills 18 = .ok (.aload_n 0, 1) := by decide +kernel
theorem dX10_fills_19 : decode cX10_fills 19 = .ok (.getfield 99, 3) := by decide +kernel
theorem dX10_fills_22 : decode cX10_fills 22 = .ok (.iconst 0, 1) := by decide +kernel
theorem dX10_fills_23 : decode cX10_fills 23 = .ok (.aload_n 0, 1) := by decide +kernel
theorem dX10_fills_24 : decode cX10_fills 24 = .ok (.getfield 105, 3) := by decide +kernel
theorem dX10_fills_27 : decode cX10_fills 27 = .ok (.iconst 0, 1) := by decide +kernel
theorem dX10_fills_28 : decode cX10_fills 28 = .ok (.invokestatic 355, 3) := by decide +kernel
theorem dX10_fills_31 : decode cX10_fills 31 = .ok (.iconst 0, 1) := by decide +kernel
theorem dX10_fills_32 : decode cX10_fills 32 = .ok (.istore_n 2, 1) := by decide +kernel
theorem dX10_fills_33 : decode cX10_fills 33 = .ok (.iload_n 2, 1) := by decide +kernel
theorem dX10_fills_34 : decode cX10_fills 34 = .ok (.bipush 60, 2) := by decide +kernel
theorem dX10_fills_36 : decode cX10_fills 36 = .ok (.if_icmp .gt 23, 3) := by decide +kernel
theorem dX10_fills_39 : decode cX10_fills 39 = .ok (.aload_n 0, 1) := by decide +kernel
theorem dX10_fills_40 : decode cX10_fills 40 = .ok (.getfield 99, 3) := by decide +kernel
theorem dX10_fills_43 : decode cX10_fills 43 = .ok (.iconst 1, 1) := by decide +kernel
theorem dX10_fills_44 : decode cX10_fills 44 = .ok (.iaload, 1) := by decide +kernel
theorem dX10_fills_45 : decode cX10_fills 45 = .ok (.iload_n 1, 1) := by decide +kernel
theorem dX10_fills_46 : decode cX10_fills 46 = .ok (.if_icmp .ge 13, 3) := by decide +kernel
theorem dX10_fills_49 : decode cX10_fills 49 = .ok (.aload_n 0, 1) := by decide +kernel
theorem dX10_fills_50 : decode cX10_fills 50 = .ok (.invokevirtual 368, 3) := by decide +kernel
theorem dX10_fills_53 : decode cX10_fills 53 = .ok (.iinc 2 1, 3) := by decide +kernel
theorem dX10_fills_56 : decode cX10_fills 56 = .ok (.goto (-23), 3) := by decide +kernel
theorem dX10_fills_59 : decode cX10_fills 59 = .ok (.aload_n 0, 1) := by decide +kernel
theorem dX10_fills_60 : decode cX10_fills 60 = .ok (.getfield 105, 3) := by decide +kernel
theorem dX10_fills_63 : decode cX10_fills 63 = .ok (.iconst 0, 1) := by decide +kernel
theorem dX10_fills_64 : decode cX10_fills 64 = .ok (.aload_n 0, 1) := by decide +kernel
theorem dX10_fills_65 : decode cX10_fills 65 = .ok (.getfield 99, 3) := by decide +kernel
theorem dX10_fills_68 : decode cX10_fills 68 = .ok (.iconst 0, 1) := by decide +kernel
theorem dX10_fills_69 : decode cX10_fills 69 = .ok (.invokestatic 355, 3) := by decide +kernel
theorem dX10_fills_72 : decode cX10_fills 72 = .ok (.iload_n 2, 1) := by decide +kernel
theorem dX10_fills_73 : decode cX10_fills 73 = .ok (.bipush 60, 2) := by decide +kernel
theorem dX10_fills_75 : decode cX10_fills 75 = .ok (.if_icmp .le 7, 3) := by decide +kernel
theorem dX10_fills_78 : decode cX10_fills 78 = .ok (.iconst (-1), 1) := by decide +kernel
theorem dX10_fills_79 : decode cX10_fills 79 = .ok (.goto 4, 3) := by decide +kernel
theorem dX10_fills_82 : decode cX10_fills 82 = .ok (.iload_n 2, 1) := by decide +kernel
theorem dX10_fills_83 : decode cX10_fills 83 = .ok (.ireturn, 1) := by decide +kernel
def fX10_fills_b59 (n : Nat) (v0 : Nat) (v2 : Int32) (h : qH) : Option (Int32 × qH) :=
  (gR h v0 10 43).bind fun x1 =>
  (gR h v0 10 41).bind fun x3 =>
  (fX10_copies n x1 0 x3 0 h).bind fun h5 =>
  if v2 ≤ 60 then
  (some (v2, h5))
  else
  (some ((-1), h5))
set_option maxHeartbeats 4000000 in
set_option maxRecDepth 100000 in
theorem okX10_fills_b59 {l : Launch} {n : Nat} {v0 : Nat} {v2 : Int32} {h : qH} {r : Int32} {h' : qH} (hyp : fX10_fills_b59 n v0 v2 h = some (r, h')) : q_W l 2 yX10_fills cX10_fills 3 (some .int) (some (.int r)) h' 59 [(0, .ref v0), (2, .int v2)] [] h := by
  unfold fX10_fills_b59 at hyp
  refine q_aload_n 0 rfl dX10_fills_59 ?_
  refine q_bind hyp (fun x1 e2 hyp => ?_)
  refine q_getR kF_X10_105 dX10_fills_60 e2 ?_
  refine q_iconst (x := 0) rfl dX10_fills_63 ?_
  refine q_aload_n 0 rfl dX10_fills_64 ?_
  refine q_bind hyp (fun x3 e4 hyp => ?_)
  refine q_getR kF_X10_99 dX10_fills_65 e4 ?_
  refine q_iconst (x := 0) rfl dX10_fills_68 ?_
  refine q_bind hyp (fun h5 e7 hyp => ?_)
  refine q_callS (as := [.ref x1, .int 0, .ref x3, .int 0]) (st := []) kY_X10_copies kS_X10_copies kL_X10_355 (okX10_copies (l := l) e7) (by decide) rfl (Nat.le_of_ble_eq_true rfl) dX10_fills_69 ?_
  refine q_to (ls' := [(0, .ref v0), (2, .int v2)]) (st' := []) rfl rfl ?_
  refine q_iload_n 1 rfl dX10_fills_72 ?_
  refine q_bipush (x := 60) (by decide) dX10_fills_73 ?_
  refine q_icmp_le (tgt := 82) dX10_fills_75 (by decide) (fun c6 => ?_) (fun c6 => ?_)
  · have hyp := q_pos c6 hyp
    refine q_iload_n 1 rfl dX10_fills_82 ?_
    exact q_iretH rfl rfl dX10_fills_83 hyp
  · have hyp := q_neg c6 hyp
    refine q_iconst (x := (-1)) rfl dX10_fills_78 ?_
    refine q_goto (tgt := 83) dX10_fills_79 (by decide) ?_
    exact q_iretH rfl rfl dX10_fills_83 hyp
def fX10_fills_b33 (n : Nat) : Nat → Nat → Int32 → Int32 → qH → Option (Int32 × qH)
  | 0, _, _, _, _ => none
  | w + 1, v0, v1, v2, h =>
    if 60 < v2 then
    (fX10_fills_b59 n v0 v2 h)
    else
    ((gR h v0 10 41).bind fun x2 =>
    (aI .int h x2 1).bind fun x4 =>
    if v1 ≤ x4 then
    (fX10_fills_b59 n v0 v2 h)
    else
    ((fX10_passes n v0 h).bind fun h7 =>
    fX10_fills_b33 n w v0 v1 (v2 + 1) h7))
set_option maxHeartbeats 4000000 in
set_option maxRecDepth 100000 in
theorem okX10_fills_b33 {l : Launch} {n : Nat} {r : Int32} {h' : qH} : ∀ (w : Nat) (v0 : Nat) (v1 : Int32) (v2 : Int32) (h : qH), fX10_fills_b33 n w v0 v1 v2 h = some (r, h') → q_W l 2 yX10_fills cX10_fills 3 (some .int) (some (.int r)) h' 33 [(0, .ref v0), (1, .int v1), (2, .int v2)] [] h := by
  intro w
  induction w with
  | zero => intro v0 v1 v2 h hyp; cases hyp
  | succ w ih =>
    intro v0 v1 v2 h hyp
    unfold fX10_fills_b33 at hyp
    refine q_iload_n 2 rfl dX10_fills_33 ?_
    refine q_bipush (x := 60) (by decide) dX10_fills_34 ?_
    refine q_icmp_gt (tgt := 59) dX10_fills_36 (by decide) (fun c1 => ?_) (fun c1 => ?_)
    · have hyp := q_pos c1 hyp
      exact q_sub [0, 2] rfl (okX10_fills_b59 hyp)
    · have hyp := q_neg c1 hyp
      refine q_aload_n 0 rfl dX10_fills_39 ?_
      refine q_bind hyp (fun x2 e3 hyp => ?_)
      refine q_getR kF_X10_99 dX10_fills_40 e3 ?_
      refine q_iconst (x := 1) rfl dX10_fills_43 ?_
      refine q_bind hyp (fun x4 e5 hyp => ?_)
      refine q_iald dX10_fills_44 e5 ?_
      refine q_iload_n 1 rfl dX10_fills_45 ?_
      refine q_icmp_ge (tgt := 59) dX10_fills_46 (by decide) (fun c6 => ?_) (fun c6 => ?_)
      · have hyp := q_pos c6 hyp
        exact q_sub [0, 2] rfl (okX10_fills_b59 hyp)
      · have hyp := q_neg c6 hyp
        refine q_aload_n 0 rfl dX10_fills_49 ?_
        refine q_bind hyp (fun h7 e8 hyp => ?_)
        refine q_callV (as := []) (st := []) kY_X10_passes kL_X10_368 (okX10_passes (l := l) e8) (by decide) rfl (obX10_passes e8) (Nat.le_of_ble_eq_true rfl) dX10_fills_50 ?_
        refine q_to (ls' := [(0, .ref v0), (1, .int v1), (2, .int v2)]) (st' := []) rfl rfl ?_
        refine q_iinc (ls' := [(2, .int (v2 + 1)), (0, .ref v0), (1, .int v1)]) 2 rfl rfl (by decide) rfl dX10_fills_53 ?_
        refine q_goto (tgt := 33) dX10_fills_56 (by decide) ?_
        exact q_sub [1, 2, 0] rfl (ih v0 v1 (v2 + 1) h7 hyp)
def fX10_fills (n : Nat) (v0 : Nat) (v1 : Int32) (h : qH) : Option (Int32 × qH) :=
  (isO h v0 10).bind fun _ =>
  (pF h v0 10 0 (.int 0)).bind fun h1 =>
  (fX10_within v1 0 200 h1).bind fun p3 =>
  if p3.1 = 0 then
  (some ((-1), p3.2))
  else
  ((gR p3.2 v0 10 41).bind fun x5 =>
  (gR p3.2 v0 10 43).bind fun x7 =>
  (fX10_copies n x5 0 x7 0 p3.2).bind fun h9 =>
  fX10_fills_b33 n n v0 v1 0 h9)
theorem obX10_fills {n : Nat} {v0 : Nat} {v1 : Int32} {h : qH} {p : Int32 × qH} (hyp : fX10_fills n v0 v1 h = some p) : ∃ fs, h.1 v0 = some (.inr (10, fs)) := by
  unfold fX10_fills at hyp
  exact q_bind hyp (fun _ e _ => isO_some e)
set_option maxHeartbeats 4000000 in
set_option maxRecDepth 100000 in
theorem okX10_fills {l : Launch} {n : Nat} {v0 : Nat} {v1 : Int32} {h : qH} {p : Int32 × qH} (hyp : fX10_fills n v0 v1 h = some p) : q_M l 2 yX10_fills cX10_fills 3 (some .int) [.ref v0, .int v1] h (some (.int p.1)) p.2 := by
  obtain ⟨r, h'⟩ := p
  unfold fX10_fills at hyp
  refine q_bind hyp (fun _ _ hyp => ?_)
  refine q_M.of (by decide) (Nat.le_of_ble_eq_true rfl) ?_
  refine q_to (ls' := [(0, .ref v0), (1, .int v1)]) (st' := []) rfl rfl ?_
  refine q_aload_n 0 rfl dX10_fills_0 ?_
  refine q_iconst (x := 0) rfl dX10_fills_1 ?_
  refine q_bind hyp (fun h1 e2 hyp => ?_)
  refine q_putF kF_X10_136 (fun _ => ⟨rfl, rfl⟩) dX10_fills_2 e2 ?_
  refine q_iload_n 1 rfl dX10_fills_5 ?_
  refine q_iconst (x := 0) rfl dX10_fills_6 ?_
  refine q_sipush (x := 200) (by decide) dX10_fills_7 ?_
  refine q_bind hyp (fun p3 e11 hyp => ?_)
  refine q_callS (as := [.int v1, .int 0, .int 200]) (st := []) kY_X10_within kS_X10_within kL_X10_252 (okX10_within (l := l) e11) (by decide) rfl (Nat.le_of_ble_eq_true rfl) dX10_fills_10 ?_
  refine q_to (ls' := [(0, .ref v0), (1, .int v1)]) (st' := [.int p3.1]) rfl rfl ?_
  refine q_if_ne (tgt := 18) dX10_fills_13 (by decide) (fun c4 => ?_) (fun c4 => ?_)
  · have hyp := q_neg c4 hyp
    refine q_aload_n 0 rfl dX10_fills_18 ?_
    refine q_bind hyp (fun x5 e6 hyp => ?_)
    refine q_getR kF_X10_99 dX10_fills_19 e6 ?_
    refine q_iconst (x := 0) rfl dX10_fills_22 ?_
    refine q_aload_n 0 rfl dX10_fills_23 ?_
    refine q_bind hyp (fun x7 e8 hyp => ?_)
    refine q_getR kF_X10_105 dX10_fills_24 e8 ?_
    refine q_iconst (x := 0) rfl dX10_fills_27 ?_
    refine q_bind hyp (fun h9 e10 hyp => ?_)
    refine q_callS (as := [.ref x5, .int 0, .ref x7, .int 0]) (st := []) kY_X10_copies kS_X10_copies kL_X10_355 (okX10_copies (l := l) e10) (by decide) rfl (Nat.le_of_ble_eq_true rfl) dX10_fills_28 ?_
    refine q_to (ls' := [(0, .ref v0), (1, .int v1)]) (st' := []) rfl rfl ?_
    refine q_iconst (x := 0) rfl dX10_fills_31 ?_
    refine q_istore_n (ls' := [(2, .int 0), (0, .ref v0), (1, .int v1)]) (by decide) rfl dX10_fills_32 ?_
    exact q_sub [1, 2, 0] rfl (okX10_fills_b33 _ v0 v1 0 h9 hyp)
  · have hyp := q_pos c4 hyp
    refine q_iconst (x := (-1)) rfl dX10_fills_16 ?_
    exact q_iretH rfl rfl dX10_fills_17 hyp
theorem dX10_fresh0_0 : decode cX10_fresh0 0 = .ok (.iconst 0, 1) := by decide +kernel
theorem dX10_fresh0_1 : decode cX10_fresh0 1 = .ok (.istore_n 1, 1) := by decide +kernel
theorem dX10_fresh0_2 : decode cX10_fresh0 2 = .ok (.iload_n 1, 1) := by decide +kernel
theorem dX10_fresh0_3 : decode cX10_fresh0 3 = .ok (.bipush 16, 2) := by decide +kernel
theorem dX10_fresh0_5 : decode cX10_fresh0 5 = .ok (.if_icmp .ge 16, 3) := by decide +kernel
theorem dX10_fresh0_8 : decode cX10_fresh0 8 = .ok (.aload_n 0, 1) := by decide +kernel
theorem dX10_fresh0_9 : decode cX10_fresh0 9 = .ok (.getfield 99, 3) := by decide +kernel
theorem dX10_fresh0_12 : decode cX10_fresh0 12 = .ok (.iload_n 1, 1) := by decide +kernel
theorem dX10_fresh0_13 : decode cX10_fresh0 13 = .ok (.iconst 0, 1) := by decide +kernel
theorem dX10_fresh0_14 : decode cX10_fresh0 14 = .ok (.iastore, 1) := by decide +kernel
theorem dX10_fresh0_15 : decode cX10_fresh0 15 = .ok (.iinc 1 1, 3) := by decide +kernel
theorem dX10_fresh0_18 : decode cX10_fresh0 18 = .ok (.goto (-16), 3) := by decide +kernel
theorem dX10_fresh0_21 : decode cX10_fresh0 21 = .ok (.aload_n 0, 1) := by decide +kernel
theorem dX10_fresh0_22 : decode cX10_fresh0 22 = .ok (.getfield 99, 3) := by decide +kernel
theorem dX10_fresh0_25 : decode cX10_fresh0 25 = .ok (.iconst 1, 1) := by decide +kernel
theorem dX10_fresh0_26 : decode cX10_fresh0 26 = .ok (.aload_n 0, 1) := by decide +kernel
theorem dX10_fresh0_27 : decode cX10_fresh0 27 = .ok (.getfield 13, 3) := by decide +kernel
theorem dX10_fresh0_30 : decode cX10_fresh0 30 = .ok (.iconst 3, 1) := by decide +kernel
theorem dX10_fresh0_31 : decode cX10_fresh0 31 = .ok (.iaload, 1) := by decide +kernel
theorem dX10_fresh0_32 : decode cX10_fresh0 32 = .ok (.iastore, 1) := by decide +kernel
theorem dX10_fresh0_33 : decode cX10_fresh0 33 = .ok (.iconst 0, 1) := by decide +kernel
theorem dX10_fresh0_34 : decode cX10_fresh0 34 = .ok (.istore_n 1, 1) := by decide +kernel
theorem dX10_fresh0_35 : decode cX10_fresh0 35 = .ok (.iload_n 1, 1) := by decide +kernel
theorem dX10_fresh0_36 : decode cX10_fresh0 36 = .ok (.aload_n 0, 1) := by decide +kernel
theorem dX10_fresh0_37 : decode cX10_fresh0 37 = .ok (.getfield 13, 3) := by decide +kernel
theorem dX10_fresh0_40 : decode cX10_fresh0 40 = .ok (.iconst 0, 1) := by decide +kernel
theorem dX10_fresh0_41 : decode cX10_fresh0 41 = .ok (.iaload, 1) := by decide +kernel
theorem dX10_fresh0_42 : decode cX10_fresh0 42 = .ok (.if_icmp .ge 23, 3) := by decide +kernel
theorem dX10_fresh0_45 : decode cX10_fresh0 45 = .ok (.aload_n 0, 1) := by decide +kernel
theorem dX10_fresh0_46 : decode cX10_fresh0 46 = .ok (.getfield 99, 3) := by decide +kernel
theorem dX10_fresh0_49 : decode cX10_fresh0 49 = .ok (.iconst 2, 1) := by decide +kernel
theorem dX10_fresh0_50 : decode cX10_fresh0 50 = .ok (.iload_n 1, 1) := by decide +kernel
theorem dX10_fresh0_51 : decode cX10_fresh0 51 = .ok (.iadd, 1) := by decide +kernel
theorem dX10_fresh0_52 : decode cX10_fresh0 52 = .ok (.aload_n 0, 1) := by decide +kernel
theorem dX10_fresh0_53 : decode cX10_fresh0 53 = .ok (.getfield 26, 3) := by decide +kernel
theorem dX10_fresh0_56 : decode cX10_fresh0 56 = .ok (.iload_n 1, 1) := by decide +kernel
theorem dX10_fresh0_57 : decode cX10_fresh0 57 = .ok (.iaload, 1) := by decide +kernel
theorem dX10_fresh0_58 : decode cX10_fresh0 58 = .ok (.iastore, 1) := by decide +kernel
theorem dX10_fresh0_59 : decode cX10_fresh0 59 = .ok (.iinc 1 1, 3) := by decide +kernel
theorem dX10_fresh0_62 : decode cX10_fresh0 62 = .ok (.goto (-27), 3) := by decide +kernel
theorem dX10_fresh0_65 : decode cX10_fresh0 65 = .ok (.return_, 1) := by decide +kernel
def fX10_fresh0_b35 (n : Nat) : Nat → Nat → Int32 → qH → Option (qH)
  | 0, _, _, _ => none
  | w + 1, v0, v1, h =>
    (gR h v0 10 10).bind fun x1 =>
    (aI .int h x1 0).bind fun x3 =>
    if x3 ≤ v1 then
    (some h)
    else
    ((gR h v0 10 41).bind fun x6 =>
    (gR h v0 10 14).bind fun x8 =>
    (aI .int h x8 v1).bind fun x10 =>
    (sI .int h x6 (2 + v1) x10).bind fun h12 =>
    fX10_fresh0_b35 n w v0 (v1 + 1) h12)
set_option maxHeartbeats 4000000 in
set_option maxRecDepth 100000 in
theorem okX10_fresh0_b35 {l : Launch} {n : Nat} {h' : qH} : ∀ (w : Nat) (v0 : Nat) (v1 : Int32) (h : qH), fX10_fresh0_b35 n w v0 v1 h = some h' → q_W l 1 yX10_fresh0 cX10_fresh0 2 none none h' 35 [(0, .ref v0), (1, .int v1)] [] h := by
  intro w
  induction w with
  | zero => intro v0 v1 h hyp; cases hyp
  | succ w ih =>
    intro v0 v1 h hyp
    unfold fX10_fresh0_b35 at hyp
    refine q_iload_n 1 rfl dX10_fresh0_35 ?_
    refine q_aload_n 0 rfl dX10_fresh0_36 ?_
    refine q_bind hyp (fun x1 e2 hyp => ?_)
    refine q_getR kF_X10_13 dX10_fresh0_37 e2 ?_
    refine q_iconst (x := 0) rfl dX10_fresh0_40 ?_
    refine q_bind hyp (fun x3 e4 hyp => ?_)
    refine q_iald dX10_fresh0_41 e4 ?_
    refine q_icmp_ge (tgt := 65) dX10_fresh0_42 (by decide) (fun c5 => ?_) (fun c5 => ?_)
    · have hyp := q_pos c5 hyp
      exact q_vretH rfl dX10_fresh0_65 hyp
    · have hyp := q_neg c5 hyp
      refine q_aload_n 0 rfl dX10_fresh0_45 ?_
      refine q_bind hyp (fun x6 e7 hyp => ?_)
      refine q_getR kF_X10_99 dX10_fresh0_46 e7 ?_
      refine q_iconst (x := 2) rfl dX10_fresh0_49 ?_
      refine q_iload_n 1 rfl dX10_fresh0_50 ?_
      refine q_iadd dX10_fresh0_51 ?_
      refine q_aload_n 0 rfl dX10_fresh0_52 ?_
      refine q_bind hyp (fun x8 e9 hyp => ?_)
      refine q_getR kF_X10_26 dX10_fresh0_53 e9 ?_
      refine q_iload_n 1 rfl dX10_fresh0_56 ?_
      refine q_bind hyp (fun x10 e11 hyp => ?_)
      refine q_iald dX10_fresh0_57 e11 ?_
      refine q_bind hyp (fun h12 e13 hyp => ?_)
      refine q_iast dX10_fresh0_58 e13 ?_
      refine q_iinc (ls' := [(1, .int (v1 + 1)), (0, .ref v0)]) 1 rfl rfl (by decide) rfl dX10_fresh0_59 ?_
      refine q_goto (tgt := 35) dX10_fresh0_62 (by decide) ?_
      exact q_sub [1, 0] rfl (ih v0 (v1 + 1) h12 hyp)
def fX10_fresh0_b2 (n : Nat) : Nat → Nat → Int32 → qH → Option (qH)
  | 0, _, _, _ => none
  | w + 1, v0, v1, h =>
    if 16 ≤ v1 then
    ((gR h v0 10 41).bind fun x2 =>
    (gR h v0 10 10).bind fun x4 =>
    (aI .int h x4 3).bind fun x6 =>
    (sI .int h x2 1 x6).bind fun h8 =>
    fX10_fresh0_b35 n n v0 0 h8)
    else
    ((gR h v0 10 41).bind fun x10 =>
    (sI .int h x10 v1 0).bind fun h12 =>
    fX10_fresh0_b2 n w v0 (v1 + 1) h12)
set_option maxHeartbeats 4000000 in
set_option maxRecDepth 100000 in
theorem okX10_fresh0_b2 {l : Launch} {n : Nat} {h' : qH} : ∀ (w : Nat) (v0 : Nat) (v1 : Int32) (h : qH), fX10_fresh0_b2 n w v0 v1 h = some h' → q_W l 1 yX10_fresh0 cX10_fresh0 2 none none h' 2 [(0, .ref v0), (1, .int v1)] [] h := by
  intro w
  induction w with
  | zero => intro v0 v1 h hyp; cases hyp
  | succ w ih =>
    intro v0 v1 h hyp
    unfold fX10_fresh0_b2 at hyp
    refine q_iload_n 1 rfl dX10_fresh0_2 ?_
    refine q_bipush (x := 16) (by decide) dX10_fresh0_3 ?_
    refine q_icmp_ge (tgt := 21) dX10_fresh0_5 (by decide) (fun c1 => ?_) (fun c1 => ?_)
    · have hyp := q_pos c1 hyp
      refine q_aload_n 0 rfl dX10_fresh0_21 ?_
      refine q_bind hyp (fun x2 e3 hyp => ?_)
      refine q_getR kF_X10_99 dX10_fresh0_22 e3 ?_
      refine q_iconst (x := 1) rfl dX10_fresh0_25 ?_
      refine q_aload_n 0 rfl dX10_fresh0_26 ?_
      refine q_bind hyp (fun x4 e5 hyp => ?_)
      refine q_getR kF_X10_13 dX10_fresh0_27 e5 ?_
      refine q_iconst (x := 3) rfl dX10_fresh0_30 ?_
      refine q_bind hyp (fun x6 e7 hyp => ?_)
      refine q_iald dX10_fresh0_31 e7 ?_
      refine q_bind hyp (fun h8 e9 hyp => ?_)
      refine q_iast dX10_fresh0_32 e9 ?_
      refine q_iconst (x := 0) rfl dX10_fresh0_33 ?_
      refine q_istore_n (ls' := [(1, .int 0), (0, .ref v0)]) (by decide) rfl dX10_fresh0_34 ?_
      exact q_sub [1, 0] rfl (okX10_fresh0_b35 _ v0 0 h8 hyp)
    · have hyp := q_neg c1 hyp
      refine q_aload_n 0 rfl dX10_fresh0_8 ?_
      refine q_bind hyp (fun x10 e11 hyp => ?_)
      refine q_getR kF_X10_99 dX10_fresh0_9 e11 ?_
      refine q_iload_n 1 rfl dX10_fresh0_12 ?_
      refine q_iconst (x := 0) rfl dX10_fresh0_13 ?_
      refine q_bind hyp (fun h12 e13 hyp => ?_)
      refine q_iast dX10_fresh0_14 e13 ?_
      refine q_iinc (ls' := [(1, .int (v1 + 1)), (0, .ref v0)]) 1 rfl rfl (by decide) rfl dX10_fresh0_15 ?_
      refine q_goto (tgt := 2) dX10_fresh0_18 (by decide) ?_
      exact q_sub [1, 0] rfl (ih v0 (v1 + 1) h12 hyp)
def fX10_fresh0 (n : Nat) (v0 : Nat) (h : qH) : Option (qH) :=
  (isO h v0 10).bind fun _ =>
  fX10_fresh0_b2 n n v0 0 h
theorem obX10_fresh0 {n : Nat} {v0 : Nat} {h : qH} {p : qH} (hyp : fX10_fresh0 n v0 h = some p) : ∃ fs, h.1 v0 = some (.inr (10, fs)) := by
  unfold fX10_fresh0 at hyp
  exact q_bind hyp (fun _ e _ => isO_some e)
set_option maxHeartbeats 4000000 in
set_option maxRecDepth 100000 in
theorem okX10_fresh0 {l : Launch} {n : Nat} {v0 : Nat} {h : qH} {h' : qH} (hyp : fX10_fresh0 n v0 h = some h') : q_M l 1 yX10_fresh0 cX10_fresh0 2 none [.ref v0] h none h' := by
  unfold fX10_fresh0 at hyp
  refine q_bind hyp (fun _ _ hyp => ?_)
  refine q_M.of (by decide) (Nat.le_of_ble_eq_true rfl) ?_
  refine q_to (ls' := [(0, .ref v0)]) (st' := []) rfl rfl ?_
  refine q_iconst (x := 0) rfl dX10_fresh0_0 ?_
  refine q_istore_n (ls' := [(1, .int 0), (0, .ref v0)]) (by decide) rfl dX10_fresh0_1 ?_
  exact q_sub [1, 0] rfl (okX10_fresh0_b2 _ v0 0 h hyp)
theorem dX10_fruits_0 : decode cX10_fruits 0 = .ok (.aload_n 0, 1) := by decide +kernel
theorem dX10_fruits_1 : decode cX10_fruits 1 = .ok (.iconst 0, 1) := by decide +kernel
theorem dX10_fruits_2 : decode cX10_fruits 2 = .ok (.putfield 136, 3) := by decide +kernel
theorem dX10_fruits_5 : decode cX10_fruits 5 = .ok (.aload_n 0, 1) := by decide +kernel
theorem dX10_fruits_6 : decode cX10_fruits 6 = .ok (.iload_n 1, 1) := by decide +kernel
theorem dX10_fruits_7 : decode cX10_fruits 7 = .ok (.invokevirtual 346, 3) := by decide +kernel
theorem dX10_fruits_10 : decode cX10_fruits 10 = .ok (.ifCond .eq 12, 3) := by decide +kernel
theorem dX10_fruits_13 : decode cX10_fruits 13 = .ok (.aload_n 0, 1) := by decide +kernel
theorem dX10_fruits_14 : decode cX10_fruits 14 = .ok (.getfield 117, 3) := by decide +kernel
theorem dX10_fruits_17 : decode cX10_fruits 17 = .ok (.iload_n 1, 1) := by decide +kernel
theorem dX10_fruits_18 : decode cX10_fruits 18 = .ok (.iaload, 1) := by decide +kernel
theorem dX10_fruits_19 : decode cX10_fruits 19 = .ok (.goto 4, 3) := by decide +kernel
theorem dX10_fruits_22 : decode cX10_fruits 22 = .ok (.iconst (-1), 1) := by decide +kernel
theorem dX10_fruits_23 : decode cX10_fruits 23 = .ok (.ireturn, 1) := by decide +kernel
def fX10_fruits (v0 : Nat) (v1 : Int32) (h : qH) : Option (Int32 × qH) :=
  (isO h v0 10).bind fun _ =>
  (pF h v0 10 0 (.int 0)).bind fun h1 =>
  (fX10_isMatter v0 v1 h1).bind fun p3 =>
  if p3.1 = 0 then
  (some ((-1), p3.2))
  else
  ((gR p3.2 v0 10 48).bind fun x5 =>
  (aI .int p3.2 x5 v1).bind fun x7 =>
  some (x7, p3.2))
theorem obX10_fruits {v0 : Nat} {v1 : Int32} {h : qH} {p : Int32 × qH} (hyp : fX10_fruits v0 v1 h = some p) : ∃ fs, h.1 v0 = some (.inr (10, fs)) := by
  unfold fX10_fruits at hyp
  exact q_bind hyp (fun _ e _ => isO_some e)
set_option maxHeartbeats 4000000 in
set_option maxRecDepth 100000 in
theorem okX10_fruits {l : Launch} {v0 : Nat} {v1 : Int32} {h : qH} {p : Int32 × qH} (hyp : fX10_fruits v0 v1 h = some p) : q_M l 2 yX10_fruits cX10_fruits 2 (some .int) [.ref v0, .int v1] h (some (.int p.1)) p.2 := by
  obtain ⟨r, h'⟩ := p
  unfold fX10_fruits at hyp
  refine q_bind hyp (fun _ _ hyp => ?_)
  refine q_M.of (by decide) (Nat.le_of_ble_eq_true rfl) ?_
  refine q_to (ls' := [(0, .ref v0), (1, .int v1)]) (st' := []) rfl rfl ?_
  refine q_aload_n 0 rfl dX10_fruits_0 ?_
  refine q_iconst (x := 0) rfl dX10_fruits_1 ?_
  refine q_bind hyp (fun h1 e2 hyp => ?_)
  refine q_putF kF_X10_136 (fun _ => ⟨rfl, rfl⟩) dX10_fruits_2 e2 ?_
  refine q_aload_n 0 rfl dX10_fruits_5 ?_
  refine q_iload_n 1 rfl dX10_fruits_6 ?_
  refine q_bind hyp (fun p3 e9 hyp => ?_)
  refine q_callV (as := [.int v1]) (st := []) kY_X10_isMatter kL_X10_346 (okX10_isMatter (l := l) e9) (by decide) rfl (obX10_isMatter e9) (Nat.le_of_ble_eq_true rfl) dX10_fruits_7 ?_
  refine q_to (ls' := [(0, .ref v0), (1, .int v1)]) (st' := [.int p3.1]) rfl rfl ?_
  refine q_if_eq (tgt := 22) dX10_fruits_10 (by decide) (fun c4 => ?_) (fun c4 => ?_)
  · have hyp := q_pos c4 hyp
    refine q_iconst (x := (-1)) rfl dX10_fruits_22 ?_
    exact q_iretH rfl rfl dX10_fruits_23 hyp
  · have hyp := q_neg c4 hyp
    refine q_aload_n 0 rfl dX10_fruits_13 ?_
    refine q_bind hyp (fun x5 e6 hyp => ?_)
    refine q_getR kF_X10_117 dX10_fruits_14 e6 ?_
    refine q_iload_n 1 rfl dX10_fruits_17 ?_
    refine q_bind hyp (fun x7 e8 hyp => ?_)
    refine q_iald dX10_fruits_18 e8 ?_
    refine q_goto (tgt := 23) dX10_fruits_19 (by decide) ?_
    exact q_iretH rfl rfl dX10_fruits_23 hyp
theorem dX10_gap_0 : decode cX10_gap 0 = .ok (.aload_n 0, 1) := by decide +kernel
theorem dX10_gap_1 : decode cX10_gap 1 = .ok (.iconst 0, 1) := by decide +kernel
theorem dX10_gap_2 : decode cX10_gap 2 = .ok (.putfield 136, 3) := by decide +kernel
theorem dX10_gap_5 : decode cX10_gap 5 = .ok (.iconst 0, 1) := by decide +kernel
theorem dX10_gap_6 : decode cX10_gap 6 = .ok (.istore_n 1, 1) := by decide +kernel
theorem dX10_gap_7 : decode cX10_gap 7 = .ok (.iconst 1, 1) := by decide +kernel
theorem dX10_gap_8 : decode cX10_gap 8 = .ok (.istore_n 2, 1) := by decide +kernel
theorem dX10_gap_9 : decode cX10_gap 9 = .ok (.iload_n 2, 1) := by decide +kernel
theorem dX10_gap_10 : decode cX10_gap 10 = .ok (.aload_n 0, 1) := by decide +kernel
theorem dX10_gap_11 : decode cX10_gap 11 = .ok (.getfield 13, 3) := by decide +kernel
theorem dX10_gap_14 : decode cX10_gap 14 = .ok (.iconst 0, 1) := by decide +kernel
theorem dX10_gap_15 : decode cX10_gap 15 = .ok (.iaload, 1) := by decide +kernel
theorem dX10_gap_16 : decode cX10_gap 16 = .ok (.if_icmp .ge 37, 3) := by decide +kernel
theorem dX10_gap_19 : decode cX10_gap 19 = .ok (.iload_n 1, 1) := by decide +kernel
theorem dX10_gap_20 : decode cX10_gap 20 = .ok (.aload_n 0, 1) := by decide +kernel
theorem dX10_gap_21 : decode cX10_gap 21 = .ok (.getfield 23, 3) := by decide +kernel
theorem dX10_gap_24 : decode cX10_gap 24 = .ok (.aload_n 0, 1) := by decide +kernel
theorem dX10_gap_25 : decode cX10_gap 25 = .ok (.iload_n 2, 1) := by decide +kernel
theorem dX10_gap_26 : decode cX10_gap 26 = .ok (.invokevirtual 403, 3) := by decide +kernel
theorem dX10_gap_29 : decode cX10_gap 29 = .ok (.iaload, 1) := by decide +kernel
theorem dX10_gap_30 : decode cX10_gap 30 = .ok (.aload_n 0, 1) := by decide +kernel
theorem dX10_gap_31 : decode cX10_gap 31 = .ok (.getfield 23, 3) := by decide +kernel
theorem dX10_gap_34 : decode cX10_gap 34 = .ok (.aload_n 0, 1) := by decide +kernel
theorem dX10_gap_35 : decode cX10_gap 35 = .ok (.iload_n 2, 1) := by decide +kernel
theorem dX10_gap_36 : decode cX10_gap 36 = .ok (.iconst 1, 1) := by decide +kernel
theorem dX10_gap_37 : decode cX10_gap 37 = .ok (.isub, 1) := by decide +kernel
theorem dX10_gap_38 : decode cX10_gap 38 = .ok (.invokevirtual 403, 3) := by decide +kernel
theorem dX10_gap_41 : decode cX10_gap 41 = .ok (.iaload, 1) := by decide +kernel
theorem dX10_gap_42 : decode cX10_gap 42 = .ok (.isub, 1) := by decide +kernel
theorem dX10_gap_43 : decode cX10_gap 43 = .ok (.invokestatic 337, 3) := by decide +kernel
theorem dX10_gap_46 : decode cX10_gap 46 = .ok (.istore_n 1, 1) := by decide +kernel
theorem dX10_gap_47 : decode cX10_gap 47 = .ok (.iinc 2 1, 3) := by decide +kernel
theorem dX10_gap_50 : decode cX10_gap 50 = .ok (.goto (-41), 3) := by decide +kernel
theorem dX10_gap_53 : decode cX10_gap 53 = .ok (.iload_n 1, 1) := by decide +kernel
theorem dX10_gap_54 : decode cX10_gap 54 = .ok (.ireturn, 1) := by decide +kernel
def fX10_gap_b9 (n : Nat) : Nat → Nat → Int32 → Int32 → qH → Option (Int32 × qH)
  | 0, _, _, _, _ => none
  | w + 1, v0, v1, v2, h =>
    (gR h v0 10 10).bind fun x1 =>
    (aI .int h x1 0).bind fun x3 =>
    if x3 ≤ v2 then
    (some (v1, h))
    else
    ((gR h v0 10 13).bind fun x6 =>
    (fX10_byYears n v0 v2 h).bind fun p8 =>
    (aI .int p8.2 x6 p8.1).bind fun x9 =>
    (gR p8.2 v0 10 13).bind fun x11 =>
    (fX10_byYears n v0 (v2 - 1) p8.2).bind fun p13 =>
    (aI .int p13.2 x11 p13.1).bind fun x14 =>
    fX10_gap_b9 n w v0 (if v1 < (x9 - x14) then (x9 - x14) else v1) (v2 + 1) p13.2)
set_option maxHeartbeats 4000000 in
set_option maxRecDepth 100000 in
theorem okX10_gap_b9 {l : Launch} {n : Nat} {r : Int32} {h' : qH} : ∀ (w : Nat) (v0 : Nat) (v1 : Int32) (v2 : Int32) (h : qH), fX10_gap_b9 n w v0 v1 v2 h = some (r, h') → q_W l 2 yX10_gap cX10_gap 3 (some .int) (some (.int r)) h' 9 [(0, .ref v0), (1, .int v1), (2, .int v2)] [] h := by
  intro w
  induction w with
  | zero => intro v0 v1 v2 h hyp; cases hyp
  | succ w ih =>
    intro v0 v1 v2 h hyp
    unfold fX10_gap_b9 at hyp
    refine q_iload_n 2 rfl dX10_gap_9 ?_
    refine q_aload_n 0 rfl dX10_gap_10 ?_
    refine q_bind hyp (fun x1 e2 hyp => ?_)
    refine q_getR kF_X10_13 dX10_gap_11 e2 ?_
    refine q_iconst (x := 0) rfl dX10_gap_14 ?_
    refine q_bind hyp (fun x3 e4 hyp => ?_)
    refine q_iald dX10_gap_15 e4 ?_
    refine q_icmp_ge (tgt := 53) dX10_gap_16 (by decide) (fun c5 => ?_) (fun c5 => ?_)
    · have hyp := q_pos c5 hyp
      refine q_iload_n 1 rfl dX10_gap_53 ?_
      exact q_iretH rfl rfl dX10_gap_54 hyp
    · have hyp := q_neg c5 hyp
      refine q_iload_n 1 rfl dX10_gap_19 ?_
      refine q_aload_n 0 rfl dX10_gap_20 ?_
      refine q_bind hyp (fun x6 e7 hyp => ?_)
      refine q_getR kF_X10_23 dX10_gap_21 e7 ?_
      refine q_aload_n 0 rfl dX10_gap_24 ?_
      refine q_iload_n 2 rfl dX10_gap_25 ?_
      refine q_bind hyp (fun p8 e17 hyp => ?_)
      refine q_callV (as := [.int v2]) (st := [.ref x6, .int v1]) kY_X10_byYears kL_X10_403 (okX10_byYears (l := l) e17) (by decide) rfl (obX10_byYears e17) (Nat.le_of_ble_eq_true rfl) dX10_gap_26 ?_
      refine q_to (ls' := [(0, .ref v0), (1, .int v1), (2, .int v2)]) (st' := [.int p8.1, .ref x6, .int v1]) rfl rfl ?_
      refine q_bind hyp (fun x9 e10 hyp => ?_)
      refine q_iald dX10_gap_29 e10 ?_
      refine q_aload_n 0 rfl dX10_gap_30 ?_
      refine q_bind hyp (fun x11 e12 hyp => ?_)
      refine q_getR kF_X10_23 dX10_gap_31 e12 ?_
      refine q_aload_n 0 rfl dX10_gap_34 ?_
      refine q_iload_n 2 rfl dX10_gap_35 ?_
      refine q_iconst (x := 1) rfl dX10_gap_36 ?_
      refine q_isub dX10_gap_37 ?_
      refine q_bind hyp (fun p13 e16 hyp => ?_)
      refine q_callV (as := [.int (v2 - 1)]) (st := [.ref x11, .int x9, .int v1]) kY_X10_byYears kL_X10_403 (okX10_byYears (l := l) e16) (by decide) rfl (obX10_byYears e16) (Nat.le_of_ble_eq_true rfl) dX10_gap_38 ?_
      refine q_to (ls' := [(0, .ref v0), (1, .int v1), (2, .int v2)]) (st' := [.int p13.1, .ref x11, .int x9, .int v1]) rfl rfl ?_
      refine q_bind hyp (fun x14 e15 hyp => ?_)
      refine q_iald dX10_gap_41 e15 ?_
      refine q_isub dX10_gap_42 ?_
      refine q_max kL_X10_337 kS_max kZ_math kD_max (by decide) (Nat.le_of_ble_eq_true rfl) dX10_gap_43 ?_
      refine q_istore_n (ls' := [(1, .int (if v1 < (x9 - x14) then (x9 - x14) else v1)), (0, .ref v0), (2, .int v2)]) (by decide) rfl dX10_gap_46 ?_
      refine q_iinc (ls' := [(2, .int (v2 + 1)), (1, .int (if v1 < (x9 - x14) then (x9 - x14) else v1)), (0, .ref v0)]) 2 rfl rfl (by decide) rfl dX10_gap_47 ?_
      refine q_goto (tgt := 9) dX10_gap_50 (by decide) ?_
      exact q_sub [2, 1, 0] rfl (ih v0 (if v1 < (x9 - x14) then (x9 - x14) else v1) (v2 + 1) p13.2 hyp)
def fX10_gap (n : Nat) (v0 : Nat) (h : qH) : Option (Int32 × qH) :=
  (isO h v0 10).bind fun _ =>
  (pF h v0 10 0 (.int 0)).bind fun h1 =>
  fX10_gap_b9 n n v0 0 1 h1
theorem obX10_gap {n : Nat} {v0 : Nat} {h : qH} {p : Int32 × qH} (hyp : fX10_gap n v0 h = some p) : ∃ fs, h.1 v0 = some (.inr (10, fs)) := by
  unfold fX10_gap at hyp
  exact q_bind hyp (fun _ e _ => isO_some e)
set_option maxHeartbeats 4000000 in
set_option maxRecDepth 100000 in
theorem okX10_gap {l : Launch} {n : Nat} {v0 : Nat} {h : qH} {p : Int32 × qH} (hyp : fX10_gap n v0 h = some p) : q_M l 2 yX10_gap cX10_gap 3 (some .int) [.ref v0] h (some (.int p.1)) p.2 := by
  obtain ⟨r, h'⟩ := p
  unfold fX10_gap at hyp
  refine q_bind hyp (fun _ _ hyp => ?_)
  refine q_M.of (by decide) (Nat.le_of_ble_eq_true rfl) ?_
  refine q_to (ls' := [(0, .ref v0)]) (st' := []) rfl rfl ?_
  refine q_aload_n 0 rfl dX10_gap_0 ?_
  refine q_iconst (x := 0) rfl dX10_gap_1 ?_
  refine q_bind hyp (fun h1 e2 hyp => ?_)
  refine q_putF kF_X10_136 (fun _ => ⟨rfl, rfl⟩) dX10_gap_2 e2 ?_
  refine q_iconst (x := 0) rfl dX10_gap_5 ?_
  refine q_istore_n (ls' := [(1, .int 0), (0, .ref v0)]) (by decide) rfl dX10_gap_6 ?_
  refine q_iconst (x := 1) rfl dX10_gap_7 ?_
  refine q_istore_n (ls' := [(2, .int 1), (1, .int 0), (0, .ref v0)]) (by decide) rfl dX10_gap_8 ?_
  exact q_sub [2, 1, 0] rfl (okX10_gap_b9 _ v0 0 1 h1 hyp)
