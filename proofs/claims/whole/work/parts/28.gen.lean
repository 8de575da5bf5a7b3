/-! Functions over the abstract heap, and that the machine computes them (written by gen.py). -/
theorem dX10_readsOne_0 : decode cX10_readsOne 0 = .ok (.aload_n 0, 1) := by decide +kernel
theorem dX10_readsOne_1 : decode cX10_readsOne 1 = .ok (.getfield 280, 3) := by decide +kernel
theorem dX10_readsOne_4 : decode cX10_readsOne 4 = .ok (.iload_n 1, 1) := by decide +kernel
theorem dX10_readsOne_5 : decode cX10_readsOne 5 = .ok (.ishr, 1) := by decide +kernel
theorem dX10_readsOne_6 : decode cX10_readsOne 6 = .ok (.iconst 1, 1) := by decide +kernel
theorem dX10_readsOne_7 : decode cX10_readsOne 7 = .ok (.iand, 1) := by decide +kernel
theorem dX10_readsOne_8 : decode cX10_readsOne 8 = .ok (.iconst 1, 1) := by decide +kernel
theorem dX10_readsOne_9 : decode cX10_readsOne 9 = .ok (.if_icmp .ne 9, 3) := by decide +kernel
theorem dX10_readsOne_12 : decode cX10_readsOne 12 = .ok (.aload_n 0, 1) := by decide +kernel
theorem dX10_readsOne_13 : decode cX10_readsOne 13 = .ok (.iconst 3, 1) := by decide +kernel
theorem dX10_readsOne_14 : decode cX10_readsOne 14 = .ok (.invokevirtual 200, 3) := by decide +kernel
theorem dX10_readsOne_17 : decode cX10_readsOne 17 = .ok (.ireturn, 1) := by decide +kernel
theorem dX10_readsOne_18 : decode cX10_readsOne 18 = .ok (.aload_n 0, 1) := by decide +kernel
theorem dX10_readsOne_19 : decode cX10_readsOne 19 = .ok (.dup, 1) := by decide +kernel
theorem dX10_readsOne_20 : decode cX10_readsOne 20 = .ok (.getfield 280, 3) := by decide +kernel
theorem dX10_readsOne_23 : decode cX10_readsOne 23 = .ok (.iconst 1, 1) := by decide +kernel
theorem dX10_readsOne_24 : decode cX10_readsOne 24 = .ok (.iload_n 1, 1) := by decide +kernel
theorem dX10_readsOne_25 : decode cX10_readsOne 25 = .ok (.ishl, 1) := by decide +kernel
theorem dX10_readsOne_26 : decode cX10_readsOne 26 = .ok (.ior, 1) := by decide +kernel
theorem dX10_readsOne_27 : decode cX10_readsOne 27 = .ok (.putfield 280, 3) := by decide +kernel
theorem dX10_readsOne_30 : decode cX10_readsOne 30 = .ok (.aload_n 0, 1) := by decide +kernel
theorem dX10_readsOne_31 : decode cX10_readsOne 31 = .ok (.invokevirtual 206, 3) := by decide +kernel
theorem dX10_readsOne_34 : decode cX10_readsOne 34 = .ok (.aload_n 0, 1) := by decide +kernel
theorem dX10_readsOne_35 : decode cX10_readsOne 35 = .ok (.iload_n 2, 1) := by decide +kernel
theorem dX10_readsOne_36 : decode cX10_readsOne 36 = .ok (.iload_n 3, 1) := by decide +kernel
theorem dX10_readsOne_37 : decode cX10_readsOne 37 = .ok (.invokevirtual 259, 3) := by decide +kernel
theorem dX10_readsOne_40 : decode cX10_readsOne 40 = .ok (.ifCond .ne 5, 3) := by decide +kernel
theorem dX10_readsOne_43 : decode cX10_readsOne 43 = .ok (.iconst 0, 1) := by decide +kernel
theorem dX10_readsOne_44 : decode cX10_readsOne 44 = .ok (.ireturn, 1) := by decide +kernel
theorem dX10_readsOne_45 : decode cX10_readsOne 45 = .ok (.aload_n 0, 1) := by decide +kernel
theorem dX10_readsOne_46 : decode cX10_readsOne 46 = .ok (.getfield 13, 3) := by decide +kernel
theorem dX10_readsOne_49 : decode cX10_readsOne 49 = .ok (.iconst 4, 1) := by decide +kernel
theorem dX10_readsOne_50 : decode cX10_readsOne 50 = .ok (.iload_n 1, 1) := by decide +kernel
theorem dX10_readsOne_51 : decode cX10_readsOne 51 = .ok (.iadd, 1) := by decide +kernel
theorem dX10_readsOne_52 : decode cX10_readsOne 52 = .ok (.aload_n 0, 1) := by decide +kernel
theorem dX10_readsOne_53 : decode cX10_readsOne 53 = .ok (.getfield 256, 3) := by decide +kernel
theorem dX10_readsOne_56 : decode cX10_readsOne 56 = .ok (.iastore, 1) := by decide +kernel
theorem dX10_readsOne_57 : decode cX10_readsOne 57 = .ok (.aload_n 0, 1) := by decide +kernel
theorem dX10_readsOne_58 : decode cX10_readsOne 58 = .ok (.invokevirtual 274, 3) := by decide +kernel
theorem dX10_readsOne_61 : decode cX10_readsOne 61 = .ok (.ireturn, 1) := by decide +kernel
def fX10_readsOne (n : Nat) (v0 : Nat) (v1 : Int32) (v2 : Int32) (v3 : Int32) (h : qH) : Option (Int32 × qH) :=
  (isO h v0 10).bind fun _ =>
  (gI h v0 10 20).bind fun x1 =>
  if ((x1 >>> (v1 &&& 31)) &&& 1) = 1 then
  ((fX10_fails v0 3 h).bind fun p22 =>
  (qB p22.1).bind fun _ =>
  some (p22.1, p22.2))
  else
  ((gI h v0 10 20).bind fun x4 =>
  (pF h v0 10 20 (.int (x4 ||| ((1 : Int32) <<< (v1 &&& 31))))).bind fun h6 =>
  (fX10_nextToken n v0 h6).bind fun h8 =>
  (fX10_needsNumber n v0 v2 v3 h8).bind fun p9 =>
  if p9.1 = 0 then
  (some (0, p9.2))
  else
  ((gR p9.2 v0 10 10).bind fun x11 =>
  (gI p9.2 v0 10 33).bind fun x13 =>
  (sI .int p9.2 x11 (4 + v1) x13).bind fun h15 =>
  (fX10_closes n v0 h15).bind fun p17 =>
  (qB p17.1).bind fun _ =>
  some (p17.1, p17.2)))
theorem obX10_readsOne {n : Nat} {v0 : Nat} {v1 : Int32} {v2 : Int32} {v3 : Int32} {h : qH} {p : Int32 × qH} (hyp : fX10_readsOne n v0 v1 v2 v3 h = some p) : ∃ fs, h.1 v0 = some (.inr (10, fs)) := by
  unfold fX10_readsOne at hyp
  exact q_bind hyp (fun _ e _ => isO_some e)
set_option maxHeartbeats 4000000 in
set_option maxRecDepth 100000 in
theorem okX10_readsOne {l : Launch} {n : Nat} {v0 : Nat} {v1 : Int32} {v2 : Int32} {v3 : Int32} {h : qH} {p : Int32 × qH} (hyp : fX10_readsOne n v0 v1 v2 v3 h = some p) : q_M l 4 yX10_readsOne cX10_readsOne 4 (some .boolean) [.ref v0, .int v1, .int v2, .int v3] h (some (.int p.1)) p.2 := by
  obtain ⟨r, h'⟩ := p
  unfold fX10_readsOne at hyp
  refine q_bind hyp (fun _ _ hyp => ?_)
  refine q_M.of (by decide) (Nat.le_of_ble_eq_true rfl) ?_
  refine q_to (ls' := [(0, .ref v0), (1, .int v1), (2, .int v2), (3, .int v3)]) (st' := []) rfl rfl ?_
  refine q_aload_n 0 rfl dX10_readsOne_0 ?_
  refine q_bind hyp (fun x1 e2 hyp => ?_)
  refine q_getI kF_X10_280 dX10_readsOne_1 e2 ?_
  refine q_iload_n 1 rfl dX10_readsOne_4 ?_
  refine q_ishr dX10_readsOne_5 ?_
  refine q_iconst (x := 1) rfl dX10_readsOne_6 ?_
  refine q_iand dX10_readsOne_7 ?_
  refine q_iconst (x := 1) rfl dX10_readsOne_8 ?_
  refine q_icmp_ne (tgt := 18) dX10_readsOne_9 (by decide) (fun c3 => ?_) (fun c3 => ?_)
  · have hyp := q_neg c3 hyp
    refine q_aload_n 0 rfl dX10_readsOne_18 ?_
    refine q_dup rfl dX10_readsOne_19 ?_
    refine q_bind hyp (fun x4 e5 hyp => ?_)
    refine q_getI kF_X10_280 dX10_readsOne_20 e5 ?_
    refine q_iconst (x := 1) rfl dX10_readsOne_23 ?_
    refine q_iload_n 1 rfl dX10_readsOne_24 ?_
    refine q_ishl dX10_readsOne_25 ?_
    refine q_ior dX10_readsOne_26 ?_
    refine q_bind hyp (fun h6 e7 hyp => ?_)
    refine q_putF kF_X10_280 (fun _ => ⟨rfl, rfl⟩) dX10_readsOne_27 e7 ?_
    refine q_aload_n 0 rfl dX10_readsOne_30 ?_
    refine q_bind hyp (fun h8 e21 hyp => ?_)
    refine q_callV (as := []) (st := []) kY_X10_nextToken kL_X10_206 (okX10_nextToken (l := l) e21) (by decide) rfl (obX10_nextToken e21) (Nat.le_of_ble_eq_true rfl) dX10_readsOne_31 ?_
    refine q_to (ls' := [(0, .ref v0), (1, .int v1), (2, .int v2), (3, .int v3)]) (st' := []) rfl rfl ?_
    refine q_aload_n 0 rfl dX10_readsOne_34 ?_
    refine q_iload_n 2 rfl dX10_readsOne_35 ?_
    refine q_iload_n 3 rfl dX10_readsOne_36 ?_
    refine q_bind hyp (fun p9 e20 hyp => ?_)
    refine q_callV (as := [.int v2, .int v3]) (st := []) kY_X10_needsNumber kL_X10_259 (okX10_needsNumber (l := l) e20) (by decide) rfl (obX10_needsNumber e20) (Nat.le_of_ble_eq_true rfl) dX10_readsOne_37 ?_
    refine q_to (ls' := [(0, .ref v0), (1, .int v1), (2, .int v2), (3, .int v3)]) (st' := [.int p9.1]) rfl rfl ?_
    refine q_if_ne (tgt := 45) dX10_readsOne_40 (by decide) (fun c10 => ?_) (fun c10 => ?_)
    · have hyp := q_neg c10 hyp
      refine q_aload_n 0 rfl dX10_readsOne_45 ?_
      refine q_bind hyp (fun x11 e12 hyp => ?_)
      refine q_getR kF_X10_13 dX10_readsOne_46 e12 ?_
      refine q_iconst (x := 4) rfl dX10_readsOne_49 ?_
      refine q_iload_n 1 rfl dX10_readsOne_50 ?_
      refine q_iadd dX10_readsOne_51 ?_
      refine q_aload_n 0 rfl dX10_readsOne_52 ?_
      refine q_bind hyp (fun x13 e14 hyp => ?_)
      refine q_getI kF_X10_256 dX10_readsOne_53 e14 ?_
      refine q_bind hyp (fun h15 e16 hyp => ?_)
      refine q_iast dX10_readsOne_56 e16 ?_
      refine q_aload_n 0 rfl dX10_readsOne_57 ?_
      refine q_bind hyp (fun p17 e19 hyp => ?_)
      refine q_callV (as := []) (st := []) kY_X10_closes kL_X10_274 (okX10_closes (l := l) e19) (by decide) rfl (obX10_closes e19) (Nat.le_of_ble_eq_true rfl) dX10_readsOne_58 ?_
      refine q_to (ls' := [(0, .ref v0), (1, .int v1), (2, .int v2), (3, .int v3)]) (st' := [.int p17.1]) rfl rfl ?_
      refine q_bind hyp (fun _ e18 hyp => ?_)
      exact q_iretH rfl (qB_some e18) dX10_readsOne_61 hyp
    · have hyp := q_pos c10 hyp
      refine q_iconst (x := 0) rfl dX10_readsOne_43 ?_
      exact q_iretH rfl rfl dX10_readsOne_44 hyp
  · have hyp := q_pos c3 hyp
    refine q_aload_n 0 rfl dX10_readsOne_12 ?_
    refine q_iconst (x := 3) rfl dX10_readsOne_13 ?_
    refine q_bind hyp (fun p22 e24 hyp => ?_)
    refine q_callV (as := [.int 3]) (st := []) kY_X10_fails kL_X10_200 (okX10_fails (l := l) e24) (by decide) rfl (obX10_fails e24) (Nat.le_of_ble_eq_true rfl) dX10_readsOne_14 ?_
    refine q_to (ls' := [(0, .ref v0), (1, .int v1), (2, .int v2), (3, .int v3)]) (st' := [.int p22.1]) rfl rfl ?_
    refine q_bind hyp (fun _ e23 hyp => ?_)
    exact q_iretH rfl (qB_some e23) dX10_readsOne_17 hyp
theorem dX10_puts_0 : decode cX10_puts 0 = .ok (.aload_n 0, 1) := by decide +kernel
theorem dX10_puts_1 : decode cX10_puts 1 = .ok (.getfield 38, 3) := by decide +kernel
theorem dX10_puts_4 : decode cX10_puts 4 = .ok (.aload_n 0, 1) := by decide +kernel
theorem dX10_puts_5 : decode cX10_puts 5 = .ok (.getfield 175, 3) := by decide +kernel
theorem dX10_puts_8 : decode cX10_puts 8 = .ok (.iload_n 1, 1) := by decide +kernel
theorem dX10_puts_9 : decode cX10_puts 9 = .ok (.iastore, 1) := by decide +kernel
theorem dX10_puts_10 : decode cX10_puts 10 = .ok (.aload_n 0, 1) := by decide +kernel
theorem dX10_puts_11 : decode cX10_puts 11 = .ok (.dup, 1) := by decide +kernel
theorem dX10_puts_12 : decode cX10_puts 12 = .ok (.getfield 175, 3) := by decide +kernel
theorem dX10_puts_15 : decode cX10_puts 15 = .ok (.iconst 1, 1) := by decide +kernel
theorem dX10_puts_16 : decode cX10_puts 16 = .ok (.iadd, 1) := by decide +kernel
theorem dX10_puts_17 : decode cX10_puts 17 = .ok (.putfield 175, 3) := by decide +kernel
theorem dX10_puts_20 : decode cX10_puts 20 = .ok (.return_, 1) := by decide +kernel
def fX10_puts (v0 : Nat) (v1 : Int32) (h : qH) : Option (qH) :=
  (isO h v0 10).bind fun _ =>
  (gR h v0 10 18).bind fun x1 =>
  (gI h v0 10 19).bind fun x3 =>
  (sI .int h x1 x3 v1).bind fun h5 =>
  (gI h5 v0 10 19).bind fun x7 =>
  (pF h5 v0 10 19 (.int (x7 + 1))).bind fun h9 =>
  some h9
theorem obX10_puts {v0 : Nat} {v1 : Int32} {h : qH} {p : qH} (hyp : fX10_puts v0 v1 h = some p) : ∃ fs, h.1 v0 = some (.inr (10, fs)) := by
  unfold fX10_puts at hyp
  exact q_bind hyp (fun _ e _ => isO_some e)
set_option maxHeartbeats 4000000 in
set_option maxRecDepth 100000 in
theorem okX10_puts {l : Launch} {v0 : Nat} {v1 : Int32} {h : qH} {h' : qH} (hyp : fX10_puts v0 v1 h = some h') : q_M l 1 yX10_puts cX10_puts 2 none [.ref v0, .int v1] h none h' := by
  unfold fX10_puts at hyp
  refine q_bind hyp (fun _ _ hyp => ?_)
  refine q_M.of (by decide) (Nat.le_of_ble_eq_true rfl) ?_
  refine q_to (ls' := [(0, .ref v0), (1, .int v1)]) (st' := []) rfl rfl ?_
  refine q_aload_n 0 rfl dX10_puts_0 ?_
  refine q_bind hyp (fun x1 e2 hyp => ?_)
  refine q_getR kF_X10_38 dX10_puts_1 e2 ?_
  refine q_aload_n 0 rfl dX10_puts_4 ?_
  refine q_bind hyp (fun x3 e4 hyp => ?_)
  refine q_getI kF_X10_175 dX10_puts_5 e4 ?_
  refine q_iload_n 1 rfl dX10_puts_8 ?_
  refine q_bind hyp (fun h5 e6 hyp => ?_)
  refine q_iast dX10_puts_9 e6 ?_
  refine q_aload_n 0 rfl dX10_puts_10 ?_
  refine q_dup rfl dX10_puts_11 ?_
  refine q_bind hyp (fun x7 e8 hyp => ?_)
  refine q_getI kF_X10_175 dX10_puts_12 e8 ?_
  refine q_iconst (x := 1) rfl dX10_puts_15 ?_
  refine q_iadd dX10_puts_16 ?_
  refine q_bind hyp (fun h9 e10 hyp => ?_)
  refine q_putF kF_X10_175 (fun _ => ⟨rfl, rfl⟩) dX10_puts_17 e10 ?_
  exact q_vretH rfl dX10_puts_20 hyp
theorem dX10_reads_0 : decode cX10_reads 0 = .ok (.iconst 0, 1) := by decide +kernel
theorem dX10_reads_1 : decode cX10_reads 1 = .ok (.istore_n 1, 1) := by decide +kernel
theorem dX10_reads_2 : decode cX10_reads 2 = .ok (.iconst 1, 1) := by decide +kernel
theorem dX10_reads_3 : decode cX10_reads 3 = .ok (.istore_n 2, 1) := by decide +kernel
theorem dX10_reads_4 : decode cX10_reads 4 = .ok (.aload_n 0, 1) := by decide +kernel
theorem dX10_reads_5 : decode cX10_reads 5 = .ok (.getfield 44, 3) := by decide +kernel
theorem dX10_reads_8 : decode cX10_reads 8 = .ok (.iconst 0, 1) := by decide +kernel
theorem dX10_reads_9 : decode cX10_reads 9 = .ok (.iconst 0, 1) := by decide +kernel
theorem dX10_reads_10 : decode cX10_reads 10 = .ok (.bastore, 1) := by decide +kernel
theorem dX10_reads_11 : decode cX10_reads 11 = .ok (.iload_n 2, 1) := by decide +kernel
theorem dX10_reads_12 : decode cX10_reads 12 = .ok (.ifCond .eq 167, 3) := by decide +kernel
theorem dX10_reads_15 : decode cX10_reads 15 = .ok (.aload_n 0, 1) := by decide +kernel
theorem dX10_reads_16 : decode cX10_reads 16 = .ok (.invokevirtual 186, 3) := by decide +kernel
theorem dX10_reads_19 : decode cX10_reads 19 = .ok (.istore_n 3, 1) := by decide +kernel
theorem dX10_reads_20 : decode cX10_reads 20 = .ok (.aload_n 0, 1) := by decide +kernel
theorem dX10_reads_21 : decode cX10_reads 21 = .ok (.ldc2_w 190, 3) := by decide +kernel
theorem dX10_reads_24 : decode cX10_reads 24 = .ok (.invokevirtual 192, 3) := by decide +kernel
theorem dX10_reads_27 : decode cX10_reads 27 = .ok (.istore 4, 2) := by decide +kernel
theorem dX10_reads_29 : decode cX10_reads 29 = .ok (.aload_n 0, 1) := by decide +kernel
theorem dX10_reads_30 : decode cX10_reads 30 = .ok (.bipush 40, 2) := by decide +kernel
theorem dX10_reads_32 : decode cX10_reads 32 = .ok (.invokevirtual 196, 3) := by decide +kernel
theorem dX10_reads_35 : decode cX10_reads 35 = .ok (.istore 5, 2) := by decide +kernel
theorem dX10_reads_37 : decode cX10_reads 37 = .ok (.iload_n 3, 1) := by decide +kernel
theorem dX10_reads_38 : decode cX10_reads 38 = .ok (.ifCond .ne 27, 3) := by decide +kernel
theorem dX10_reads_41 : decode cX10_reads 41 = .ok (.iload 4, 2) := by decide +kernel
theorem dX10_reads_43 : decode cX10_reads 43 = .ok (.ifCond .ne 22, 3) := by decide +kernel
theorem dX10_reads_46 : decode cX10_reads 46 = .ok (.iload 5, 2) := by decide +kernel
theorem dX10_reads_48 : decode cX10_reads 48 = .ok (.ifCond .ne 17, 3) := by decide +kernel
theorem dX10_reads_51 : decode cX10_reads 51 = .ok (.aload_n 0, 1) := by decide +kernel
theorem dX10_reads_52 : decode cX10_reads 52 = .ok (.getfield 161, 3) := by decide +kernel
theorem dX10_reads_55 : decode cX10_reads 55 = .ok (.iconst 2, 1) := by decide +kernel
theorem dX10_reads_56 : decode cX10_reads 56 = .ok (.if_icmp .eq 9, 3) := by decide +kernel
theorem dX10_reads_59 : decode cX10_reads 59 = .ok (.aload_n 0, 1) := by decide +kernel
theorem dX10_reads_60 : decode cX10_reads 60 = .ok (.iconst 1, 1) := by decide +kernel
theorem dX10_reads_61 : decode cX10_reads 61 = .ok (.invokevirtual 200, 3) := by decide +kernel
theorem dX10_reads_64 : decode cX10_reads 64 = .ok (.ireturn, 1) := by decide +kernel
theorem dX10_reads_65 : decode cX10_reads 65 = .ok (.iload_n 1, 1) := by decide +kernel
theorem dX10_reads_66 : decode cX10_reads 66 = .ok (.iconst 5, 1) := by decide +kernel
theorem dX10_reads_67 : decode cX10_reads 67 = .ok (.if_icmp .ne 9, 3) := by decide +kernel
theorem dX10_reads_70 : decode cX10_reads 70 = .ok (.aload_n 0, 1) := by decide +kernel
theorem dX10_reads_71 : decode cX10_reads 71 = .ok (.iconst 5, 1) := by decide +kernel
theorem dX10_reads_72 : decode cX10_reads 72 = .ok (.invokevirtual 200, 3) := by decide +kernel
theorem dX10_reads_75 : decode cX10_reads 75 = .ok (.ireturn, 1) := by decide +kernel
theorem dX10_reads_76 : decode cX10_reads 76 = .ok (.iload 4, 2) := by decide +kernel
theorem dX10_reads_78 : decode cX10_reads 78 = .ok (.ifCond .ne 8, 3) := by decide +kernel
theorem dX10_reads_81 : decode cX10_reads 81 = .ok (.iload 5, 2) := by decide +kernel
theorem dX10_reads_83 : decode cX10_reads 83 = .ok (.ifCond .eq 48, 3) := by decide +kernel
theorem dX10_reads_86 : decode cX10_reads 86 = .ok (.aload_n 0, 1) := by decide +kernel
theorem dX10_reads_87 : decode cX10_reads 87 = .ok (.iload 4, 2) := by decide +kernel
theorem dX10_reads_89 : decode cX10_reads 89 = .ok (.ifCond .eq 8, 3) := by decide +kernel
theorem dX10_reads_92 : decode cX10_reads 92 = .ok (.bipush 30, 2) := by decide +kernel
theorem dX10_reads_94 : decode cX10_reads 94 = .ok (.goto 5, 3) := by decide +kernel
theorem dX10_reads_97 : decode cX10_reads 97 = .ok (.bipush 28, 2) := by decide +kernel
theorem dX10_reads_99 : decode cX10_reads 99 = .ok (.invokevirtual 203, 3) := by decide +kernel
theorem dX10_reads_102 : decode cX10_reads 102 = .ok (.iinc 1 1, 3) := by decide +kernel
theorem dX10_reads_105 : decode cX10_reads 105 = .ok (.aload_n 0, 1) := by decide +kernel
theorem dX10_reads_106 : decode cX10_reads 106 = .ok (.getfield 41, 3) := by decide +kernel
theorem dX10_reads_109 : decode cX10_reads 109 = .ok (.iload_n 1, 1) := by decide +kernel
theorem dX10_reads_110 : decode cX10_reads 110 = .ok (.iload 4, 2) := by decide +kernel
theorem dX10_reads_112 : decode cX10_reads 112 = .ok (.ifCond .eq 7, 3) := by decide +kernel
theorem dX10_reads_115 : decode cX10_reads 115 = .ok (.iconst 1, 1) := by decide +kernel
theorem dX10_reads_116 : decode cX10_reads 116 = .ok (.goto 4, 3) := by decide +kernel
theorem dX10_reads_119 : decode cX10_reads 119 = .ok (.iconst 2, 1) := by decide +kernel
theorem dX10_reads_120 : decode cX10_reads 120 = .ok (.iastore, 1) := by decide +kernel
theorem dX10_reads_121 : decode cX10_reads 121 = .ok (.aload_n 0, 1) := by decide +kernel
theorem dX10_reads_122 : decode cX10_reads 122 = .ok (.getfield 44, 3) := by decide +kernel
theorem dX10_reads_125 : decode cX10_reads 125 = .ok (.iload_n 1, 1) := by decide +kernel
theorem dX10_reads_126 : decode cX10_reads 126 = .ok (.iconst 0, 1) := by decide +kernel
theorem dX10_reads_127 : decode cX10_reads 127 = .ok (.bastore, 1) := by decide +kernel
theorem dX10_reads_128 : decode cX10_reads 128 = .ok (.goto 44, 3) := by decide +kernel
theorem dX10_reads_131 : decode cX10_reads 131 = .ok (.aload_n 0, 1) := by decide +kernel
theorem dX10_reads_132 : decode cX10_reads 132 = .ok (.iload_n 3, 1) := by decide +kernel
theorem dX10_reads_133 : decode cX10_reads 133 = .ok (.ifCond .le 7, 3) := by decide +kernel
theorem dX10_reads_136 : decode cX10_reads 136 = .ok (.iload_n 3, 1) := by decide +kernel
theorem dX10_reads_137 : decode cX10_reads 137 = .ok (.goto 10, 3) := by decide +kernel
theorem dX10_reads_140 : decode cX10_reads 140 = .ok (.bipush 100, 2) := by decide +kernel
theorem dX10_reads_142 : decode cX10_reads 142 = .ok (.aload_n 0, 1) := by decide +kernel
theorem dX10_reads_143 : decode cX10_reads 143 = .ok (.getfield 158, 3) := by decide +kernel
theorem dX10_reads_146 : decode cX10_reads 146 = .ok (.iadd, 1) := by decide +kernel
theorem dX10_reads_147 : decode cX10_reads 147 = .ok (.invokevirtual 203, 3) := by decide +kernel
theorem dX10_reads_150 : decode cX10_reads 150 = .ok (.iconst 0, 1) := by decide +kernel
theorem dX10_reads_151 : decode cX10_reads 151 = .ok (.istore_n 2, 1) := by decide +kernel
theorem dX10_reads_152 : decode cX10_reads 152 = .ok (.iload_n 1, 1) := by decide +kernel
theorem dX10_reads_153 : decode cX10_reads 153 = .ok (.ifCond .le 19, 3) := by decide +kernel
theorem dX10_reads_156 : decode cX10_reads 156 = .ok (.aload_n 0, 1) := by decide +kernel
theorem dX10_reads_157 : decode cX10_reads 157 = .ok (.getfield 41, 3) := by decide +kernel
theorem dX10_reads_160 : decode cX10_reads 160 = .ok (.iload_n 1, 1) := by decide +kernel
theorem dX10_reads_161 : decode cX10_reads 161 = .ok (.iaload, 1) := by decide +kernel
theorem dX10_reads_162 : decode cX10_reads 162 = .ok (.iconst 1, 1) := by decide +kernel
theorem dX10_reads_163 : decode cX10_reads 163 = .ok (.if_icmp .ne 9, 3) := by decide +kernel
theorem dX10_reads_166 : decode cX10_reads 166 = .ok (.iinc 1 (-1), 3) := by decide +kernel
theorem dX10_reads_169 : decode cX10_reads 169 = .ok (.goto (-17), 3) := by decide +kernel
theorem dX10_reads_172 : decode cX10_reads 172 = .ok (.aload_n 0, 1) := by decide +kernel
theorem dX10_reads_173 : decode cX10_reads 173 = .ok (.invokevirtual 206, 3) := by decide +kernel
theorem dX10_reads_176 : decode cX10_reads 176 = .ok (.goto (-165), 3) := by decide +kernel
theorem dX10_reads_179 : decode cX10_reads 179 = .ok (.aload_n 0, 1) := by decide +kernel
theorem dX10_reads_180 : decode cX10_reads 180 = .ok (.bipush 43, 2) := by decide +kernel
theorem dX10_reads_182 : decode cX10_reads 182 = .ok (.invokevirtual 196, 3) := by decide +kernel
theorem dX10_reads_185 : decode cX10_reads 185 = .ok (.ifCond .ne 21, 3) := by decide +kernel
theorem dX10_reads_188 : decode cX10_reads 188 = .ok (.aload_n 0, 1) := by decide +kernel
theorem dX10_reads_189 : decode cX10_reads 189 = .ok (.bipush 45, 2) := by decide +kernel
theorem dX10_reads_191 : decode cX10_reads 191 = .ok (.invokevirtual 196, 3) := by decide +kernel
theorem dX10_reads_194 : decode cX10_reads 194 = .ok (.ifCond .ne 12, 3) := by decide +kernel
theorem dX10_reads_197 : decode cX10_reads 197 = .ok (.aload_n 0, 1) := by decide +kernel
theorem dX10_reads_198 : decode cX10_reads 198 = .ok (.bipush 42, 2) := by decide +kernel
theorem dX10_reads_200 : decode cX10_reads 200 = .ok (.invokevirtual 196, 3) := by decide +kernel
theorem dX10_reads_203 : decode cX10_reads 203 = .ok (.ifCond .eq 42, 3) := by decide +kernel
theorem dX10_reads_206 : decode cX10_reads 206 = .ok (.aload_n 0, 1) := by decide +kernel
theorem dX10_reads_207 : decode cX10_reads 207 = .ok (.aload_n 0, 1) := by decide +kernel
theorem dX10_reads_208 : decode cX10_reads 208 = .ok (.bipush 43, 2) := by decide +kernel
theorem dX10_reads_210 : decode cX10_reads 210 = .ok (.invokevirtual 196, 3) := by decide +kernel
theorem dX10_reads_213 : decode cX10_reads 213 = .ok (.ifCond .eq 8, 3) := by decide +kernel
theorem dX10_reads_216 : decode cX10_reads 216 = .ok (.bipush 20, 2) := by decide +kernel
theorem dX10_reads_218 : decode cX10_reads 218 = .ok (.goto 19, 3) := by decide +kernel
theorem dX10_reads_221 : decode cX10_reads 221 = .ok (.aload_n 0, 1) := by decide +kernel
theorem dX10_reads_222 : decode cX10_reads 222 = .ok (.bipush 45, 2) := by decide +kernel
theorem dX10_reads_224 : decode cX10_reads 224 = .ok (.invokevirtual 196, 3) := by decide +kernel
theorem dX10_reads_227 : decode cX10_reads 227 = .ok (.ifCond .eq 8, 3) := by decide +kernel
theorem dX10_reads_230 : decode cX10_reads 230 = .ok (.bipush 21, 2) := by decide +kernel
theorem dX10_reads_232 : decode cX10_reads 232 = .ok (.goto 5, 3) := by decide +kernel
theorem dX10_reads_235 : decode cX10_reads 235 = .ok (.bipush 22, 2) := by decide +kernel
theorem dX10_reads_237 : decode cX10_reads 237 = .ok (.invokevirtual 203, 3) := by decide +kernel
theorem dX10_reads_240 : decode cX10_reads 240 = .ok (.iconst 1, 1) := by decide +kernel
theorem dX10_reads_241 : decode cX10_reads 241 = .ok (.istore_n 2, 1) := by decide +kernel
theorem dX10_reads_242 : decode cX10_reads 242 = .ok (.goto 182, 3) := by decide +kernel
theorem dX10_reads_245 : decode cX10_reads 245 = .ok (.aload_n 0, 1) := by decide +kernel
theorem dX10_reads_246 : decode cX10_reads 246 = .ok (.bipush 60, 2) := by decide +kernel
theorem dX10_reads_248 : decode cX10_reads 248 = .ok (.invokevirtual 196, 3) := by decide +kernel
theorem dX10_reads_251 : decode cX10_reads 251 = .ok (.ifCond .ne 12, 3) := by decide +kernel
theorem dX10_reads_254 : decode cX10_reads 254 = .ok (.aload_n 0, 1) := by decide +kernel
theorem dX10_reads_255 : decode cX10_reads 255 = .ok (.bipush 61, 2) := by decide +kernel
theorem dX10_reads_257 : decode cX10_reads 257 = .ok (.invokevirtual 196, 3) := by decide +kernel
theorem dX10_reads_260 : decode cX10_reads 260 = .ok (.ifCond .eq 44, 3) := by decide +kernel
theorem dX10_reads_263 : decode cX10_reads 263 = .ok (.aload_n 0, 1) := by decide +kernel
theorem dX10_reads_264 : decode cX10_reads 264 = .ok (.getfield 44, 3) := by decide +kernel
theorem dX10_reads_267 : decode cX10_reads 267 = .ok (.iload_n 1, 1) := by decide +kernel
theorem dX10_reads_268 : decode cX10_reads 268 = .ok (.baload, 1) := by decide +kernel
theorem dX10_reads_269 : decode cX10_reads 269 = .ok (.ifCond .ne 35, 3) := by decide +kernel
theorem dX10_reads_272 : decode cX10_reads 272 = .ok (.aload_n 0, 1) := by decide +kernel
theorem dX10_reads_273 : decode cX10_reads 273 = .ok (.aload_n 0, 1) := by decide +kernel
theorem dX10_reads_274 : decode cX10_reads 274 = .ok (.bipush 60, 2) := by decide +kernel
theorem dX10_reads_276 : decode cX10_reads 276 = .ok (.invokevirtual 196, 3) := by decide +kernel
theorem dX10_reads_279 : decode cX10_reads 279 = .ok (.ifCond .eq 8, 3) := by decide +kernel
theorem dX10_reads_282 : decode cX10_reads 282 = .ok (.bipush 24, 2) := by decide +kernel
theorem dX10_reads_284 : decode cX10_reads 284 = .ok (.goto 5, 3) := by decide +kernel
theorem dX10_reads_287 : decode cX10_reads 287 = .ok (.bipush 25, 2) := by decide +kernel
theorem dX10_reads_289 : decode cX10_reads 289 = .ok (.invokevirtual 203, 3) := by decide +kernel
theorem dX10_reads_292 : decode cX10_reads 292 = .ok (.aload_n 0, 1) := by decide +kernel
theorem dX10_reads_293 : decode cX10_reads 293 = .ok (.getfield 44, 3) := by decide +kernel
theorem dX10_reads_296 : decode cX10_reads 296 = .ok (.iload_n 1, 1) := by decide +kernel
theorem dX10_reads_297 : decode cX10_reads 297 = .ok (.iconst 1, 1) := by decide +kernel
theorem dX10_reads_298 : decode cX10_reads 298 = .ok (.bastore, 1) := by decide +kernel
theorem dX10_reads_299 : decode cX10_reads 299 = .ok (.iconst 1, 1) := by decide +kernel
theorem dX10_reads_300 : decode cX10_reads 300 = .ok (.istore_n 2, 1) := by decide +kernel
theorem dX10_reads_301 : decode cX10_reads 301 = .ok (.goto 123, 3) := by decide +kernel
theorem dX10_reads_304 : decode cX10_reads 304 = .ok (.aload_n 0, 1) := by decide +kernel
theorem dX10_reads_305 : decode cX10_reads 305 = .ok (.ldc2_w 209, 3) := by decide +kernel
theorem dX10_reads_308 : decode cX10_reads 308 = .ok (.invokevirtual 192, 3) := by decide +kernel
theorem dX10_reads_311 : decode cX10_reads 311 = .ok (.ifCond .ne 13, 3) := by decide +kernel
theorem dX10_reads_314 : decode cX10_reads 314 = .ok (.aload_n 0, 1) := by decide +kernel
theorem dX10_reads_315 : decode cX10_reads 315 = .ok (.ldc2_w 211, 3) := by decide +kernel
theorem dX10_reads_318 : decode cX10_reads 318 = .ok (.invokevirtual 192, 3) := by decide +kernel
theorem dX10_reads_321 : decode cX10_reads 321 = .ok (.ifCond .eq 36, 3) := by decide +kernel
theorem dX10_reads_324 : decode cX10_reads 324 = .ok (.aload_n 0, 1) := by decide +kernel
theorem dX10_reads_325 : decode cX10_reads 325 = .ok (.aload_n 0, 1) := by decide +kernel
theorem dX10_reads_326 : decode cX10_reads 326 = .ok (.ldc2_w 209, 3) := by decide +kernel
theorem dX10_reads_329 : decode cX10_reads 329 = .ok (.invokevirtual 192, 3) := by decide +kernel
theorem dX10_reads_332 : decode cX10_reads 332 = .ok (.ifCond .eq 8, 3) := by decide +kernel
theorem dX10_reads_335 : decode cX10_reads 335 = .ok (.bipush 26, 2) := by decide +kernel
theorem dX10_reads_337 : decode cX10_reads 337 = .ok (.goto 5, 3) := by decide +kernel
theorem dX10_reads_340 : decode cX10_reads 340 = .ok (.bipush 27, 2) := by decide +kernel
theorem dX10_reads_342 : decode cX10_reads 342 = .ok (.invokevirtual 203, 3) := by decide +kernel
theorem dX10_reads_345 : decode cX10_reads 345 = .ok (.aload_n 0, 1) := by decide +kernel
theorem dX10_reads_346 : decode cX10_reads 346 = .ok (.getfield 44, 3) := by decide +kernel
theorem dX10_reads_349 : decode cX10_reads 349 = .ok (.iload_n 1, 1) := by decide +kernel
theorem dX10_reads_350 : decode cX10_reads 350 = .ok (.iconst 0, 1) := by decide +kernel
theorem dX10_reads_351 : decode cX10_reads 351 = .ok (.bastore, 1) := by decide +kernel
theorem dX10_reads_352 : decode cX10_reads 352 = .ok (.iconst 1, 1) := by decide +kernel
theorem dX10_reads_353 : decode cX10_reads 353 = .ok (.istore_n 2, 1) := by decide +kernel
theorem dX10_reads_354 : decode cX10_reads 354 = .ok (.goto 70, 3) := by decide +kernel
theorem dX10_reads_357 : decode cX10_reads 357 = .ok (.aload_n 0, 1) := by decide +kernel
theorem dX10_reads_358 : decode cX10_reads 358 = .ok (.bipush 41, 2) := by decide +kernel
theorem dX10_reads_360 : decode cX10_reads 360 = .ok (.invokevirtual 196, 3) := by decide +kernel
theorem dX10_reads_363 : decode cX10_reads 363 = .ok (.ifCond .eq 36, 3) := by decide +kernel
theorem dX10_reads_366 : decode cX10_reads 366 = .ok (.iload_n 1, 1) := by decide +kernel
theorem dX10_reads_367 : decode cX10_reads 367 = .ok (.ifCond .le 32, 3) := by decide +kernel
theorem dX10_reads_370 : decode cX10_reads 370 = .ok (.aload_n 0, 1) := by decide +kernel
theorem dX10_reads_371 : decode cX10_reads 371 = .ok (.bipush 29, 2) := by decide +kernel
theorem dX10_reads_373 : decode cX10_reads 373 = .ok (.invokevirtual 203, 3) := by decide +kernel
theorem dX10_reads_376 : decode cX10_reads 376 = .ok (.iinc 1 (-1), 3) := by decide +kernel
theorem dX10_reads_379 : decode cX10_reads 379 = .ok (.iload_n 1, 1) := by decide +kernel
theorem dX10_reads_380 : decode cX10_reads 380 = .ok (.ifCond .le 44, 3) := by decide +kernel
theorem dX10_reads_383 : decode cX10_reads 383 = .ok (.aload_n 0, 1) := by decide +kernel
theorem dX10_reads_384 : decode cX10_reads 384 = .ok (.getfield 41, 3) := by decide +kernel
theorem dX10_reads_387 : decode cX10_reads 387 = .ok (.iload_n 1, 1) := by decide +kernel
theorem dX10_reads_388 : decode cX10_reads 388 = .ok (.iaload, 1) := by decide +kernel
theorem dX10_reads_389 : decode cX10_reads 389 = .ok (.iconst 1, 1) := by decide +kernel
theorem dX10_reads_390 : decode cX10_reads 390 = .ok (.if_icmp .ne 34, 3) := by decide +kernel
theorem dX10_reads_393 : decode cX10_reads 393 = .ok (.iinc 1 (-1), 3) := by decide +kernel
theorem dX10_reads_396 : decode cX10_reads 396 = .ok (.goto (-17), 3) := by decide +kernel
theorem dX10_reads_399 : decode cX10_reads 399 = .ok (.iload_n 1, 1) := by decide +kernel
theorem dX10_reads_400 : decode cX10_reads 400 = .ok (.ifCond .ne 18, 3) := by decide +kernel
theorem dX10_reads_403 : decode cX10_reads 403 = .ok (.aload_n 0, 1) := by decide +kernel
theorem dX10_reads_404 : decode cX10_reads 404 = .ok (.bipush 59, 2) := by decide +kernel
theorem dX10_reads_406 : decode cX10_reads 406 = .ok (.invokevirtual 196, 3) := by decide +kernel
theorem dX10_reads_409 : decode cX10_reads 409 = .ok (.ifCond .eq 9, 3) := by decide +kernel
theorem dX10_reads_412 : decode cX10_reads 412 = .ok (.aload_n 0, 1) := by decide +kernel
theorem dX10_reads_413 : decode cX10_reads 413 = .ok (.invokevirtual 206, 3) := by decide +kernel
theorem dX10_reads_416 : decode cX10_reads 416 = .ok (.iconst 1, 1) := by decide +kernel
theorem dX10_reads_417 : decode cX10_reads 417 = .ok (.ireturn, 1) := by decide +kernel
theorem dX10_reads_418 : decode cX10_reads 418 = .ok (.aload_n 0, 1) := by decide +kernel
theorem dX10_reads_419 : decode cX10_reads 419 = .ok (.iconst 1, 1) := by decide +kernel
theorem dX10_reads_420 : decode cX10_reads 420 = .ok (.invokevirtual 200, 3) := by decide +kernel
theorem dX10_reads_423 : decode cX10_reads 423 = .ok (.ireturn, 1) := by decide +kernel
theorem dX10_reads_424 : decode cX10_reads 424 = .ok (.aload_n 0, 1) := by decide +kernel
theorem dX10_reads_425 : decode cX10_reads 425 = .ok (.invokevirtual 206, 3) := by decide +kernel
theorem dX10_reads_428 : decode cX10_reads 428 = .ok (.goto (-417), 3) := by decide +kernel
def fX10_reads_b424 (n : Nat) (K11 : Nat → Int32 → Int32 → qH → Option (Int32 × qH)) (v0 : Nat) (v1 : Int32) (v2 : Int32) (h : qH) : Option (Int32 × qH) :=
  (fX10_nextToken n v0 h).bind fun h1 =>
  K11 v0 v1 v2 h1
set_option maxHeartbeats 4000000 in
set_option maxRecDepth 100000 in
theorem okX10_reads_b424 {l : Launch} {n : Nat} {K11 : Nat → Int32 → Int32 → qH → Option (Int32 × qH)} {v0 : Nat} {v1 : Int32} {v2 : Int32} {h : qH} {r : Int32} {h' : qH} (hK11 : ∀ (v0 : Nat) (v1 : Int32) (v2 : Int32) (h : qH), K11 v0 v1 v2 h = some (r, h') → q_W l 3 yX10_reads cX10_reads 6 (some .boolean) (some (.int r)) h' 11 [(0, .ref v0), (1, .int v1), (2, .int v2)] [] h) (hyp : fX10_reads_b424 n K11 v0 v1 v2 h = some (r, h')) : q_W l 3 yX10_reads cX10_reads 6 (some .boolean) (some (.int r)) h' 424 [(0, .ref v0), (1, .int v1), (2, .int v2)] [] h := by
  unfold fX10_reads_b424 at hyp
  refine q_aload_n 0 rfl dX10_reads_424 ?_
  refine q_bind hyp (fun h1 e2 hyp => ?_)
  refine q_callV (as := []) (st := []) kY_X10_nextToken kL_X10_206 (okX10_nextToken (l := l) e2) (by decide) rfl (obX10_nextToken e2) (Nat.le_of_ble_eq_true rfl) dX10_reads_425 ?_
  refine q_to (ls' := [(0, .ref v0), (1, .int v1), (2, .int v2)]) (st' := []) rfl rfl ?_
  refine q_goto (tgt := 11) dX10_reads_428 (by decide) ?_
  exact q_sub [0, 1, 2] rfl (hK11 v0 v1 v2 h1 hyp)
def fX10_reads_b418 (n : Nat) (v0 : Nat) (h : qH) : Option (Int32 × qH) :=
  (fX10_fails v0 1 h).bind fun p1 =>
  (qB p1.1).bind fun _ =>
  some (p1.1, p1.2)
set_option maxHeartbeats 4000000 in
set_option maxRecDepth 100000 in
theorem okX10_reads_b418 {l : Launch} {n : Nat} {v0 : Nat} {h : qH} {r : Int32} {h' : qH} (hyp : fX10_reads_b418 n v0 h = some (r, h')) : q_W l 3 yX10_reads cX10_reads 6 (some .boolean) (some (.int r)) h' 418 [(0, .ref v0)] [] h := by
  unfold fX10_reads_b418 at hyp
  refine q_aload_n 0 rfl dX10_reads_418 ?_
  refine q_iconst (x := 1) rfl dX10_reads_419 ?_
  refine q_bind hyp (fun p1 e3 hyp => ?_)
  refine q_callV (as := [.int 1]) (st := []) kY_X10_fails kL_X10_200 (okX10_fails (l := l) e3) (by decide) rfl (obX10_fails e3) (Nat.le_of_ble_eq_true rfl) dX10_reads_420 ?_
  refine q_to (ls' := [(0, .ref v0)]) (st' := [.int p1.1]) rfl rfl ?_
  refine q_bind hyp (fun _ e2 hyp => ?_)
  exact q_iretH rfl (qB_some e2) dX10_reads_423 hyp
def fX10_reads_b399 (n : Nat) (v0 : Nat) (v1 : Int32) (h : qH) : Option (Int32 × qH) :=
  if v1 = 0 then
  ((fX10_isSign v0 59 h).bind fun p2 =>
  if p2.1 = 0 then
  (fX10_reads_b418 n v0 p2.2)
  else
  ((fX10_nextToken n v0 p2.2).bind fun h4 =>
  some (1, h4)))
  else
  (fX10_reads_b418 n v0 h)
set_option maxHeartbeats 4000000 in
set_option maxRecDepth 100000 in
theorem okX10_reads_b399 {l : Launch} {n : Nat} {v0 : Nat} {v1 : Int32} {h : qH} {r : Int32} {h' : qH} (hyp : fX10_reads_b399 n v0 v1 h = some (r, h')) : q_W l 3 yX10_reads cX10_reads 6 (some .boolean) (some (.int r)) h' 399 [(0, .ref v0), (1, .int v1)] [] h := by
  unfold fX10_reads_b399 at hyp
  refine q_iload_n 1 rfl dX10_reads_399 ?_
  refine q_if_ne (tgt := 418) dX10_reads_400 (by decide) (fun c1 => ?_) (fun c1 => ?_)
  · have hyp := q_neg c1 hyp
    exact q_sub [0] rfl (okX10_reads_b418 hyp)
  · have hyp := q_pos c1 hyp
    refine q_aload_n 0 rfl dX10_reads_403 ?_
    refine q_bipush (x := 59) (by decide) dX10_reads_404 ?_
    refine q_bind hyp (fun p2 e6 hyp => ?_)
    refine q_callV (as := [.int 59]) (st := []) kY_X10_isSign kL_X10_196 (okX10_isSign (l := l) e6) (by decide) rfl (obX10_isSign e6) (Nat.le_of_ble_eq_true rfl) dX10_reads_406 ?_
    refine q_to (ls' := [(0, .ref v0), (1, .int v1)]) (st' := [.int p2.1]) rfl rfl ?_
    refine q_if_eq (tgt := 418) dX10_reads_409 (by decide) (fun c3 => ?_) (fun c3 => ?_)
    · have hyp := q_pos c3 hyp
      exact q_sub [0] rfl (okX10_reads_b418 hyp)
    · have hyp := q_neg c3 hyp
      refine q_aload_n 0 rfl dX10_reads_412 ?_
      refine q_bind hyp (fun h4 e5 hyp => ?_)
      refine q_callV (as := []) (st := []) kY_X10_nextToken kL_X10_206 (okX10_nextToken (l := l) e5) (by decide) rfl (obX10_nextToken e5) (Nat.le_of_ble_eq_true rfl) dX10_reads_413 ?_
      refine q_to (ls' := [(0, .ref v0), (1, .int v1)]) (st' := []) rfl rfl ?_
      refine q_iconst (x := 1) rfl dX10_reads_416 ?_
      exact q_iretH rfl rfl dX10_reads_417 hyp
def fX10_reads_b379 (n : Nat) (K11 : Nat → Int32 → Int32 → qH → Option (Int32 × qH)) : Nat → Nat → Int32 → Int32 → qH → Option (Int32 × qH)
  | 0, _, _, _, _ => none
  | w + 1, v0, v1, v2, h =>
    if v1 ≤ 0 then
    (fX10_reads_b424 n K11 v0 v1 v2 h)
    else
    ((gR h v0 10 21).bind fun x2 =>
    (aI .int h x2 v1).bind fun x4 =>
    if x4 = 1 then
    (fX10_reads_b379 n K11 w v0 (v1 + (-1)) v2 h)
    else
    (fX10_reads_b424 n K11 v0 v1 v2 h))
set_option maxHeartbeats 4000000 in
set_option maxRecDepth 100000 in
theorem okX10_reads_b379 {l : Launch} {n : Nat} {K11 : Nat → Int32 → Int32 → qH → Option (Int32 × qH)} {r : Int32} {h' : qH} (hK11 : ∀ (v0 : Nat) (v1 : Int32) (v2 : Int32) (h : qH), K11 v0 v1 v2 h = some (r, h') → q_W l 3 yX10_reads cX10_reads 6 (some .boolean) (some (.int r)) h' 11 [(0, .ref v0), (1, .int v1), (2, .int v2)] [] h) : ∀ (w : Nat) (v0 : Nat) (v1 : Int32) (v2 : Int32) (h : qH), fX10_reads_b379 n K11 w v0 v1 v2 h = some (r, h') → q_W l 3 yX10_reads cX10_reads 6 (some .boolean) (some (.int r)) h' 379 [(0, .ref v0), (1, .int v1), (2, .int v2)] [] h := by
  intro w
  induction w with
  | zero => intro v0 v1 v2 h hyp; cases hyp
  | succ w ih =>
    intro v0 v1 v2 h hyp
    unfold fX10_reads_b379 at hyp
    refine q_iload_n 1 rfl dX10_reads_379 ?_
    refine q_if_le (tgt := 424) dX10_reads_380 (by decide) (fun c1 => ?_) (fun c1 => ?_)
    · have hyp := q_pos c1 hyp
      exact q_sub [0, 1, 2] rfl (okX10_reads_b424 hK11 hyp)
    · have hyp := q_neg c1 hyp
      refine q_aload_n 0 rfl dX10_reads_383 ?_
      refine q_bind hyp (fun x2 e3 hyp => ?_)
      refine q_getR kF_X10_41 dX10_reads_384 e3 ?_
      refine q_iload_n 1 rfl dX10_reads_387 ?_
      refine q_bind hyp (fun x4 e5 hyp => ?_)
      refine q_iald dX10_reads_388 e5 ?_
      refine q_iconst (x := 1) rfl dX10_reads_389 ?_
      refine q_icmp_ne (tgt := 424) dX10_reads_390 (by decide) (fun c6 => ?_) (fun c6 => ?_)
      · have hyp := q_neg c6 hyp
        exact q_sub [0, 1, 2] rfl (okX10_reads_b424 hK11 hyp)
      · have hyp := q_pos c6 hyp
        refine q_iinc (ls' := [(1, .int (v1 + (-1))), (0, .ref v0), (2, .int v2)]) 1 rfl (by rw [show Int32.ofInt (-1) = (-1 : Int32) by decide]) (by decide) rfl dX10_reads_393 ?_
        refine q_goto (tgt := 379) dX10_reads_396 (by decide) ?_
        exact q_sub [1, 0, 2] rfl (ih v0 (v1 + (-1)) v2 h hyp)
def fX10_reads_b342 (n : Nat) (K11 : Nat → Int32 → Int32 → qH → Option (Int32 × qH)) (v0 : Nat) (v1 : Int32) (s0 : Int32) (s1 : Nat) (h : qH) : Option (Int32 × qH) :=
  (fX10_puts s1 s0 h).bind fun h1 =>
  (gR h1 v0 10 22).bind fun x2 =>
  (sI .boolean h1 x2 v1 0).bind fun h4 =>
  fX10_reads_b424 n K11 v0 v1 1 h4
set_option maxHeartbeats 4000000 in
set_option maxRecDepth 100000 in
theorem okX10_reads_b342 {l : Launch} {n : Nat} {K11 : Nat → Int32 → Int32 → qH → Option (Int32 × qH)} {v0 : Nat} {v1 : Int32} {s0 : Int32} {s1 : Nat} {h : qH} {r : Int32} {h' : qH} (hK11 : ∀ (v0 : Nat) (v1 : Int32) (v2 : Int32) (h : qH), K11 v0 v1 v2 h = some (r, h') → q_W l 3 yX10_reads cX10_reads 6 (some .boolean) (some (.int r)) h' 11 [(0, .ref v0), (1, .int v1), (2, .int v2)] [] h) (hyp : fX10_reads_b342 n K11 v0 v1 s0 s1 h = some (r, h')) : q_W l 3 yX10_reads cX10_reads 6 (some .boolean) (some (.int r)) h' 342 [(0, .ref v0), (1, .int v1)] [.int s0, .ref s1] h := by
  unfold fX10_reads_b342 at hyp
  refine q_bind hyp (fun h1 e6 hyp => ?_)
  refine q_callV (as := [.int s0]) (st := []) kY_X10_puts kL_X10_203 (okX10_puts (l := l) e6) (by decide) rfl (obX10_puts e6) (Nat.le_of_ble_eq_true rfl) dX10_reads_342 ?_
  refine q_to (ls' := [(0, .ref v0), (1, .int v1)]) (st' := []) rfl rfl ?_
  refine q_aload_n 0 rfl dX10_reads_345 ?_
  refine q_bind hyp (fun x2 e3 hyp => ?_)
  refine q_getR kF_X10_44 dX10_reads_346 e3 ?_
  refine q_iload_n 1 rfl dX10_reads_349 ?_
  refine q_iconst (x := 0) rfl dX10_reads_350 ?_
  refine q_bind hyp (fun h4 e5 hyp => ?_)
  refine q_zast dX10_reads_351 e5 ?_
  refine q_iconst (x := 1) rfl dX10_reads_352 ?_
  refine q_istore_n (ls' := [(2, .int 1), (0, .ref v0), (1, .int v1)]) (by decide) rfl dX10_reads_353 ?_
  refine q_goto (tgt := 424) dX10_reads_354 (by decide) ?_
  exact q_sub [1, 2, 0] rfl (okX10_reads_b424 hK11 hyp)
def fX10_reads_b324 (n : Nat) (K11 : Nat → Int32 → Int32 → qH → Option (Int32 × qH)) (v0 : Nat) (v1 : Int32) (h : qH) : Option (Int32 × qH) :=
  (fX10_isWord v0 1111 h).bind fun p1 =>
  if p1.1 = 0 then
  (fX10_reads_b342 n K11 v0 v1 27 v0 p1.2)
  else
  (fX10_reads_b342 n K11 v0 v1 26 v0 p1.2)
set_option maxHeartbeats 4000000 in
set_option maxRecDepth 100000 in
theorem okX10_reads_b324 {l : Launch} {n : Nat} {K11 : Nat → Int32 → Int32 → qH → Option (Int32 × qH)} {v0 : Nat} {v1 : Int32} {h : qH} {r : Int32} {h' : qH} (hK11 : ∀ (v0 : Nat) (v1 : Int32) (v2 : Int32) (h : qH), K11 v0 v1 v2 h = some (r, h') → q_W l 3 yX10_reads cX10_reads 6 (some .boolean) (some (.int r)) h' 11 [(0, .ref v0), (1, .int v1), (2, .int v2)] [] h) (hyp : fX10_reads_b324 n K11 v0 v1 h = some (r, h')) : q_W l 3 yX10_reads cX10_reads 6 (some .boolean) (some (.int r)) h' 324 [(0, .ref v0), (1, .int v1)] [] h := by
  unfold fX10_reads_b324 at hyp
  refine q_aload_n 0 rfl dX10_reads_324 ?_
  refine q_aload_n 0 rfl dX10_reads_325 ?_
  refine q_ldc2 kK_X10_209 dX10_reads_326 ?_
  refine q_bind hyp (fun p1 e3 hyp => ?_)
  refine q_callV (as := [.long 1111]) (st := [.ref v0]) kY_X10_isWord kL_X10_192 (okX10_isWord (l := l) e3) (by decide) rfl (obX10_isWord e3) (Nat.le_of_ble_eq_true rfl) dX10_reads_329 ?_
  refine q_to (ls' := [(0, .ref v0), (1, .int v1)]) (st' := [.int p1.1, .ref v0]) rfl rfl ?_
  refine q_if_eq (tgt := 340) dX10_reads_332 (by decide) (fun c2 => ?_) (fun c2 => ?_)
  · have hyp := q_pos c2 hyp
    refine q_bipush (x := 27) (by decide) dX10_reads_340 ?_
    exact q_sub [0, 1] rfl (okX10_reads_b342 hK11 hyp)
  · have hyp := q_neg c2 hyp
    refine q_bipush (x := 26) (by decide) dX10_reads_335 ?_
    refine q_goto (tgt := 342) dX10_reads_337 (by decide) ?_
    exact q_sub [0, 1] rfl (okX10_reads_b342 hK11 hyp)
def fX10_reads_b304 (n : Nat) (K11 : Nat → Int32 → Int32 → qH → Option (Int32 × qH)) (v0 : Nat) (v1 : Int32) (v2 : Int32) (h : qH) : Option (Int32 × qH) :=
  (fX10_isWord v0 1111 h).bind fun p1 =>
  if p1.1 = 0 then
  ((fX10_isWord v0 423 p1.2).bind fun p3 =>
  if p3.1 = 0 then
  ((fX10_isSign v0 41 p3.2).bind fun p5 =>
  if p5.1 = 0 then
  (fX10_reads_b399 n v0 v1 p5.2)
  else
  (if v1 ≤ 0 then
  (fX10_reads_b399 n v0 v1 p5.2)
  else
  ((fX10_puts v0 29 p5.2).bind fun h8 =>
  fX10_reads_b379 n K11 n v0 (v1 + (-1)) v2 h8)))
  else
  (fX10_reads_b324 n K11 v0 v1 p3.2))
  else
  (fX10_reads_b324 n K11 v0 v1 p1.2)
set_option maxHeartbeats 4000000 in
set_option maxRecDepth 100000 in
theorem okX10_reads_b304 {l : Launch} {n : Nat} {K11 : Nat → Int32 → Int32 → qH → Option (Int32 × qH)} {v0 : Nat} {v1 : Int32} {v2 : Int32} {h : qH} {r : Int32} {h' : qH} (hK11 : ∀ (v0 : Nat) (v1 : Int32) (v2 : Int32) (h : qH), K11 v0 v1 v2 h = some (r, h') → q_W l 3 yX10_reads cX10_reads 6 (some .boolean) (some (.int r)) h' 11 [(0, .ref v0), (1, .int v1), (2, .int v2)] [] h) (hyp : fX10_reads_b304 n K11 v0 v1 v2 h = some (r, h')) : q_W l 3 yX10_reads cX10_reads 6 (some .boolean) (some (.int r)) h' 304 [(0, .ref v0), (1, .int v1), (2, .int v2)] [] h := by
  unfold fX10_reads_b304 at hyp
  refine q_aload_n 0 rfl dX10_reads_304 ?_
  refine q_ldc2 kK_X10_209 dX10_reads_305 ?_
  refine q_bind hyp (fun p1 e12 hyp => ?_)
  refine q_callV (as := [.long 1111]) (st := []) kY_X10_isWord kL_X10_192 (okX10_isWord (l := l) e12) (by decide) rfl (obX10_isWord e12) (Nat.le_of_ble_eq_true rfl) dX10_reads_308 ?_
  refine q_to (ls' := [(0, .ref v0), (1, .int v1), (2, .int v2)]) (st' := [.int p1.1]) rfl rfl ?_
  refine q_if_ne (tgt := 324) dX10_reads_311 (by decide) (fun c2 => ?_) (fun c2 => ?_)
  · have hyp := q_neg c2 hyp
    exact q_sub [0, 1] rfl (okX10_reads_b324 hK11 hyp)
  · have hyp := q_pos c2 hyp
    refine q_aload_n 0 rfl dX10_reads_314 ?_
    refine q_ldc2 kK_X10_211 dX10_reads_315 ?_
    refine q_bind hyp (fun p3 e11 hyp => ?_)
    refine q_callV (as := [.long 423]) (st := []) kY_X10_isWord kL_X10_192 (okX10_isWord (l := l) e11) (by decide) rfl (obX10_isWord e11) (Nat.le_of_ble_eq_true rfl) dX10_reads_318 ?_
    refine q_to (ls' := [(0, .ref v0), (1, .int v1), (2, .int v2)]) (st' := [.int p3.1]) rfl rfl ?_
    refine q_if_eq (tgt := 357) dX10_reads_321 (by decide) (fun c4 => ?_) (fun c4 => ?_)
    · have hyp := q_pos c4 hyp
      refine q_aload_n 0 rfl dX10_reads_357 ?_
      refine q_bipush (x := 41) (by decide) dX10_reads_358 ?_
      refine q_bind hyp (fun p5 e10 hyp => ?_)
      refine q_callV (as := [.int 41]) (st := []) kY_X10_isSign kL_X10_196 (okX10_isSign (l := l) e10) (by decide) rfl (obX10_isSign e10) (Nat.le_of_ble_eq_true rfl) dX10_reads_360 ?_
      refine q_to (ls' := [(0, .ref v0), (1, .int v1), (2, .int v2)]) (st' := [.int p5.1]) rfl rfl ?_
      refine q_if_eq (tgt := 399) dX10_reads_363 (by decide) (fun c6 => ?_) (fun c6 => ?_)
      · have hyp := q_pos c6 hyp
        exact q_sub [0, 1] rfl (okX10_reads_b399 hyp)
      · have hyp := q_neg c6 hyp
        refine q_iload_n 1 rfl dX10_reads_366 ?_
        refine q_if_le (tgt := 399) dX10_reads_367 (by decide) (fun c7 => ?_) (fun c7 => ?_)
        · have hyp := q_pos c7 hyp
          exact q_sub [0, 1] rfl (okX10_reads_b399 hyp)
        · have hyp := q_neg c7 hyp
          refine q_aload_n 0 rfl dX10_reads_370 ?_
          refine q_bipush (x := 29) (by decide) dX10_reads_371 ?_
          refine q_bind hyp (fun h8 e9 hyp => ?_)
          refine q_callV (as := [.int 29]) (st := []) kY_X10_puts kL_X10_203 (okX10_puts (l := l) e9) (by decide) rfl (obX10_puts e9) (Nat.le_of_ble_eq_true rfl) dX10_reads_373 ?_
          refine q_to (ls' := [(0, .ref v0), (1, .int v1), (2, .int v2)]) (st' := []) rfl rfl ?_
          refine q_iinc (ls' := [(1, .int (v1 + (-1))), (0, .ref v0), (2, .int v2)]) 1 rfl (by rw [show Int32.ofInt (-1) = (-1 : Int32) by decide]) (by decide) rfl dX10_reads_376 ?_
          exact q_sub [1, 0, 2] rfl (okX10_reads_b379 hK11 _ v0 (v1 + (-1)) v2 h8 hyp)
    · have hyp := q_neg c4 hyp
      exact q_sub [0, 1] rfl (okX10_reads_b324 hK11 hyp)
def fX10_reads_b289 (n : Nat) (K11 : Nat → Int32 → Int32 → qH → Option (Int32 × qH)) (v0 : Nat) (v1 : Int32) (s0 : Int32) (s1 : Nat) (h : qH) : Option (Int32 × qH) :=
  (fX10_puts s1 s0 h).bind fun h1 =>
  (gR h1 v0 10 22).bind fun x2 =>
  (sI .boolean h1 x2 v1 1).bind fun h4 =>
  fX10_reads_b424 n K11 v0 v1 1 h4
set_option maxHeartbeats 4000000 in
set_option maxRecDepth 100000 in
theorem okX10_reads_b289 {l : Launch} {n : Nat} {K11 : Nat → Int32 → Int32 → qH → Option (Int32 × qH)} {v0 : Nat} {v1 : Int32} {s0 : Int32} {s1 : Nat} {h : qH} {r : Int32} {h' : qH} (hK11 : ∀ (v0 : Nat) (v1 : Int32) (v2 : Int32) (h : qH), K11 v0 v1 v2 h = some (r, h') → q_W l 3 yX10_reads cX10_reads 6 (some .boolean) (some (.int r)) h' 11 [(0, .ref v0), (1, .int v1), (2, .int v2)] [] h) (hyp : fX10_reads_b289 n K11 v0 v1 s0 s1 h = some (r, h')) : q_W l 3 yX10_reads cX10_reads 6 (some .boolean) (some (.int r)) h' 289 [(0, .ref v0), (1, .int v1)] [.int s0, .ref s1] h := by
  unfold fX10_reads_b289 at hyp
  refine q_bind hyp (fun h1 e6 hyp => ?_)
  refine q_callV (as := [.int s0]) (st := []) kY_X10_puts kL_X10_203 (okX10_puts (l := l) e6) (by decide) rfl (obX10_puts e6) (Nat.le_of_ble_eq_true rfl) dX10_reads_289 ?_
  refine q_to (ls' := [(0, .ref v0), (1, .int v1)]) (st' := []) rfl rfl ?_
  refine q_aload_n 0 rfl dX10_reads_292 ?_
  refine q_bind hyp (fun x2 e3 hyp => ?_)
  refine q_getR kF_X10_44 dX10_reads_293 e3 ?_
  refine q_iload_n 1 rfl dX10_reads_296 ?_
  refine q_iconst (x := 1) rfl dX10_reads_297 ?_
  refine q_bind hyp (fun h4 e5 hyp => ?_)
  refine q_zast dX10_reads_298 e5 ?_
  refine q_iconst (x := 1) rfl dX10_reads_299 ?_
  refine q_istore_n (ls' := [(2, .int 1), (0, .ref v0), (1, .int v1)]) (by decide) rfl dX10_reads_300 ?_
  refine q_goto (tgt := 424) dX10_reads_301 (by decide) ?_
  exact q_sub [1, 2, 0] rfl (okX10_reads_b424 hK11 hyp)
def fX10_reads_b263 (n : Nat) (K11 : Nat → Int32 → Int32 → qH → Option (Int32 × qH)) (v0 : Nat) (v1 : Int32) (v2 : Int32) (h : qH) : Option (Int32 × qH) :=
  (gR h v0 10 22).bind fun x1 =>
  (aI .boolean h x1 v1).bind fun x3 =>
  if x3 = 0 then
  ((fX10_isSign v0 60 h).bind fun p6 =>
  if p6.1 = 0 then
  (fX10_reads_b289 n K11 v0 v1 25 v0 p6.2)
  else
  (fX10_reads_b289 n K11 v0 v1 24 v0 p6.2))
  else
  (fX10_reads_b304 n K11 v0 v1 v2 h)
set_option maxHeartbeats 4000000 in
set_option maxRecDepth 100000 in
theorem okX10_reads_b263 {l : Launch} {n : Nat} {K11 : Nat → Int32 → Int32 → qH → Option (Int32 × qH)} {v0 : Nat} {v1 : Int32} {v2 : Int32} {h : qH} {r : Int32} {h' : qH} (hK11 : ∀ (v0 : Nat) (v1 : Int32) (v2 : Int32) (h : qH), K11 v0 v1 v2 h = some (r, h') → q_W l 3 yX10_reads cX10_reads 6 (some .boolean) (some (.int r)) h' 11 [(0, .ref v0), (1, .int v1), (2, .int v2)] [] h) (hyp : fX10_reads_b263 n K11 v0 v1 v2 h = some (r, h')) : q_W l 3 yX10_reads cX10_reads 6 (some .boolean) (some (.int r)) h' 263 [(0, .ref v0), (1, .int v1), (2, .int v2)] [] h := by
  unfold fX10_reads_b263 at hyp
  refine q_aload_n 0 rfl dX10_reads_263 ?_
  refine q_bind hyp (fun x1 e2 hyp => ?_)
  refine q_getR kF_X10_44 dX10_reads_264 e2 ?_
  refine q_iload_n 1 rfl dX10_reads_267 ?_
  refine q_bind hyp (fun x3 e4 hyp => ?_)
  refine q_zald dX10_reads_268 e4 ?_
  refine q_if_ne (tgt := 304) dX10_reads_269 (by decide) (fun c5 => ?_) (fun c5 => ?_)
  · have hyp := q_neg c5 hyp
    exact q_sub [0, 1, 2] rfl (okX10_reads_b304 hK11 hyp)
  · have hyp := q_pos c5 hyp
    refine q_aload_n 0 rfl dX10_reads_272 ?_
    refine q_aload_n 0 rfl dX10_reads_273 ?_
    refine q_bipush (x := 60) (by decide) dX10_reads_274 ?_
    refine q_bind hyp (fun p6 e8 hyp => ?_)
    refine q_callV (as := [.int 60]) (st := [.ref v0]) kY_X10_isSign kL_X10_196 (okX10_isSign (l := l) e8) (by decide) rfl (obX10_isSign e8) (Nat.le_of_ble_eq_true rfl) dX10_reads_276 ?_
    refine q_to (ls' := [(0, .ref v0), (1, .int v1), (2, .int v2)]) (st' := [.int p6.1, .ref v0]) rfl rfl ?_
    refine q_if_eq (tgt := 287) dX10_reads_279 (by decide) (fun c7 => ?_) (fun c7 => ?_)
    · have hyp := q_pos c7 hyp
      refine q_bipush (x := 25) (by decide) dX10_reads_287 ?_
      exact q_sub [0, 1] rfl (okX10_reads_b289 hK11 hyp)
    · have hyp := q_neg c7 hyp
      refine q_bipush (x := 24) (by decide) dX10_reads_282 ?_
      refine q_goto (tgt := 289) dX10_reads_284 (by decide) ?_
      exact q_sub [0, 1] rfl (okX10_reads_b289 hK11 hyp)
def fX10_reads_b237 (n : Nat) (K11 : Nat → Int32 → Int32 → qH → Option (Int32 × qH)) (v0 : Nat) (v1 : Int32) (s0 : Int32) (s1 : Nat) (h : qH) : Option (Int32 × qH) :=
  (fX10_puts s1 s0 h).bind fun h1 =>
  fX10_reads_b424 n K11 v0 v1 1 h1
set_option maxHeartbeats 4000000 in
set_option maxRecDepth 100000 in
theorem okX10_reads_b237 {l : Launch} {n : Nat} {K11 : Nat → Int32 → Int32 → qH → Option (Int32 × qH)} {v0 : Nat} {v1 : Int32} {s0 : Int32} {s1 : Nat} {h : qH} {r : Int32} {h' : qH} (hK11 : ∀ (v0 : Nat) (v1 : Int32) (v2 : Int32) (h : qH), K11 v0 v1 v2 h = some (r, h') → q_W l 3 yX10_reads cX10_reads 6 (some .boolean) (some (.int r)) h' 11 [(0, .ref v0), (1, .int v1), (2, .int v2)] [] h) (hyp : fX10_reads_b237 n K11 v0 v1 s0 s1 h = some (r, h')) : q_W l 3 yX10_reads cX10_reads 6 (some .boolean) (some (.int r)) h' 237 [(0, .ref v0), (1, .int v1)] [.int s0, .ref s1] h := by
  unfold fX10_reads_b237 at hyp
  refine q_bind hyp (fun h1 e2 hyp => ?_)
  refine q_callV (as := [.int s0]) (st := []) kY_X10_puts kL_X10_203 (okX10_puts (l := l) e2) (by decide) rfl (obX10_puts e2) (Nat.le_of_ble_eq_true rfl) dX10_reads_237 ?_
  refine q_to (ls' := [(0, .ref v0), (1, .int v1)]) (st' := []) rfl rfl ?_
  refine q_iconst (x := 1) rfl dX10_reads_240 ?_
  refine q_istore_n (ls' := [(2, .int 1), (0, .ref v0), (1, .int v1)]) (by decide) rfl dX10_reads_241 ?_
  refine q_goto (tgt := 424) dX10_reads_242 (by decide) ?_
  exact q_sub [1, 2, 0] rfl (okX10_reads_b424 hK11 hyp)
def fX10_reads_b206 (n : Nat) (K11 : Nat → Int32 → Int32 → qH → Option (Int32 × qH)) (v0 : Nat) (v1 : Int32) (h : qH) : Option (Int32 × qH) :=
  (fX10_isSign v0 43 h).bind fun p1 =>
  if p1.1 = 0 then
  ((fX10_isSign v0 45 p1.2).bind fun p3 =>
  if p3.1 = 0 then
  (fX10_reads_b237 n K11 v0 v1 22 v0 p3.2)
  else
  (fX10_reads_b237 n K11 v0 v1 21 v0 p3.2))
  else
  (fX10_reads_b237 n K11 v0 v1 20 v0 p1.2)
set_option maxHeartbeats 4000000 in
set_option maxRecDepth 100000 in
theorem okX10_reads_b206 {l : Launch} {n : Nat} {K11 : Nat → Int32 → Int32 → qH → Option (Int32 × qH)} {v0 : Nat} {v1 : Int32} {h : qH} {r : Int32} {h' : qH} (hK11 : ∀ (v0 : Nat) (v1 : Int32) (v2 : Int32) (h : qH), K11 v0 v1 v2 h = some (r, h') → q_W l 3 yX10_reads cX10_reads 6 (some .boolean) (some (.int r)) h' 11 [(0, .ref v0), (1, .int v1), (2, .int v2)] [] h) (hyp : fX10_reads_b206 n K11 v0 v1 h = some (r, h')) : q_W l 3 yX10_reads cX10_reads 6 (some .boolean) (some (.int r)) h' 206 [(0, .ref v0), (1, .int v1)] [] h := by
  unfold fX10_reads_b206 at hyp
  refine q_aload_n 0 rfl dX10_reads_206 ?_
  refine q_aload_n 0 rfl dX10_reads_207 ?_
  refine q_bipush (x := 43) (by decide) dX10_reads_208 ?_
  refine q_bind hyp (fun p1 e6 hyp => ?_)
  refine q_callV (as := [.int 43]) (st := [.ref v0]) kY_X10_isSign kL_X10_196 (okX10_isSign (l := l) e6) (by decide) rfl (obX10_isSign e6) (Nat.le_of_ble_eq_true rfl) dX10_reads_210 ?_
  refine q_to (ls' := [(0, .ref v0), (1, .int v1)]) (st' := [.int p1.1, .ref v0]) rfl rfl ?_
  refine q_if_eq (tgt := 221) dX10_reads_213 (by decide) (fun c2 => ?_) (fun c2 => ?_)
  · have hyp := q_pos c2 hyp
    refine q_aload_n 0 rfl dX10_reads_221 ?_
    refine q_bipush (x := 45) (by decide) dX10_reads_222 ?_
    refine q_bind hyp (fun p3 e5 hyp => ?_)
    refine q_callV (as := [.int 45]) (st := [.ref v0]) kY_X10_isSign kL_X10_196 (okX10_isSign (l := l) e5) (by decide) rfl (obX10_isSign e5) (Nat.le_of_ble_eq_true rfl) dX10_reads_224 ?_
    refine q_to (ls' := [(0, .ref v0), (1, .int v1)]) (st' := [.int p3.1, .ref v0]) rfl rfl ?_
    refine q_if_eq (tgt := 235) dX10_reads_227 (by decide) (fun c4 => ?_) (fun c4 => ?_)
    · have hyp := q_pos c4 hyp
      refine q_bipush (x := 22) (by decide) dX10_reads_235 ?_
      exact q_sub [0, 1] rfl (okX10_reads_b237 hK11 hyp)
    · have hyp := q_neg c4 hyp
      refine q_bipush (x := 21) (by decide) dX10_reads_230 ?_
      refine q_goto (tgt := 237) dX10_reads_232 (by decide) ?_
      exact q_sub [0, 1] rfl (okX10_reads_b237 hK11 hyp)
  · have hyp := q_neg c2 hyp
    refine q_bipush (x := 20) (by decide) dX10_reads_216 ?_
    refine q_goto (tgt := 237) dX10_reads_218 (by decide) ?_
    exact q_sub [0, 1] rfl (okX10_reads_b237 hK11 hyp)
def fX10_reads_b172 (n : Nat) (K11 : Nat → Int32 → Int32 → qH → Option (Int32 × qH)) (v0 : Nat) (v1 : Int32) (v2 : Int32) (h : qH) : Option (Int32 × qH) :=
  (fX10_nextToken n v0 h).bind fun h1 =>
  K11 v0 v1 v2 h1
set_option maxHeartbeats 4000000 in
set_option maxRecDepth 100000 in
theorem okX10_reads_b172 {l : Launch} {n : Nat} {K11 : Nat → Int32 → Int32 → qH → Option (Int32 × qH)} {v0 : Nat} {v1 : Int32} {v2 : Int32} {h : qH} {r : Int32} {h' : qH} (hK11 : ∀ (v0 : Nat) (v1 : Int32) (v2 : Int32) (h : qH), K11 v0 v1 v2 h = some (r, h') → q_W l 3 yX10_reads cX10_reads 6 (some .boolean) (some (.int r)) h' 11 [(0, .ref v0), (1, .int v1), (2, .int v2)] [] h) (hyp : fX10_reads_b172 n K11 v0 v1 v2 h = some (r, h')) : q_W l 3 yX10_reads cX10_reads 6 (some .boolean) (some (.int r)) h' 172 [(0, .ref v0), (1, .int v1), (2, .int v2)] [] h := by
  unfold fX10_reads_b172 at hyp
  refine q_aload_n 0 rfl dX10_reads_172 ?_
  refine q_bind hyp (fun h1 e2 hyp => ?_)
  refine q_callV (as := []) (st := []) kY_X10_nextToken kL_X10_206 (okX10_nextToken (l := l) e2) (by decide) rfl (obX10_nextToken e2) (Nat.le_of_ble_eq_true rfl) dX10_reads_173 ?_
  refine q_to (ls' := [(0, .ref v0), (1, .int v1), (2, .int v2)]) (st' := []) rfl rfl ?_
  refine q_goto (tgt := 11) dX10_reads_176 (by decide) ?_
  exact q_sub [0, 1, 2] rfl (hK11 v0 v1 v2 h1 hyp)
def fX10_reads_b152 (n : Nat) (K11 : Nat → Int32 → Int32 → qH → Option (Int32 × qH)) : Nat → Nat → Int32 → Int32 → qH → Option (Int32 × qH)
  | 0, _, _, _, _ => none
  | w + 1, v0, v1, v2, h =>
    if v1 ≤ 0 then
    (fX10_reads_b172 n K11 v0 v1 v2 h)
    else
    ((gR h v0 10 21).bind fun x2 =>
    (aI .int h x2 v1).bind fun x4 =>
    if x4 = 1 then
    (fX10_reads_b152 n K11 w v0 (v1 + (-1)) v2 h)
    else
    (fX10_reads_b172 n K11 v0 v1 v2 h))
set_option maxHeartbeats 4000000 in
set_option maxRecDepth 100000 in
theorem okX10_reads_b152 {l : Launch} {n : Nat} {K11 : Nat → Int32 → Int32 → qH → Option (Int32 × qH)} {r : Int32} {h' : qH} (hK11 : ∀ (v0 : Nat) (v1 : Int32) (v2 : Int32) (h : qH), K11 v0 v1 v2 h = some (r, h') → q_W l 3 yX10_reads cX10_reads 6 (some .boolean) (some (.int r)) h' 11 [(0, .ref v0), (1, .int v1), (2, .int v2)] [] h) : ∀ (w : Nat) (v0 : Nat) (v1 : Int32) (v2 : Int32) (h : qH), fX10_reads_b152 n K11 w v0 v1 v2 h = some (r, h') → q_W l 3 yX10_reads cX10_reads 6 (some .boolean) (some (.int r)) h' 152 [(0, .ref v0), (1, .int v1), (2, .int v2)] [] h := by
  intro w
  induction w with
  | zero => intro v0 v1 v2 h hyp; cases hyp
  | succ w ih =>
    intro v0 v1 v2 h hyp
    unfold fX10_reads_b152 at hyp
    refine q_iload_n 1 rfl dX10_reads_152 ?_
    refine q_if_le (tgt := 172) dX10_reads_153 (by decide) (fun c1 => ?_) (fun c1 => ?_)
    · have hyp := q_pos c1 hyp
      exact q_sub [0, 1, 2] rfl (okX10_reads_b172 hK11 hyp)
    · have hyp := q_neg c1 hyp
      refine q_aload_n 0 rfl dX10_reads_156 ?_
      refine q_bind hyp (fun x2 e3 hyp => ?_)
      refine q_getR kF_X10_41 dX10_reads_157 e3 ?_
      refine q_iload_n 1 rfl dX10_reads_160 ?_
      refine q_bind hyp (fun x4 e5 hyp => ?_)
      refine q_iald dX10_reads_161 e5 ?_
      refine q_iconst (x := 1) rfl dX10_reads_162 ?_
      refine q_icmp_ne (tgt := 172) dX10_reads_163 (by decide) (fun c6 => ?_) (fun c6 => ?_)
      · have hyp := q_neg c6 hyp
        exact q_sub [0, 1, 2] rfl (okX10_reads_b172 hK11 hyp)
      · have hyp := q_pos c6 hyp
        refine q_iinc (ls' := [(1, .int (v1 + (-1))), (0, .ref v0), (2, .int v2)]) 1 rfl (by rw [show Int32.ofInt (-1) = (-1 : Int32) by decide]) (by decide) rfl dX10_reads_166 ?_
        refine q_goto (tgt := 152) dX10_reads_169 (by decide) ?_
        exact q_sub [1, 0, 2] rfl (ih v0 (v1 + (-1)) v2 h hyp)
def fX10_reads_b147 (n : Nat) (K11 : Nat → Int32 → Int32 → qH → Option (Int32 × qH)) (v0 : Nat) (v1 : Int32) (s0 : Int32) (s1 : Nat) (h : qH) : Option (Int32 × qH) :=
  (fX10_puts s1 s0 h).bind fun h1 =>
  fX10_reads_b152 n K11 n v0 v1 0 h1
set_option maxHeartbeats 4000000 in
set_option maxRecDepth 100000 in
theorem okX10_reads_b147 {l : Launch} {n : Nat} {K11 : Nat → Int32 → Int32 → qH → Option (Int32 × qH)} {v0 : Nat} {v1 : Int32} {s0 : Int32} {s1 : Nat} {h : qH} {r : Int32} {h' : qH} (hK11 : ∀ (v0 : Nat) (v1 : Int32) (v2 : Int32) (h : qH), K11 v0 v1 v2 h = some (r, h') → q_W l 3 yX10_reads cX10_reads 6 (some .boolean) (some (.int r)) h' 11 [(0, .ref v0), (1, .int v1), (2, .int v2)] [] h) (hyp : fX10_reads_b147 n K11 v0 v1 s0 s1 h = some (r, h')) : q_W l 3 yX10_reads cX10_reads 6 (some .boolean) (some (.int r)) h' 147 [(0, .ref v0), (1, .int v1)] [.int s0, .ref s1] h := by
  unfold fX10_reads_b147 at hyp
  refine q_bind hyp (fun h1 e2 hyp => ?_)
  refine q_callV (as := [.int s0]) (st := []) kY_X10_puts kL_X10_203 (okX10_puts (l := l) e2) (by decide) rfl (obX10_puts e2) (Nat.le_of_ble_eq_true rfl) dX10_reads_147 ?_
  refine q_to (ls' := [(0, .ref v0), (1, .int v1)]) (st' := []) rfl rfl ?_
  refine q_iconst (x := 0) rfl dX10_reads_150 ?_
  refine q_istore_n (ls' := [(2, .int 0), (0, .ref v0), (1, .int v1)]) (by decide) rfl dX10_reads_151 ?_
  exact q_sub [1, 2, 0] rfl (okX10_reads_b152 hK11 _ v0 v1 0 h1 hyp)
def fX10_reads_b120 (n : Nat) (K11 : Nat → Int32 → Int32 → qH → Option (Int32 × qH)) (v0 : Nat) (v1 : Int32) (v2 : Int32) (s0 : Int32) (s1 : Int32) (s2 : Nat) (h : qH) : Option (Int32 × qH) :=
  (sI .int h s2 s1 s0).bind fun h1 =>
  (gR h1 v0 10 22).bind fun x3 =>
  (sI .boolean h1 x3 v1 0).bind fun h5 =>
  fX10_reads_b172 n K11 v0 v1 v2 h5
set_option maxHeartbeats 4000000 in
set_option maxRecDepth 100000 in
theorem okX10_reads_b120 {l : Launch} {n : Nat} {K11 : Nat → Int32 → Int32 → qH → Option (Int32 × qH)} {v0 : Nat} {v1 : Int32} {v2 : Int32} {s0 : Int32} {s1 : Int32} {s2 : Nat} {h : qH} {r : Int32} {h' : qH} (hK11 : ∀ (v0 : Nat) (v1 : Int32) (v2 : Int32) (h : qH), K11 v0 v1 v2 h = some (r, h') → q_W l 3 yX10_reads cX10_reads 6 (some .boolean) (some (.int r)) h' 11 [(0, .ref v0), (1, .int v1), (2, .int v2)] [] h) (hyp : fX10_reads_b120 n K11 v0 v1 v2 s0 s1 s2 h = some (r, h')) : q_W l 3 yX10_reads cX10_reads 6 (some .boolean) (some (.int r)) h' 120 [(0, .ref v0), (1, .int v1), (2, .int v2)] [.int s0, .int s1, .ref s2] h := by
  unfold fX10_reads_b120 at hyp
  refine q_bind hyp (fun h1 e2 hyp => ?_)
  refine q_iast dX10_reads_120 e2 ?_
  refine q_aload_n 0 rfl dX10_reads_121 ?_
  refine q_bind hyp (fun x3 e4 hyp => ?_)
  refine q_getR kF_X10_44 dX10_reads_122 e4 ?_
  refine q_iload_n 1 rfl dX10_reads_125 ?_
  refine q_iconst (x := 0) rfl dX10_reads_126 ?_
  refine q_bind hyp (fun h5 e6 hyp => ?_)
  refine q_zast dX10_reads_127 e6 ?_
  refine q_goto (tgt := 172) dX10_reads_128 (by decide) ?_
  exact q_sub [0, 1, 2] rfl (okX10_reads_b172 hK11 hyp)
def fX10_reads_b99 (n : Nat) (K11 : Nat → Int32 → Int32 → qH → Option (Int32 × qH)) (v0 : Nat) (v1 : Int32) (v2 : Int32) (v4 : Int32) (s0 : Int32) (s1 : Nat) (h : qH) : Option (Int32 × qH) :=
  (fX10_puts s1 s0 h).bind fun h1 =>
  (gR h1 v0 10 21).bind fun x2 =>
  if v4 = 0 then
  (fX10_reads_b120 n K11 v0 (v1 + 1) v2 2 (v1 + 1) x2 h1)
  else
  (fX10_reads_b120 n K11 v0 (v1 + 1) v2 1 (v1 + 1) x2 h1)
set_option maxHeartbeats 4000000 in
set_option maxRecDepth 100000 in
theorem okX10_reads_b99 {l : Launch} {n : Nat} {K11 : Nat → Int32 → Int32 → qH → Option (Int32 × qH)} {v0 : Nat} {v1 : Int32} {v2 : Int32} {v4 : Int32} {s0 : Int32} {s1 : Nat} {h : qH} {r : Int32} {h' : qH} (hK11 : ∀ (v0 : Nat) (v1 : Int32) (v2 : Int32) (h : qH), K11 v0 v1 v2 h = some (r, h') → q_W l 3 yX10_reads cX10_reads 6 (some .boolean) (some (.int r)) h' 11 [(0, .ref v0), (1, .int v1), (2, .int v2)] [] h) (hyp : fX10_reads_b99 n K11 v0 v1 v2 v4 s0 s1 h = some (r, h')) : q_W l 3 yX10_reads cX10_reads 6 (some .boolean) (some (.int r)) h' 99 [(0, .ref v0), (1, .int v1), (2, .int v2), (4, .int v4)] [.int s0, .ref s1] h := by
  unfold fX10_reads_b99 at hyp
  refine q_bind hyp (fun h1 e5 hyp => ?_)
  refine q_callV (as := [.int s0]) (st := []) kY_X10_puts kL_X10_203 (okX10_puts (l := l) e5) (by decide) rfl (obX10_puts e5) (Nat.le_of_ble_eq_true rfl) dX10_reads_99 ?_
  refine q_to (ls' := [(0, .ref v0), (1, .int v1), (2, .int v2), (4, .int v4)]) (st' := []) rfl rfl ?_
  refine q_iinc (ls' := [(1, .int (v1 + 1)), (0, .ref v0), (2, .int v2), (4, .int v4)]) 1 rfl rfl (by decide) rfl dX10_reads_102 ?_
  refine q_aload_n 1 rfl dX10_reads_105 ?_
  refine q_bind hyp (fun x2 e3 hyp => ?_)
  refine q_getR kF_X10_41 dX10_reads_106 e3 ?_
  refine q_iload_n 0 rfl dX10_reads_109 ?_
  refine q_iload 3 rfl dX10_reads_110 ?_
  refine q_if_eq (tgt := 119) dX10_reads_112 (by decide) (fun c4 => ?_) (fun c4 => ?_)
  · have hyp := q_pos c4 hyp
    refine q_iconst (x := 2) rfl dX10_reads_119 ?_
    exact q_sub [1, 0, 2] rfl (okX10_reads_b120 hK11 hyp)
  · have hyp := q_neg c4 hyp
    refine q_iconst (x := 1) rfl dX10_reads_115 ?_
    refine q_goto (tgt := 120) dX10_reads_116 (by decide) ?_
    exact q_sub [1, 0, 2] rfl (okX10_reads_b120 hK11 hyp)
def fX10_reads_b86 (n : Nat) (K11 : Nat → Int32 → Int32 → qH → Option (Int32 × qH)) (v0 : Nat) (v1 : Int32) (v2 : Int32) (v4 : Int32) (h : qH) : Option (Int32 × qH) :=
  if v4 = 0 then
  (fX10_reads_b99 n K11 v0 v1 v2 v4 28 v0 h)
  else
  (fX10_reads_b99 n K11 v0 v1 v2 v4 30 v0 h)
set_option maxHeartbeats 4000000 in
set_option maxRecDepth 100000 in
theorem okX10_reads_b86 {l : Launch} {n : Nat} {K11 : Nat → Int32 → Int32 → qH → Option (Int32 × qH)} {v0 : Nat} {v1 : Int32} {v2 : Int32} {v4 : Int32} {h : qH} {r : Int32} {h' : qH} (hK11 : ∀ (v0 : Nat) (v1 : Int32) (v2 : Int32) (h : qH), K11 v0 v1 v2 h = some (r, h') → q_W l 3 yX10_reads cX10_reads 6 (some .boolean) (some (.int r)) h' 11 [(0, .ref v0), (1, .int v1), (2, .int v2)] [] h) (hyp : fX10_reads_b86 n K11 v0 v1 v2 v4 h = some (r, h')) : q_W l 3 yX10_reads cX10_reads 6 (some .boolean) (some (.int r)) h' 86 [(0, .ref v0), (1, .int v1), (2, .int v2), (4, .int v4)] [] h := by
  unfold fX10_reads_b86 at hyp
  refine q_aload_n 0 rfl dX10_reads_86 ?_
  refine q_iload 3 rfl dX10_reads_87 ?_
  refine q_if_eq (tgt := 97) dX10_reads_89 (by decide) (fun c1 => ?_) (fun c1 => ?_)
  · have hyp := q_pos c1 hyp
    refine q_bipush (x := 28) (by decide) dX10_reads_97 ?_
    exact q_sub [0, 1, 2, 3] rfl (okX10_reads_b99 hK11 hyp)
  · have hyp := q_neg c1 hyp
    refine q_bipush (x := 30) (by decide) dX10_reads_92 ?_
    refine q_goto (tgt := 99) dX10_reads_94 (by decide) ?_
    exact q_sub [0, 1, 2, 3] rfl (okX10_reads_b99 hK11 hyp)
def fX10_reads_b65 (n : Nat) (K11 : Nat → Int32 → Int32 → qH → Option (Int32 × qH)) (v0 : Nat) (v1 : Int32) (v2 : Int32) (v3 : Int32) (v4 : Int32) (v5 : Int32) (h : qH) : Option (Int32 × qH) :=
  if v1 = 5 then
  ((fX10_fails v0 5 h).bind fun p7 =>
  (qB p7.1).bind fun _ =>
  some (p7.1, p7.2))
  else
  (if v4 = 0 then
  (if v5 = 0 then
  (if v3 ≤ 0 then
  ((gI h v0 10 8).bind fun x5 =>
  fX10_reads_b147 n K11 v0 v1 (100 + x5) v0 h)
  else
  (fX10_reads_b147 n K11 v0 v1 v3 v0 h))
  else
  (fX10_reads_b86 n K11 v0 v1 v2 v4 h))
  else
  (fX10_reads_b86 n K11 v0 v1 v2 v4 h))
set_option maxHeartbeats 4000000 in
set_option maxRecDepth 100000 in
theorem okX10_reads_b65 {l : Launch} {n : Nat} {K11 : Nat → Int32 → Int32 → qH → Option (Int32 × qH)} {v0 : Nat} {v1 : Int32} {v2 : Int32} {v3 : Int32} {v4 : Int32} {v5 : Int32} {h : qH} {r : Int32} {h' : qH} (hK11 : ∀ (v0 : Nat) (v1 : Int32) (v2 : Int32) (h : qH), K11 v0 v1 v2 h = some (r, h') → q_W l 3 yX10_reads cX10_reads 6 (some .boolean) (some (.int r)) h' 11 [(0, .ref v0), (1, .int v1), (2, .int v2)] [] h) (hyp : fX10_reads_b65 n K11 v0 v1 v2 v3 v4 v5 h = some (r, h')) : q_W l 3 yX10_reads cX10_reads 6 (some .boolean) (some (.int r)) h' 65 [(0, .ref v0), (1, .int v1), (2, .int v2), (3, .int v3), (4, .int v4), (5, .int v5)] [] h := by
  unfold fX10_reads_b65 at hyp
  refine q_iload_n 1 rfl dX10_reads_65 ?_
  refine q_iconst (x := 5) rfl dX10_reads_66 ?_
  refine q_icmp_ne (tgt := 76) dX10_reads_67 (by decide) (fun c1 => ?_) (fun c1 => ?_)
  · have hyp := q_neg c1 hyp
    refine q_iload 4 rfl dX10_reads_76 ?_
    refine q_if_ne (tgt := 86) dX10_reads_78 (by decide) (fun c2 => ?_) (fun c2 => ?_)
    · have hyp := q_neg c2 hyp
      exact q_sub [0, 1, 2, 4] rfl (okX10_reads_b86 hK11 hyp)
    · have hyp := q_pos c2 hyp
      refine q_iload 5 rfl dX10_reads_81 ?_
      refine q_if_eq (tgt := 131) dX10_reads_83 (by decide) (fun c3 => ?_) (fun c3 => ?_)
      · have hyp := q_pos c3 hyp
        refine q_aload_n 0 rfl dX10_reads_131 ?_
        refine q_iload_n 3 rfl dX10_reads_132 ?_
        refine q_if_le (tgt := 140) dX10_reads_133 (by decide) (fun c4 => ?_) (fun c4 => ?_)
        · have hyp := q_pos c4 hyp
          refine q_bipush (x := 100) (by decide) dX10_reads_140 ?_
          refine q_aload_n 0 rfl dX10_reads_142 ?_
          refine q_bind hyp (fun x5 e6 hyp => ?_)
          refine q_getI kF_X10_158 dX10_reads_143 e6 ?_
          refine q_iadd dX10_reads_146 ?_
          exact q_sub [0, 1] rfl (okX10_reads_b147 hK11 hyp)
        · have hyp := q_neg c4 hyp
          refine q_iload_n 3 rfl dX10_reads_136 ?_
          refine q_goto (tgt := 147) dX10_reads_137 (by decide) ?_
          exact q_sub [0, 1] rfl (okX10_reads_b147 hK11 hyp)
      · have hyp := q_neg c3 hyp
        exact q_sub [0, 1, 2, 4] rfl (okX10_reads_b86 hK11 hyp)
  · have hyp := q_pos c1 hyp
    refine q_aload_n 0 rfl dX10_reads_70 ?_
    refine q_iconst (x := 5) rfl dX10_reads_71 ?_
    refine q_bind hyp (fun p7 e9 hyp => ?_)
    refine q_callV (as := [.int 5]) (st := []) kY_X10_fails kL_X10_200 (okX10_fails (l := l) e9) (by decide) rfl (obX10_fails e9) (Nat.le_of_ble_eq_true rfl) dX10_reads_72 ?_
    refine q_to (ls' := [(0, .ref v0), (1, .int v1), (2, .int v2), (3, .int v3), (4, .int v4), (5, .int v5)]) (st' := [.int p7.1]) rfl rfl ?_
    refine q_bind hyp (fun _ e8 hyp => ?_)
    exact q_iretH rfl (qB_some e8) dX10_reads_75 hyp
def fX10_reads_b11 (n : Nat) : Nat → Nat → Int32 → Int32 → qH → Option (Int32 × qH)
  | 0, _, _, _, _ => none
  | w + 1, v0, v1, v2, h =>
    if v2 = 0 then
    ((fX10_isSign v0 43 h).bind fun p2 =>
    if p2.1 = 0 then
    ((fX10_isSign v0 45 p2.2).bind fun p4 =>
    if p4.1 = 0 then
    ((fX10_isSign v0 42 p4.2).bind fun p6 =>
    if p6.1 = 0 then
    ((fX10_isSign v0 60 p6.2).bind fun p8 =>
    if p8.1 = 0 then
    ((fX10_isSign v0 61 p8.2).bind fun p10 =>
    if p10.1 = 0 then
    (fX10_reads_b304 n (fX10_reads_b11 n w) v0 v1 v2 p10.2)
    else
    (fX10_reads_b263 n (fX10_reads_b11 n w) v0 v1 v2 p10.2))
    else
    (fX10_reads_b263 n (fX10_reads_b11 n w) v0 v1 v2 p8.2))
    else
    (fX10_reads_b206 n (fX10_reads_b11 n w) v0 v1 p6.2))
    else
    (fX10_reads_b206 n (fX10_reads_b11 n w) v0 v1 p4.2))
    else
    (fX10_reads_b206 n (fX10_reads_b11 n w) v0 v1 p2.2))
    else
    ((fX10_fact v0 h).bind fun p17 =>
    (fX10_isWord v0 10631 p17.2).bind fun p18 =>
    (fX10_isSign v0 40 p18.2).bind fun p19 =>
    if p17.1 = 0 then
    (if p18.1 = 0 then
    (if p19.1 = 0 then
    ((gI p19.2 v0 10 6).bind fun x23 =>
    if x23 = 2 then
    (fX10_reads_b65 n (fX10_reads_b11 n w) v0 v1 v2 p17.1 p18.1 p19.1 p19.2)
    else
    ((fX10_fails v0 1 p19.2).bind fun p26 =>
    (qB p26.1).bind fun _ =>
    some (p26.1, p26.2)))
    else
    (fX10_reads_b65 n (fX10_reads_b11 n w) v0 v1 v2 p17.1 p18.1 p19.1 p19.2))
    else
    (fX10_reads_b65 n (fX10_reads_b11 n w) v0 v1 v2 p17.1 p18.1 p19.1 p19.2))
    else
    (fX10_reads_b65 n (fX10_reads_b11 n w) v0 v1 v2 p17.1 p18.1 p19.1 p19.2))
set_option maxHeartbeats 4000000 in
set_option maxRecDepth 100000 in
theorem okX10_reads_b11 {l : Launch} {n : Nat} {r : Int32} {h' : qH} : ∀ (w : Nat) (v0 : Nat) (v1 : Int32) (v2 : Int32) (h : qH), fX10_reads_b11 n w v0 v1 v2 h = some (r, h') → q_W l 3 yX10_reads cX10_reads 6 (some .boolean) (some (.int r)) h' 11 [(0, .ref v0), (1, .int v1), (2, .int v2)] [] h := by
  intro w
  induction w with
  | zero => intro v0 v1 v2 h hyp; cases hyp
  | succ w ih =>
    intro v0 v1 v2 h hyp
    unfold fX10_reads_b11 at hyp
    refine q_iload_n 2 rfl dX10_reads_11 ?_
    refine q_if_eq (tgt := 179) dX10_reads_12 (by decide) (fun c1 => ?_) (fun c1 => ?_)
    · have hyp := q_pos c1 hyp
      refine q_aload_n 0 rfl dX10_reads_179 ?_
      refine q_bipush (x := 43) (by decide) dX10_reads_180 ?_
      refine q_bind hyp (fun p2 e16 hyp => ?_)
      refine q_callV (as := [.int 43]) (st := []) kY_X10_isSign kL_X10_196 (okX10_isSign (l := l) e16) (by decide) rfl (obX10_isSign e16) (Nat.le_of_ble_eq_true rfl) dX10_reads_182 ?_
      refine q_to (ls' := [(0, .ref v0), (1, .int v1), (2, .int v2)]) (st' := [.int p2.1]) rfl rfl ?_
      refine q_if_ne (tgt := 206) dX10_reads_185 (by decide) (fun c3 => ?_) (fun c3 => ?_)
      · have hyp := q_neg c3 hyp
        exact q_sub [0, 1] rfl (okX10_reads_b206 ih hyp)
      · have hyp := q_pos c3 hyp
        refine q_aload_n 0 rfl dX10_reads_188 ?_
        refine q_bipush (x := 45) (by decide) dX10_reads_189 ?_
        refine q_bind hyp (fun p4 e15 hyp => ?_)
        refine q_callV (as := [.int 45]) (st := []) kY_X10_isSign kL_X10_196 (okX10_isSign (l := l) e15) (by decide) rfl (obX10_isSign e15) (Nat.le_of_ble_eq_true rfl) dX10_reads_191 ?_
        refine q_to (ls' := [(0, .ref v0), (1, .int v1), (2, .int v2)]) (st' := [.int p4.1]) rfl rfl ?_
        refine q_if_ne (tgt := 206) dX10_reads_194 (by decide) (fun c5 => ?_) (fun c5 => ?_)
        · have hyp := q_neg c5 hyp
          exact q_sub [0, 1] rfl (okX10_reads_b206 ih hyp)
        · have hyp := q_pos c5 hyp
          refine q_aload_n 0 rfl dX10_reads_197 ?_
          refine q_bipush (x := 42) (by decide) dX10_reads_198 ?_
          refine q_bind hyp (fun p6 e14 hyp => ?_)
          refine q_callV (as := [.int 42]) (st := []) kY_X10_isSign kL_X10_196 (okX10_isSign (l := l) e14) (by decide) rfl (obX10_isSign e14) (Nat.le_of_ble_eq_true rfl) dX10_reads_200 ?_
          refine q_to (ls' := [(0, .ref v0), (1, .int v1), (2, .int v2)]) (st' := [.int p6.1]) rfl rfl ?_
          refine q_if_eq (tgt := 245) dX10_reads_203 (by decide) (fun c7 => ?_) (fun c7 => ?_)
          · have hyp := q_pos c7 hyp
            refine q_aload_n 0 rfl dX10_reads_245 ?_
            refine q_bipush (x := 60) (by decide) dX10_reads_246 ?_
            refine q_bind hyp (fun p8 e13 hyp => ?_)
            refine q_callV (as := [.int 60]) (st := []) kY_X10_isSign kL_X10_196 (okX10_isSign (l := l) e13) (by decide) rfl (obX10_isSign e13) (Nat.le_of_ble_eq_true rfl) dX10_reads_248 ?_
            refine q_to (ls' := [(0, .ref v0), (1, .int v1), (2, .int v2)]) (st' := [.int p8.1]) rfl rfl ?_
            refine q_if_ne (tgt := 263) dX10_reads_251 (by decide) (fun c9 => ?_) (fun c9 => ?_)
            · have hyp := q_neg c9 hyp
              exact q_sub [0, 1, 2] rfl (okX10_reads_b263 ih hyp)
            · have hyp := q_pos c9 hyp
              refine q_aload_n 0 rfl dX10_reads_254 ?_
              refine q_bipush (x := 61) (by decide) dX10_reads_255 ?_
              refine q_bind hyp (fun p10 e12 hyp => ?_)
              refine q_callV (as := [.int 61]) (st := []) kY_X10_isSign kL_X10_196 (okX10_isSign (l := l) e12) (by decide) rfl (obX10_isSign e12) (Nat.le_of_ble_eq_true rfl) dX10_reads_257 ?_
              refine q_to (ls' := [(0, .ref v0), (1, .int v1), (2, .int v2)]) (st' := [.int p10.1]) rfl rfl ?_
              refine q_if_eq (tgt := 304) dX10_reads_260 (by decide) (fun c11 => ?_) (fun c11 => ?_)
              · have hyp := q_pos c11 hyp
                exact q_sub [0, 1, 2] rfl (okX10_reads_b304 ih hyp)
              · have hyp := q_neg c11 hyp
                exact q_sub [0, 1, 2] rfl (okX10_reads_b263 ih hyp)
          · have hyp := q_neg c7 hyp
            exact q_sub [0, 1] rfl (okX10_reads_b206 ih hyp)
    · have hyp := q_neg c1 hyp
      refine q_aload_n 0 rfl dX10_reads_15 ?_
      refine q_bind hyp (fun p17 e31 hyp => ?_)
      refine q_callV (as := []) (st := []) kY_X10_fact kL_X10_186 (okX10_fact (l := l) e31) (by decide) rfl (obX10_fact e31) (Nat.le_of_ble_eq_true rfl) dX10_reads_16 ?_
      refine q_to (ls' := [(0, .ref v0), (1, .int v1), (2, .int v2)]) (st' := [.int p17.1]) rfl rfl ?_
      refine q_istore_n (ls' := [(3, .int p17.1), (0, .ref v0), (1, .int v1), (2, .int v2)]) (by decide) rfl dX10_reads_19 ?_
      refine q_aload_n 1 rfl dX10_reads_20 ?_
      refine q_ldc2 kK_X10_190 dX10_reads_21 ?_
      refine q_bind hyp (fun p18 e30 hyp => ?_)
      refine q_callV (as := [.long 10631]) (st := []) kY_X10_isWord kL_X10_192 (okX10_isWord (l := l) e30) (by decide) rfl (obX10_isWord e30) (Nat.le_of_ble_eq_true rfl) dX10_reads_24 ?_
      refine q_to (ls' := [(3, .int p17.1), (0, .ref v0), (1, .int v1), (2, .int v2)]) (st' := [.int p18.1]) rfl rfl ?_
      refine q_istore (ls' := [(4, .int p18.1), (3, .int p17.1), (0, .ref v0), (1, .int v1), (2, .int v2)]) (by decide) rfl dX10_reads_27 ?_
      refine q_aload_n 2 rfl dX10_reads_29 ?_
      refine q_bipush (x := 40) (by decide) dX10_reads_30 ?_
      refine q_bind hyp (fun p19 e29 hyp => ?_)
      refine q_callV (as := [.int 40]) (st := []) kY_X10_isSign kL_X10_196 (okX10_isSign (l := l) e29) (by decide) rfl (obX10_isSign e29) (Nat.le_of_ble_eq_true rfl) dX10_reads_32 ?_
      refine q_to (ls' := [(4, .int p18.1), (3, .int p17.1), (0, .ref v0), (1, .int v1), (2, .int v2)]) (st' := [.int p19.1]) rfl rfl ?_
      refine q_istore (ls' := [(5, .int p19.1), (4, .int p18.1), (3, .int p17.1), (0, .ref v0), (1, .int v1), (2, .int v2)]) (by decide) rfl dX10_reads_35 ?_
      refine q_iload_n 2 rfl dX10_reads_37 ?_
      refine q_if_ne (tgt := 65) dX10_reads_38 (by decide) (fun c20 => ?_) (fun c20 => ?_)
      · have hyp := q_neg c20 hyp
        exact q_sub [3, 4, 5, 2, 1, 0] rfl (okX10_reads_b65 ih hyp)
      · have hyp := q_pos c20 hyp
        refine q_iload 1 rfl dX10_reads_41 ?_
        refine q_if_ne (tgt := 65) dX10_reads_43 (by decide) (fun c21 => ?_) (fun c21 => ?_)
        · have hyp := q_neg c21 hyp
          exact q_sub [3, 4, 5, 2, 1, 0] rfl (okX10_reads_b65 ih hyp)
        · have hyp := q_pos c21 hyp
          refine q_iload 0 rfl dX10_reads_46 ?_
          refine q_if_ne (tgt := 65) dX10_reads_48 (by decide) (fun c22 => ?_) (fun c22 => ?_)
          · have hyp := q_neg c22 hyp
            exact q_sub [3, 4, 5, 2, 1, 0] rfl (okX10_reads_b65 ih hyp)
          · have hyp := q_pos c22 hyp
            refine q_aload_n 3 rfl dX10_reads_51 ?_
            refine q_bind hyp (fun x23 e24 hyp => ?_)
            refine q_getI kF_X10_161 dX10_reads_52 e24 ?_
            refine q_iconst (x := 2) rfl dX10_reads_55 ?_
            refine q_icmp_eq (tgt := 65) dX10_reads_56 (by decide) (fun c25 => ?_) (fun c25 => ?_)
            · have hyp := q_pos c25 hyp
              exact q_sub [3, 4, 5, 2, 1, 0] rfl (okX10_reads_b65 ih hyp)
            · have hyp := q_neg c25 hyp
              refine q_aload_n 3 rfl dX10_reads_59 ?_
              refine q_iconst (x := 1) rfl dX10_reads_60 ?_
              refine q_bind hyp (fun p26 e28 hyp => ?_)
              refine q_callV (as := [.int 1]) (st := []) kY_X10_fails kL_X10_200 (okX10_fails (l := l) e28) (by decide) rfl (obX10_fails e28) (Nat.le_of_ble_eq_true rfl) dX10_reads_61 ?_
              refine q_to (ls' := [(5, .int p19.1), (4, .int p18.1), (3, .int p17.1), (0, .ref v0), (1, .int v1), (2, .int v2)]) (st' := [.int p26.1]) rfl rfl ?_
              refine q_bind hyp (fun _ e27 hyp => ?_)
              exact q_iretH rfl (qB_some e27) dX10_reads_64 hyp
def fX10_reads (n : Nat) (v0 : Nat) (h : qH) : Option (Int32 × qH) :=
  (isO h v0 10).bind fun _ =>
  (gR h v0 10 22).bind fun x1 =>
  (sI .boolean h x1 0 0).bind fun h3 =>
  fX10_reads_b11 n n v0 0 1 h3
theorem obX10_reads {n : Nat} {v0 : Nat} {h : qH} {p : Int32 × qH} (hyp : fX10_reads n v0 h = some p) : ∃ fs, h.1 v0 = some (.inr (10, fs)) := by
  unfold fX10_reads at hyp
  exact q_bind hyp (fun _ e _ => isO_some e)
set_option maxHeartbeats 4000000 in
set_option maxRecDepth 100000 in
theorem okX10_reads {l : Launch} {n : Nat} {v0 : Nat} {h : qH} {p : Int32 × qH} (hyp : fX10_reads n v0 h = some p) : q_M l 3 yX10_reads cX10_reads 6 (some .boolean) [.ref v0] h (some (.int p.1)) p.2 := by
  obtain ⟨r, h'⟩ := p
  unfold fX10_reads at hyp
  refine q_bind hyp (fun _ _ hyp => ?_)
  refine q_M.of (by decide) (Nat.le_of_ble_eq_true rfl) ?_
  refine q_to (ls' := [(0, .ref v0)]) (st' := []) rfl rfl ?_
  refine q_iconst (x := 0) rfl dX10_reads_0 ?_
  refine q_istore_n (ls' := [(1, .int 0), (0, .ref v0)]) (by decide) rfl dX10_reads_1 ?_
  refine q_iconst (x := 1) rfl dX10_reads_2 ?_
  refine q_istore_n (ls' := [(2, .int 1), (1, .int 0), (0, .ref v0)]) (by decide) rfl dX10_reads_3 ?_
  refine q_aload_n 2 rfl dX10_reads_4 ?_
  refine q_bind hyp (fun x1 e2 hyp => ?_)
  refine q_getR kF_X10_44 dX10_reads_5 e2 ?_
  refine q_iconst (x := 0) rfl dX10_reads_8 ?_
  refine q_iconst (x := 0) rfl dX10_reads_9 ?_
  refine q_bind hyp (fun h3 e4 hyp => ?_)
  refine q_zast dX10_reads_10 e4 ?_
  exact q_sub [2, 1, 0] rfl (okX10_reads_b11 _ v0 0 1 h3 hyp)
theorem dX10_readsTakes_0 : decode cX10_readsTakes 0 = .ok (.aload_n 0, 1) := by decide +kernel
theorem dX10_readsTakes_1 : decode cX10_readsTakes 1 = .ok (.getfield 35, 3) := by decide +kernel
theorem dX10_readsTakes_4 : decode cX10_readsTakes 4 = .ok (.iconst 1, 1) := by decide +kernel
theorem dX10_readsTakes_5 : decode cX10_readsTakes 5 = .ok (.iaload, 1) := by decide +kernel
theorem dX10_readsTakes_6 : decode cX10_readsTakes 6 = .ok (.aload_n 0, 1) := by decide +kernel
theorem dX10_readsTakes_7 : decode cX10_readsTakes 7 = .ok (.getfield 32, 3) := by decide +kernel
theorem dX10_readsTakes_10 : decode cX10_readsTakes 10 = .ok (.iconst 1, 1) := by decide +kernel
theorem dX10_readsTakes_11 : decode cX10_readsTakes 11 = .ok (.iaload, 1) := by decide +kernel
theorem dX10_readsTakes_12 : decode cX10_readsTakes 12 = .ok (.if_icmp .le 9, 3) := by decide +kernel
theorem dX10_readsTakes_15 : decode cX10_readsTakes 15 = .ok (.aload_n 0, 1) := by decide +kernel
theorem dX10_readsTakes_16 : decode cX10_readsTakes 16 = .ok (.iconst 3, 1) := by decide +kernel
theorem dX10_readsTakes_17 : decode cX10_readsTakes 17 = .ok (.invokevirtual 200, 3) := by decide +kernel
theorem dX10_readsTakes_20 : decode cX10_readsTakes 20 = .ok (.ireturn, 1) := by decide +kernel
theorem dX10_readsTakes_21 : decode cX10_readsTakes 21 = .ok (.aload_n 0, 1) := by decide +kernel
theorem dX10_readsTakes_22 : decode cX10_readsTakes 22 = .ok (.invokevirtual 206, 3) := by decide +kernel
theorem dX10_readsTakes_25 : decode cX10_readsTakes 25 = .ok (.aload_n 0, 1) := by decide +kernel
theorem dX10_readsTakes_26 : decode cX10_readsTakes 26 = .ok (.getfield 32, 3) := by decide +kernel
theorem dX10_readsTakes_29 : decode cX10_readsTakes 29 = .ok (.iconst 1, 1) := by decide +kernel
theorem dX10_readsTakes_30 : decode cX10_readsTakes 30 = .ok (.aload_n 0, 1) := by decide +kernel
theorem dX10_readsTakes_31 : decode cX10_readsTakes 31 = .ok (.getfield 175, 3) := by decide +kernel
theorem dX10_readsTakes_34 : decode cX10_readsTakes 34 = .ok (.iastore, 1) := by decide +kernel
theorem dX10_readsTakes_35 : decode cX10_readsTakes 35 = .ok (.aload_n 0, 1) := by decide +kernel
theorem dX10_readsTakes_36 : decode cX10_readsTakes 36 = .ok (.invokevirtual 283, 3) := by decide +kernel
theorem dX10_readsTakes_39 : decode cX10_readsTakes 39 = .ok (.ifCond .ne 5, 3) := by decide +kernel
theorem dX10_readsTakes_42 : decode cX10_readsTakes 42 = .ok (.iconst 0, 1) := by decide +kernel
theorem dX10_readsTakes_43 : decode cX10_readsTakes 43 = .ok (.ireturn, 1) := by decide +kernel
theorem dX10_readsTakes_44 : decode cX10_readsTakes 44 = .ok (.aload_n 0, 1) := by decide +kernel
theorem dX10_readsTakes_45 : decode cX10_readsTakes 45 = .ok (.getfield 35, 3) := by decide +kernel
theorem dX10_readsTakes_48 : decode cX10_readsTakes 48 = .ok (.iconst 1, 1) := by decide +kernel
theorem dX10_readsTakes_49 : decode cX10_readsTakes 49 = .ok (.aload_n 0, 1) := by decide +kernel
theorem dX10_readsTakes_50 : decode cX10_readsTakes 50 = .ok (.getfield 175, 3) := by decide +kernel
theorem dX10_readsTakes_53 : decode cX10_readsTakes 53 = .ok (.iastore, 1) := by decide +kernel
theorem dX10_readsTakes_54 : decode cX10_readsTakes 54 = .ok (.iconst 1, 1) := by decide +kernel
theorem dX10_readsTakes_55 : decode cX10_readsTakes 55 = .ok (.ireturn, 1) := by decide +kernel
def fX10_readsTakes (n : Nat) (v0 : Nat) (h : qH) : Option (Int32 × qH) :=
  (isO h v0 10).bind fun _ =>
  (gR h v0 10 17).bind fun x1 =>
  (aI .int h x1 1).bind fun x3 =>
  (gR h v0 10 16).bind fun x5 =>
  (aI .int h x5 1).bind fun x7 =>
  if x3 ≤ x7 then
  ((fX10_nextToken n v0 h).bind fun h10 =>
  (gR h10 v0 10 16).bind fun x11 =>
  (gI h10 v0 10 19).bind fun x13 =>
  (sI .int h10 x11 1 x13).bind fun h15 =>
  (fX10_reads n v0 h15).bind fun p17 =>
  if p17.1 = 0 then
  (some (0, p17.2))
  else
  ((gR p17.2 v0 10 17).bind fun x19 =>
  (gI p17.2 v0 10 19).bind fun x21 =>
  (sI .int p17.2 x19 1 x21).bind fun h23 =>
  some (1, h23)))
  else
  ((fX10_fails v0 3 h).bind fun p27 =>
  (qB p27.1).bind fun _ =>
  some (p27.1, p27.2))
theorem obX10_readsTakes {n : Nat} {v0 : Nat} {h : qH} {p : Int32 × qH} (hyp : fX10_readsTakes n v0 h = some p) : ∃ fs, h.1 v0 = some (.inr (10, fs)) := by
  unfold fX10_readsTakes at hyp
  exact q_bind hyp (fun _ e _ => isO_some e)
set_option maxHeartbeats 4000000 in
set_option maxRecDepth 100000 in
theorem okX10_readsTakes {l : Launch} {n : Nat} {v0 : Nat} {h : qH} {p : Int32 × qH} (hyp : fX10_readsTakes n v0 h = some p) : q_M l 4 yX10_readsTakes cX10_readsTakes 1 (some .boolean) [.ref v0] h (some (.int p.1)) p.2 := by
  obtain ⟨r, h'⟩ := p
  unfold fX10_readsTakes at hyp
  refine q_bind hyp (fun _ _ hyp => ?_)
  refine q_M.of (by decide) (Nat.le_of_ble_eq_true rfl) ?_
  refine q_to (ls' := [(0, .ref v0)]) (st' := []) rfl rfl ?_
  refine q_aload_n 0 rfl dX10_readsTakes_0 ?_
  refine q_bind hyp (fun x1 e2 hyp => ?_)
  refine q_getR kF_X10_35 dX10_readsTakes_1 e2 ?_
  refine q_iconst (x := 1) rfl dX10_readsTakes_4 ?_
  refine q_bind hyp (fun x3 e4 hyp => ?_)
  refine q_iald dX10_readsTakes_5 e4 ?_
  refine q_aload_n 0 rfl dX10_readsTakes_6 ?_
  refine q_bind hyp (fun x5 e6 hyp => ?_)
  refine q_getR kF_X10_32 dX10_readsTakes_7 e6 ?_
  refine q_iconst (x := 1) rfl dX10_readsTakes_10 ?_
  refine q_bind hyp (fun x7 e8 hyp => ?_)
  refine q_iald dX10_readsTakes_11 e8 ?_
  refine q_icmp_le (tgt := 21) dX10_readsTakes_12 (by decide) (fun c9 => ?_) (fun c9 => ?_)
  · have hyp := q_pos c9 hyp
    refine q_aload_n 0 rfl dX10_readsTakes_21 ?_
    refine q_bind hyp (fun h10 e26 hyp => ?_)
    refine q_callV (as := []) (st := []) kY_X10_nextToken kL_X10_206 (okX10_nextToken (l := l) e26) (by decide) rfl (obX10_nextToken e26) (Nat.le_of_ble_eq_true rfl) dX10_readsTakes_22 ?_
    refine q_to (ls' := [(0, .ref v0)]) (st' := []) rfl rfl ?_
    refine q_aload_n 0 rfl dX10_readsTakes_25 ?_
    refine q_bind hyp (fun x11 e12 hyp => ?_)
    refine q_getR kF_X10_32 dX10_readsTakes_26 e12 ?_
    refine q_iconst (x := 1) rfl dX10_readsTakes_29 ?_
    refine q_aload_n 0 rfl dX10_readsTakes_30 ?_
    refine q_bind hyp (fun x13 e14 hyp => ?_)
    refine q_getI kF_X10_175 dX10_readsTakes_31 e14 ?_
    refine q_bind hyp (fun h15 e16 hyp => ?_)
    refine q_iast dX10_readsTakes_34 e16 ?_
    refine q_aload_n 0 rfl dX10_readsTakes_35 ?_
    refine q_bind hyp (fun p17 e25 hyp => ?_)
    refine q_callV (as := []) (st := []) kY_X10_reads kL_X10_283 (okX10_reads (l := l) e25) (by decide) rfl (obX10_reads e25) (Nat.le_of_ble_eq_true rfl) dX10_readsTakes_36 ?_
    refine q_to (ls' := [(0, .ref v0)]) (st' := [.int p17.1]) rfl rfl ?_
    refine q_if_ne (tgt := 44) dX10_readsTakes_39 (by decide) (fun c18 => ?_) (fun c18 => ?_)
    · have hyp := q_neg c18 hyp
      refine q_aload_n 0 rfl dX10_readsTakes_44 ?_
      refine q_bind hyp (fun x19 e20 hyp => ?_)
      refine q_getR kF_X10_35 dX10_readsTakes_45 e20 ?_
      refine q_iconst (x := 1) rfl dX10_readsTakes_48 ?_
      refine q_aload_n 0 rfl dX10_readsTakes_49 ?_
      refine q_bind hyp (fun x21 e22 hyp => ?_)
      refine q_getI kF_X10_175 dX10_readsTakes_50 e22 ?_
      refine q_bind hyp (fun h23 e24 hyp => ?_)
      refine q_iast dX10_readsTakes_53 e24 ?_
      refine q_iconst (x := 1) rfl dX10_readsTakes_54 ?_
      exact q_iretH rfl rfl dX10_readsTakes_55 hyp
    · have hyp := q_pos c18 hyp
      refine q_iconst (x := 0) rfl dX10_readsTakes_42 ?_
      exact q_iretH rfl rfl dX10_readsTakes_43 hyp
  · have hyp := q_neg c9 hyp
    refine q_aload_n 0 rfl dX10_readsTakes_15 ?_
    refine q_iconst (x := 3) rfl dX10_readsTakes_16 ?_
    refine q_bind hyp (fun p27 e29 hyp => ?_)
    refine q_callV (as := [.int 3]) (st := []) kY_X10_fails kL_X10_200 (okX10_fails (l := l) e29) (by decide) rfl (obX10_fails e29) (Nat.le_of_ble_eq_true rfl) dX10_readsTakes_17 ?_
    refine q_to (ls' := [(0, .ref v0)]) (st' := [.int p27.1]) rfl rfl ?_
    refine q_bind hyp (fun _ e28 hyp => ?_)
    exact q_iretH rfl (qB_some e28) dX10_readsTakes_20 hyp
theorem dX10_readsAll_0 : decode cX10_readsAll 0 = .ok (.aload_n 0, 1) := by decide +kernel
theorem dX10_readsAll_1 : decode cX10_readsAll 1 = .ok (.iconst 1, 1) := by decide +kernel
theorem dX10_readsAll_2 : decode cX10_readsAll 2 = .ok (.invokevirtual 129, 3) := by decide +kernel
theorem dX10_readsAll_5 : decode cX10_readsAll 5 = .ok (.aload_n 0, 1) := by decide +kernel
theorem dX10_readsAll_6 : decode cX10_readsAll 6 = .ok (.getfield 32, 3) := by decide +kernel
theorem dX10_readsAll_9 : decode cX10_readsAll 9 = .ok (.iconst 1, 1) := by decide +kernel
theorem dX10_readsAll_10 : decode cX10_readsAll 10 = .ok (.sipush 1000, 3) := by decide +kernel
theorem dX10_readsAll_13 : decode cX10_readsAll 13 = .ok (.iastore, 1) := by decide +kernel
theorem dX10_readsAll_14 : decode cX10_readsAll 14 = .ok (.aload_n 0, 1) := by decide +kernel
theorem dX10_readsAll_15 : decode cX10_readsAll 15 = .ok (.getfield 35, 3) := by decide +kernel
theorem dX10_readsAll_18 : decode cX10_readsAll 18 = .ok (.iconst 1, 1) := by decide +kernel
theorem dX10_readsAll_19 : decode cX10_readsAll 19 = .ok (.sipush 1000, 3) := by decide +kernel
theorem dX10_readsAll_22 : decode cX10_readsAll 22 = .ok (.iastore, 1) := by decide +kernel
theorem dX10_readsAll_23 : decode cX10_readsAll 23 = .ok (.aload_n 0, 1) := by decide +kernel
theorem dX10_readsAll_24 : decode cX10_readsAll 24 = .ok (.iconst 0, 1) := by decide +kernel
theorem dX10_readsAll_25 : decode cX10_readsAll 25 = .ok (.putfield 280, 3) := by decide +kernel
theorem dX10_readsAll_28 : decode cX10_readsAll 28 = .ok (.aload_n 0, 1) := by decide +kernel
theorem dX10_readsAll_29 : decode cX10_readsAll 29 = .ok (.sipush 1000, 3) := by decide +kernel
theorem dX10_readsAll_32 : decode cX10_readsAll 32 = .ok (.putfield 175, 3) := by decide +kernel
theorem dX10_readsAll_35 : decode cX10_readsAll 35 = .ok (.aload_n 0, 1) := by decide +kernel
theorem dX10_readsAll_36 : decode cX10_readsAll 36 = .ok (.invokevirtual 286, 3) := by decide +kernel
theorem dX10_readsAll_39 : decode cX10_readsAll 39 = .ok (.aload_n 0, 1) := by decide +kernel
theorem dX10_readsAll_40 : decode cX10_readsAll 40 = .ok (.getfield 161, 3) := by decide +kernel
theorem dX10_readsAll_43 : decode cX10_readsAll 43 = .ok (.ifCond .eq 133, 3) := by decide +kernel
theorem dX10_readsAll_46 : decode cX10_readsAll 46 = .ok (.aload_n 0, 1) := by decide +kernel
theorem dX10_readsAll_47 : decode cX10_readsAll 47 = .ok (.ldc2_w 222, 3) := by decide +kernel
theorem dX10_readsAll_50 : decode cX10_readsAll 50 = .ok (.invokevirtual 192, 3) := by decide +kernel
theorem dX10_readsAll_53 : decode cX10_readsAll 53 = .ok (.ifCond .eq 10, 3) := by decide +kernel
theorem dX10_readsAll_56 : decode cX10_readsAll 56 = .ok (.aload_n 0, 1) := by decide +kernel
theorem dX10_readsAll_57 : decode cX10_readsAll 57 = .ok (.invokevirtual 289, 3) := by decide +kernel
theorem dX10_readsAll_60 : decode cX10_readsAll 60 = .ok (.goto 106, 3) := by decide +kernel
theorem dX10_readsAll_63 : decode cX10_readsAll 63 = .ok (.aload_n 0, 1) := by decide +kernel
theorem dX10_readsAll_64 : decode cX10_readsAll 64 = .ok (.ldc2_w 228, 3) := by decide +kernel
theorem dX10_readsAll_67 : decode cX10_readsAll 67 = .ok (.invokevirtual 192, 3) := by decide +kernel
theorem dX10_readsAll_70 : decode cX10_readsAll 70 = .ok (.ifCond .eq 10, 3) := by decide +kernel
theorem dX10_readsAll_73 : decode cX10_readsAll 73 = .ok (.aload_n 0, 1) := by decide +kernel
theorem dX10_readsAll_74 : decode cX10_readsAll 74 = .ok (.invokevirtual 292, 3) := by decide +kernel
theorem dX10_readsAll_77 : decode cX10_readsAll 77 = .ok (.goto 89, 3) := by decide +kernel
theorem dX10_readsAll_80 : decode cX10_readsAll 80 = .ok (.aload_n 0, 1) := by decide +kernel
theorem dX10_readsAll_81 : decode cX10_readsAll 81 = .ok (.ldc2_w 230, 3) := by decide +kernel
theorem dX10_readsAll_84 : decode cX10_readsAll 84 = .ok (.invokevirtual 192, 3) := by decide +kernel
theorem dX10_readsAll_87 : decode cX10_readsAll 87 = .ok (.ifCond .eq 14, 3) := by decide +kernel
theorem dX10_readsAll_90 : decode cX10_readsAll 90 = .ok (.aload_n 0, 1) := by decide +kernel
theorem dX10_readsAll_91 : decode cX10_readsAll 91 = .ok (.iconst 1, 1) := by decide +kernel
theorem dX10_readsAll_92 : decode cX10_readsAll 92 = .ok (.iconst 1, 1) := by decide +kernel
theorem dX10_readsAll_93 : decode cX10_readsAll 93 = .ok (.bipush 9, 2) := by decide +kernel
theorem dX10_readsAll_95 : decode cX10_readsAll 95 = .ok (.invokevirtual 295, 3) := by decide +kernel
theorem dX10_readsAll_98 : decode cX10_readsAll 98 = .ok (.goto 68, 3) := by decide +kernel
theorem dX10_readsAll_101 : decode cX10_readsAll 101 = .ok (.aload_n 0, 1) := by decide +kernel
theorem dX10_readsAll_102 : decode cX10_readsAll 102 = .ok (.ldc2_w 232, 3) := by decide +kernel
theorem dX10_readsAll_105 : decode cX10_readsAll 105 = .ok (.invokevirtual 192, 3) := by decide +kernel
theorem dX10_readsAll_108 : decode cX10_readsAll 108 = .ok (.ifCond .eq 15, 3) := by decide +kernel
theorem dX10_readsAll_111 : decode cX10_readsAll 111 = .ok (.aload_n 0, 1) := by decide +kernel
theorem dX10_readsAll_112 : decode cX10_readsAll 112 = .ok (.iconst 3, 1) := by decide +kernel
theorem dX10_readsAll_113 : decode cX10_readsAll 113 = .ok (.iconst 0, 1) := by decide +kernel
theorem dX10_readsAll_114 : decode cX10_readsAll 114 = .ok (.sipush 200, 3) := by decide +kernel
theorem dX10_readsAll_117 : decode cX10_readsAll 117 = .ok (.invokevirtual 295, 3) := by decide +kernel
theorem dX10_readsAll_120 : decode cX10_readsAll 120 = .ok (.goto 46, 3) := by decide +kernel
theorem dX10_readsAll_123 : decode cX10_readsAll 123 = .ok (.aload_n 0, 1) := by decide +kernel
theorem dX10_readsAll_124 : decode cX10_readsAll 124 = .ok (.ldc2_w 234, 3) := by decide +kernel
theorem dX10_readsAll_127 : decode cX10_readsAll 127 = .ok (.invokevirtual 192, 3) := by decide +kernel
theorem dX10_readsAll_130 : decode cX10_readsAll 130 = .ok (.ifCond .eq 14, 3) := by decide +kernel
theorem dX10_readsAll_133 : decode cX10_readsAll 133 = .ok (.aload_n 0, 1) := by decide +kernel
theorem dX10_readsAll_134 : decode cX10_readsAll 134 = .ok (.iconst 2, 1) := by decide +kernel
theorem dX10_readsAll_135 : decode cX10_readsAll 135 = .ok (.iconst 0, 1) := by decide +kernel
theorem dX10_readsAll_136 : decode cX10_readsAll 136 = .ok (.bipush 20, 2) := by decide +kernel
theorem dX10_readsAll_138 : decode cX10_readsAll 138 = .ok (.invokevirtual 295, 3) := by decide +kernel
theorem dX10_readsAll_141 : decode cX10_readsAll 141 = .ok (.goto 25, 3) := by decide +kernel
theorem dX10_readsAll_144 : decode cX10_readsAll 144 = .ok (.aload_n 0, 1) := by decide +kernel
theorem dX10_readsAll_145 : decode cX10_readsAll 145 = .ok (.ldc2_w 236, 3) := by decide +kernel
theorem dX10_readsAll_148 : decode cX10_readsAll 148 = .ok (.invokevirtual 192, 3) := by decide +kernel
theorem dX10_readsAll_151 : decode cX10_readsAll 151 = .ok (.ifCond .eq 10, 3) := by decide +kernel
theorem dX10_readsAll_154 : decode cX10_readsAll 154 = .ok (.aload_n 0, 1) := by decide +kernel
theorem dX10_readsAll_155 : decode cX10_readsAll 155 = .ok (.invokevirtual 298, 3) := by decide +kernel
theorem dX10_readsAll_158 : decode cX10_readsAll 158 = .ok (.goto 8, 3) := by decide +kernel
theorem dX10_readsAll_161 : decode cX10_readsAll 161 = .ok (.aload_n 0, 1) := by decide +kernel
theorem dX10_readsAll_162 : decode cX10_readsAll 162 = .ok (.iconst 1, 1) := by decide +kernel
theorem dX10_readsAll_163 : decode cX10_readsAll 163 = .ok (.invokevirtual 200, 3) := by decide +kernel
theorem dX10_readsAll_166 : decode cX10_readsAll 166 = .ok (.istore_n 1, 1) := by decide +kernel
theorem dX10_readsAll_167 : decode cX10_readsAll 167 = .ok (.iload_n 1, 1) := by decide +kernel
theorem dX10_readsAll_168 : decode cX10_readsAll 168 = .ok (.ifCond .ne 5, 3) := by decide +kernel
theorem dX10_readsAll_171 : decode cX10_readsAll 171 = .ok (.iconst 0, 1) := by decide +kernel
theorem dX10_readsAll_172 : decode cX10_readsAll 172 = .ok (.ireturn, 1) := by decide +kernel
theorem dX10_readsAll_173 : decode cX10_readsAll 173 = .ok (.goto (-134), 3) := by decide +kernel
theorem dX10_readsAll_176 : decode cX10_readsAll 176 = .ok (.iconst 1, 1) := by decide +kernel
theorem dX10_readsAll_177 : decode cX10_readsAll 177 = .ok (.ireturn, 1) := by decide +kernel
def fX10_readsAll_b166 (n : Nat) (K39 : Nat → qH → Option (Int32 × qH)) (v0 : Nat) (s0 : Int32) (h : qH) : Option (Int32 × qH) :=
  if s0 = 0 then
  (some (0, h))
  else
  (K39 v0 h)
set_option maxHeartbeats 4000000 in
set_option maxRecDepth 100000 in
theorem okX10_readsAll_b166 {l : Launch} {n : Nat} {K39 : Nat → qH → Option (Int32 × qH)} {v0 : Nat} {s0 : Int32} {h : qH} {r : Int32} {h' : qH} (hK39 : ∀ (v0 : Nat) (h : qH), K39 v0 h = some (r, h') → q_W l 6 yX10_readsAll cX10_readsAll 2 (some .boolean) (some (.int r)) h' 39 [(0, .ref v0)] [] h) (hyp : fX10_readsAll_b166 n K39 v0 s0 h = some (r, h')) : q_W l 6 yX10_readsAll cX10_readsAll 2 (some .boolean) (some (.int r)) h' 166 [(0, .ref v0)] [.int s0] h := by
  unfold fX10_readsAll_b166 at hyp
  refine q_istore_n (ls' := [(1, .int s0), (0, .ref v0)]) (by decide) rfl dX10_readsAll_166 ?_
  refine q_iload_n 0 rfl dX10_readsAll_167 ?_
  refine q_if_ne (tgt := 173) dX10_readsAll_168 (by decide) (fun c1 => ?_) (fun c1 => ?_)
  · have hyp := q_neg c1 hyp
    refine q_goto (tgt := 39) dX10_readsAll_173 (by decide) ?_
    exact q_sub [1] rfl (hK39 v0 h hyp)
  · have hyp := q_pos c1 hyp
    refine q_iconst (x := 0) rfl dX10_readsAll_171 ?_
    exact q_iretH rfl rfl dX10_readsAll_172 hyp
def fX10_readsAll_b39 (n : Nat) : Nat → Nat → qH → Option (Int32 × qH)
  | 0, _, _ => none
  | w + 1, v0, h =>
    (gI h v0 10 6).bind fun x1 =>
    if x1 = 0 then
    (some (1, h))
    else
    ((fX10_isWord v0 187475625 h).bind fun p4 =>
    if p4.1 = 0 then
    ((fX10_isWord v0 8887 p4.2).bind fun p6 =>
    if p6.1 = 0 then
    ((fX10_isWord v0 6128141 p6.2).bind fun p8 =>
    if p8.1 = 0 then
    ((fX10_isWord v0 12089 p8.2).bind fun p10 =>
    if p10.1 = 0 then
    ((fX10_isWord v0 22726 p10.2).bind fun p12 =>
    if p12.1 = 0 then
    ((fX10_isWord v0 10656676 p12.2).bind fun p14 =>
    if p14.1 = 0 then
    ((fX10_fails v0 1 p14.2).bind fun p16 =>
    fX10_readsAll_b166 n (fX10_readsAll_b39 n w) v0 p16.1 p16.2)
    else
    ((fX10_readsTakes n v0 p14.2).bind fun p18 =>
    fX10_readsAll_b166 n (fX10_readsAll_b39 n w) v0 p18.1 p18.2))
    else
    ((fX10_readsOne n v0 2 0 20 p12.2).bind fun p21 =>
    fX10_readsAll_b166 n (fX10_readsAll_b39 n w) v0 p21.1 p21.2))
    else
    ((fX10_readsOne n v0 3 0 200 p10.2).bind fun p24 =>
    fX10_readsAll_b166 n (fX10_readsAll_b39 n w) v0 p24.1 p24.2))
    else
    ((fX10_readsOne n v0 1 1 9 p8.2).bind fun p27 =>
    fX10_readsAll_b166 n (fX10_readsAll_b39 n w) v0 p27.1 p27.2))
    else
    ((fX10_readsLed n v0 p6.2).bind fun p30 =>
    fX10_readsAll_b166 n (fX10_readsAll_b39 n w) v0 p30.1 p30.2))
    else
    ((fX10_readsMatter n v0 p4.2).bind fun p33 =>
    fX10_readsAll_b166 n (fX10_readsAll_b39 n w) v0 p33.1 p33.2))
set_option maxHeartbeats 4000000 in
set_option maxRecDepth 100000 in
theorem okX10_readsAll_b39 {l : Launch} {n : Nat} {r : Int32} {h' : qH} : ∀ (w : Nat) (v0 : Nat) (h : qH), fX10_readsAll_b39 n w v0 h = some (r, h') → q_W l 6 yX10_readsAll cX10_readsAll 2 (some .boolean) (some (.int r)) h' 39 [(0, .ref v0)] [] h := by
  intro w
  induction w with
  | zero => intro v0 h hyp; cases hyp
  | succ w ih =>
    intro v0 h hyp
    unfold fX10_readsAll_b39 at hyp
    refine q_aload_n 0 rfl dX10_readsAll_39 ?_
    refine q_bind hyp (fun x1 e2 hyp => ?_)
    refine q_getI kF_X10_161 dX10_readsAll_40 e2 ?_
    refine q_if_eq (tgt := 176) dX10_readsAll_43 (by decide) (fun c3 => ?_) (fun c3 => ?_)
    · have hyp := q_pos c3 hyp
      refine q_iconst (x := 1) rfl dX10_readsAll_176 ?_
      exact q_iretH rfl rfl dX10_readsAll_177 hyp
    · have hyp := q_neg c3 hyp
      refine q_aload_n 0 rfl dX10_readsAll_46 ?_
      refine q_ldc2 kK_X10_222 dX10_readsAll_47 ?_
      refine q_bind hyp (fun p4 e35 hyp => ?_)
      refine q_callV (as := [.long 187475625]) (st := []) kY_X10_isWord kL_X10_192 (okX10_isWord (l := l) e35) (by decide) rfl (obX10_isWord e35) (Nat.le_of_ble_eq_true rfl) dX10_readsAll_50 ?_
      refine q_to (ls' := [(0, .ref v0)]) (st' := [.int p4.1]) rfl rfl ?_
      refine q_if_eq (tgt := 63) dX10_readsAll_53 (by decide) (fun c5 => ?_) (fun c5 => ?_)
      · have hyp := q_pos c5 hyp
        refine q_aload_n 0 rfl dX10_readsAll_63 ?_
        refine q_ldc2 kK_X10_228 dX10_readsAll_64 ?_
        refine q_bind hyp (fun p6 e32 hyp => ?_)
        refine q_callV (as := [.long 8887]) (st := []) kY_X10_isWord kL_X10_192 (okX10_isWord (l := l) e32) (by decide) rfl (obX10_isWord e32) (Nat.le_of_ble_eq_true rfl) dX10_readsAll_67 ?_
        refine q_to (ls' := [(0, .ref v0)]) (st' := [.int p6.1]) rfl rfl ?_
        refine q_if_eq (tgt := 80) dX10_readsAll_70 (by decide) (fun c7 => ?_) (fun c7 => ?_)
        · have hyp := q_pos c7 hyp
          refine q_aload_n 0 rfl dX10_readsAll_80 ?_
          refine q_ldc2 kK_X10_230 dX10_readsAll_81 ?_
          refine q_bind hyp (fun p8 e29 hyp => ?_)
          refine q_callV (as := [.long 6128141]) (st := []) kY_X10_isWord kL_X10_192 (okX10_isWord (l := l) e29) (by decide) rfl (obX10_isWord e29) (Nat.le_of_ble_eq_true rfl) dX10_readsAll_84 ?_
          refine q_to (ls' := [(0, .ref v0)]) (st' := [.int p8.1]) rfl rfl ?_
          refine q_if_eq (tgt := 101) dX10_readsAll_87 (by decide) (fun c9 => ?_) (fun c9 => ?_)
          · have hyp := q_pos c9 hyp
            refine q_aload_n 0 rfl dX10_readsAll_101 ?_
            refine q_ldc2 kK_X10_232 dX10_readsAll_102 ?_
            refine q_bind hyp (fun p10 e26 hyp => ?_)
            refine q_callV (as := [.long 12089]) (st := []) kY_X10_isWord kL_X10_192 (okX10_isWord (l := l) e26) (by decide) rfl (obX10_isWord e26) (Nat.le_of_ble_eq_true rfl) dX10_readsAll_105 ?_
            refine q_to (ls' := [(0, .ref v0)]) (st' := [.int p10.1]) rfl rfl ?_
            refine q_if_eq (tgt := 123) dX10_readsAll_108 (by decide) (fun c11 => ?_) (fun c11 => ?_)
            · have hyp := q_pos c11 hyp
              refine q_aload_n 0 rfl dX10_readsAll_123 ?_
              refine q_ldc2 kK_X10_234 dX10_readsAll_124 ?_
              refine q_bind hyp (fun p12 e23 hyp => ?_)
              refine q_callV (as := [.long 22726]) (st := []) kY_X10_isWord kL_X10_192 (okX10_isWord (l := l) e23) (by decide) rfl (obX10_isWord e23) (Nat.le_of_ble_eq_true rfl) dX10_readsAll_127 ?_
              refine q_to (ls' := [(0, .ref v0)]) (st' := [.int p12.1]) rfl rfl ?_
              refine q_if_eq (tgt := 144) dX10_readsAll_130 (by decide) (fun c13 => ?_) (fun c13 => ?_)
              · have hyp := q_pos c13 hyp
                refine q_aload_n 0 rfl dX10_readsAll_144 ?_
                refine q_ldc2 kK_X10_236 dX10_readsAll_145 ?_
                refine q_bind hyp (fun p14 e20 hyp => ?_)
                refine q_callV (as := [.long 10656676]) (st := []) kY_X10_isWord kL_X10_192 (okX10_isWord (l := l) e20) (by decide) rfl (obX10_isWord e20) (Nat.le_of_ble_eq_true rfl) dX10_readsAll_148 ?_
                refine q_to (ls' := [(0, .ref v0)]) (st' := [.int p14.1]) rfl rfl ?_
                refine q_if_eq (tgt := 161) dX10_readsAll_151 (by decide) (fun c15 => ?_) (fun c15 => ?_)
                · have hyp := q_pos c15 hyp
                  refine q_aload_n 0 rfl dX10_readsAll_161 ?_
                  refine q_iconst (x := 1) rfl dX10_readsAll_162 ?_
                  refine q_bind hyp (fun p16 e17 hyp => ?_)
                  refine q_callV (as := [.int 1]) (st := []) kY_X10_fails kL_X10_200 (okX10_fails (l := l) e17) (by decide) rfl (obX10_fails e17) (Nat.le_of_ble_eq_true rfl) dX10_readsAll_163 ?_
                  refine q_to (ls' := [(0, .ref v0)]) (st' := [.int p16.1]) rfl rfl ?_
                  exact q_sub [0] rfl (okX10_readsAll_b166 ih hyp)
                · have hyp := q_neg c15 hyp
                  refine q_aload_n 0 rfl dX10_readsAll_154 ?_
                  refine q_bind hyp (fun p18 e19 hyp => ?_)
                  refine q_callV (as := []) (st := []) kY_X10_readsTakes kL_X10_298 (okX10_readsTakes (l := l) e19) (by decide) rfl (obX10_readsTakes e19) (Nat.le_of_ble_eq_true rfl) dX10_readsAll_155 ?_
                  refine q_to (ls' := [(0, .ref v0)]) (st' := [.int p18.1]) rfl rfl ?_
                  refine q_goto (tgt := 166) dX10_readsAll_158 (by decide) ?_
                  exact q_sub [0] rfl (okX10_readsAll_b166 ih hyp)
              · have hyp := q_neg c13 hyp
                refine q_aload_n 0 rfl dX10_readsAll_133 ?_
                refine q_iconst (x := 2) rfl dX10_readsAll_134 ?_
                refine q_iconst (x := 0) rfl dX10_readsAll_135 ?_
                refine q_bipush (x := 20) (by decide) dX10_readsAll_136 ?_
                refine q_bind hyp (fun p21 e22 hyp => ?_)
                refine q_callV (as := [.int 2, .int 0, .int 20]) (st := []) kY_X10_readsOne kL_X10_295 (okX10_readsOne (l := l) e22) (by decide) rfl (obX10_readsOne e22) (Nat.le_of_ble_eq_true rfl) dX10_readsAll_138 ?_
                refine q_to (ls' := [(0, .ref v0)]) (st' := [.int p21.1]) rfl rfl ?_
                refine q_goto (tgt := 166) dX10_readsAll_141 (by decide) ?_
                exact q_sub [0] rfl (okX10_readsAll_b166 ih hyp)
            · have hyp := q_neg c11 hyp
              refine q_aload_n 0 rfl dX10_readsAll_111 ?_
              refine q_iconst (x := 3) rfl dX10_readsAll_112 ?_
              refine q_iconst (x := 0) rfl dX10_readsAll_113 ?_
              refine q_sipush (x := 200) (by decide) dX10_readsAll_114 ?_
              refine q_bind hyp (fun p24 e25 hyp => ?_)
              refine q_callV (as := [.int 3, .int 0, .int 200]) (st := []) kY_X10_readsOne kL_X10_295 (okX10_readsOne (l := l) e25) (by decide) rfl (obX10_readsOne e25) (Nat.le_of_ble_eq_true rfl) dX10_readsAll_117 ?_
              refine q_to (ls' := [(0, .ref v0)]) (st' := [.int p24.1]) rfl rfl ?_
              refine q_goto (tgt := 166) dX10_readsAll_120 (by decide) ?_
              exact q_sub [0] rfl (okX10_readsAll_b166 ih hyp)
          · have hyp := q_neg c9 hyp
            refine q_aload_n 0 rfl dX10_readsAll_90 ?_
            refine q_iconst (x := 1) rfl dX10_readsAll_91 ?_
            refine q_iconst (x := 1) rfl dX10_readsAll_92 ?_
            refine q_bipush (x := 9) (by decide) dX10_readsAll_93 ?_
            refine q_bind hyp (fun p27 e28 hyp => ?_)
            refine q_callV (as := [.int 1, .int 1, .int 9]) (st := []) kY_X10_readsOne kL_X10_295 (okX10_readsOne (l := l) e28) (by decide) rfl (obX10_readsOne e28) (Nat.le_of_ble_eq_true rfl) dX10_readsAll_95 ?_
            refine q_to (ls' := [(0, .ref v0)]) (st' := [.int p27.1]) rfl rfl ?_
            refine q_goto (tgt := 166) dX10_readsAll_98 (by decide) ?_
            exact q_sub [0] rfl (okX10_readsAll_b166 ih hyp)
        · have hyp := q_neg c7 hyp
          refine q_aload_n 0 rfl dX10_readsAll_73 ?_
          refine q_bind hyp (fun p30 e31 hyp => ?_)
          refine q_callV (as := []) (st := []) kY_X10_readsLed kL_X10_292 (okX10_readsLed (l := l) e31) (by decide) rfl (obX10_readsLed e31) (Nat.le_of_ble_eq_true rfl) dX10_readsAll_74 ?_
          refine q_to (ls' := [(0, .ref v0)]) (st' := [.int p30.1]) rfl rfl ?_
          refine q_goto (tgt := 166) dX10_readsAll_77 (by decide) ?_
          exact q_sub [0] rfl (okX10_readsAll_b166 ih hyp)
      · have hyp := q_neg c5 hyp
        refine q_aload_n 0 rfl dX10_readsAll_56 ?_
        refine q_bind hyp (fun p33 e34 hyp => ?_)
        refine q_callV (as := []) (st := []) kY_X10_readsMatter kL_X10_289 (okX10_readsMatter (l := l) e34) (by decide) rfl (obX10_readsMatter e34) (Nat.le_of_ble_eq_true rfl) dX10_readsAll_57 ?_
        refine q_to (ls' := [(0, .ref v0)]) (st' := [.int p33.1]) rfl rfl ?_
        refine q_goto (tgt := 166) dX10_readsAll_60 (by decide) ?_
        exact q_sub [0] rfl (okX10_readsAll_b166 ih hyp)
def fX10_readsAll (n : Nat) (v0 : Nat) (h : qH) : Option (Int32 × qH) :=
  (isO h v0 10).bind fun _ =>
  (fX10_usual v0 1 h).bind fun h1 =>
  (gR h1 v0 10 16).bind fun x2 =>
  (sI .int h1 x2 1 1000).bind fun h4 =>
  (gR h4 v0 10 17).bind fun x6 =>
  (sI .int h4 x6 1 1000).bind fun h8 =>
  (pF h8 v0 10 20 (.int 0)).bind fun h10 =>
  (pF h10 v0 10 19 (.int 1000)).bind fun h12 =>
  (fX10_begins n v0 h12).bind fun h14 =>
  fX10_readsAll_b39 n n v0 h14
theorem obX10_readsAll {n : Nat} {v0 : Nat} {h : qH} {p : Int32 × qH} (hyp : fX10_readsAll n v0 h = some p) : ∃ fs, h.1 v0 = some (.inr (10, fs)) := by
  unfold fX10_readsAll at hyp
  exact q_bind hyp (fun _ e _ => isO_some e)
set_option maxHeartbeats 4000000 in
set_option maxRecDepth 100000 in
theorem okX10_readsAll {l : Launch} {n : Nat} {v0 : Nat} {h : qH} {p : Int32 × qH} (hyp : fX10_readsAll n v0 h = some p) : q_M l 6 yX10_readsAll cX10_readsAll 2 (some .boolean) [.ref v0] h (some (.int p.1)) p.2 := by
  obtain ⟨r, h'⟩ := p
  unfold fX10_readsAll at hyp
  refine q_bind hyp (fun _ _ hyp => ?_)
  refine q_M.of (by decide) (Nat.le_of_ble_eq_true rfl) ?_
  refine q_to (ls' := [(0, .ref v0)]) (st' := []) rfl rfl ?_
  refine q_aload_n 0 rfl dX10_readsAll_0 ?_
  refine q_iconst (x := 1) rfl dX10_readsAll_1 ?_
  refine q_bind hyp (fun h1 e16 hyp => ?_)
  refine q_callV (as := [.int 1]) (st := []) kY_X10_usual kL_X10_129 (okX10_usual (l := l) e16) (by decide) rfl (obX10_usual e16) (Nat.le_of_ble_eq_true rfl) dX10_readsAll_2 ?_
  refine q_to (ls' := [(0, .ref v0)]) (st' := []) rfl rfl ?_
  refine q_aload_n 0 rfl dX10_readsAll_5 ?_
  refine q_bind hyp (fun x2 e3 hyp => ?_)
  refine q_getR kF_X10_32 dX10_readsAll_6 e3 ?_
  refine q_iconst (x := 1) rfl dX10_readsAll_9 ?_
  refine q_sipush (x := 1000) (by decide) dX10_readsAll_10 ?_
  refine q_bind hyp (fun h4 e5 hyp => ?_)
  refine q_iast dX10_readsAll_13 e5 ?_
  refine q_aload_n 0 rfl dX10_readsAll_14 ?_
  refine q_bind hyp (fun x6 e7 hyp => ?_)
  refine q_getR kF_X10_35 dX10_readsAll_15 e7 ?_
  refine q_iconst (x := 1) rfl dX10_readsAll_18 ?_
  refine q_sipush (x := 1000) (by decide) dX10_readsAll_19 ?_
  refine q_bind hyp (fun h8 e9 hyp => ?_)
  refine q_iast dX10_readsAll_22 e9 ?_
  refine q_aload_n 0 rfl dX10_readsAll_23 ?_
  refine q_iconst (x := 0) rfl dX10_readsAll_24 ?_
  refine q_bind hyp (fun h10 e11 hyp => ?_)
  refine q_putF kF_X10_280 (fun _ => ⟨rfl, rfl⟩) dX10_readsAll_25 e11 ?_
  refine q_aload_n 0 rfl dX10_readsAll_28 ?_
  refine q_sipush (x := 1000) (by decide) dX10_readsAll_29 ?_
  refine q_bind hyp (fun h12 e13 hyp => ?_)
  refine q_putF kF_X10_175 (fun _ => ⟨rfl, rfl⟩) dX10_readsAll_32 e13 ?_
  refine q_aload_n 0 rfl dX10_readsAll_35 ?_
  refine q_bind hyp (fun h14 e15 hyp => ?_)
  refine q_callV (as := []) (st := []) kY_X10_begins kL_X10_286 (okX10_begins (l := l) e15) (by decide) rfl (obX10_begins e15) (Nat.le_of_ble_eq_true rfl) dX10_readsAll_36 ?_
  refine q_to (ls' := [(0, .ref v0)]) (st' := []) rfl rfl ?_
  exact q_sub [0] rfl (okX10_readsAll_b39 _ v0 h14 hyp)
theorem dX10_past_0 : decode cX10_past 0 = .ok (.aload_n 0, 1) := by decide +kernel
theorem dX10_past_1 : decode cX10_past 1 = .ok (.iconst 0, 1) := by decide +kernel
theorem dX10_past_2 : decode cX10_past 2 = .ok (.putfield 136, 3) := by decide +kernel
theorem dX10_past_5 : decode cX10_past 5 = .ok (.aload_n 0, 1) := by decide +kernel
theorem dX10_past_6 : decode cX10_past 6 = .ok (.invokevirtual 305, 3) := by decide +kernel
theorem dX10_past_9 : decode cX10_past 9 = .ok (.ifCond .ne 8, 3) := by decide +kernel
theorem dX10_past_12 : decode cX10_past 12 = .ok (.aload_n 0, 1) := by decide +kernel
theorem dX10_past_13 : decode cX10_past 13 = .ok (.getfield 172, 3) := by decide +kernel
theorem dX10_past_16 : decode cX10_past 16 = .ok (.ireturn, 1) := by decide +kernel
theorem dX10_past_17 : decode cX10_past 17 = .ok (.aload_n 0, 1) := by decide +kernel
theorem dX10_past_18 : decode cX10_past 18 = .ok (.invokevirtual 308, 3) := by decide +kernel
theorem dX10_past_21 : decode cX10_past 21 = .ok (.aload_n 0, 1) := by decide +kernel
theorem dX10_past_22 : decode cX10_past 22 = .ok (.invokevirtual 311, 3) := by decide +kernel
theorem dX10_past_25 : decode cX10_past 25 = .ok (.aload_n 0, 1) := by decide +kernel
theorem dX10_past_26 : decode cX10_past 26 = .ok (.invokevirtual 133, 3) := by decide +kernel
theorem dX10_past_29 : decode cX10_past 29 = .ok (.aload_n 0, 1) := by decide +kernel
theorem dX10_past_30 : decode cX10_past 30 = .ok (.getfield 78, 3) := by decide +kernel
theorem dX10_past_33 : decode cX10_past 33 = .ok (.iconst 0, 1) := by decide +kernel
theorem dX10_past_34 : decode cX10_past 34 = .ok (.iconst 0, 1) := by decide +kernel
theorem dX10_past_35 : decode cX10_past 35 = .ok (.iastore, 1) := by decide +kernel
theorem dX10_past_36 : decode cX10_past 36 = .ok (.aload_n 0, 1) := by decide +kernel
theorem dX10_past_37 : decode cX10_past 37 = .ok (.getfield 87, 3) := by decide +kernel
theorem dX10_past_40 : decode cX10_past 40 = .ok (.iconst 0, 1) := by decide +kernel
theorem dX10_past_41 : decode cX10_past 41 = .ok (.iconst 0, 1) := by decide +kernel
theorem dX10_past_42 : decode cX10_past 42 = .ok (.iastore, 1) := by decide +kernel
theorem dX10_past_43 : decode cX10_past 43 = .ok (.aload_n 0, 1) := by decide +kernel
theorem dX10_past_44 : decode cX10_past 44 = .ok (.iconst 0, 1) := by decide +kernel
theorem dX10_past_45 : decode cX10_past 45 = .ok (.putfield 314, 3) := by decide +kernel
theorem dX10_past_48 : decode cX10_past 48 = .ok (.iconst 0, 1) := by decide +kernel
theorem dX10_past_49 : decode cX10_past 49 = .ok (.istore_n 1, 1) := by decide +kernel
theorem dX10_past_50 : decode cX10_past 50 = .ok (.iload_n 1, 1) := by decide +kernel
theorem dX10_past_51 : decode cX10_past 51 = .ok (.iconst 4, 1) := by decide +kernel
theorem dX10_past_52 : decode cX10_past 52 = .ok (.if_icmp .ge 16, 3) := by decide +kernel
theorem dX10_past_55 : decode cX10_past 55 = .ok (.aload_n 0, 1) := by decide +kernel
theorem dX10_past_56 : decode cX10_past 56 = .ok (.getfield 114, 3) := by decide +kernel
theorem dX10_past_59 : decode cX10_past 59 = .ok (.iload_n 1, 1) := by decide +kernel
theorem dX10_past_60 : decode cX10_past 60 = .ok (.iconst 0, 1) := by decide +kernel
theorem dX10_past_61 : decode cX10_past 61 = .ok (.bastore, 1) := by decide +kernel
theorem dX10_past_62 : decode cX10_past 62 = .ok (.iinc 1 1, 3) := by decide +kernel
theorem dX10_past_65 : decode cX10_past 65 = .ok (.goto (-15), 3) := by decide +kernel
theorem dX10_past_68 : decode cX10_past 68 = .ok (.iconst 0, 1) := by decide +kernel
theorem dX10_past_69 : decode cX10_past 69 = .ok (.ireturn, 1) := by decide +kernel
def fX10_past_b50 (n : Nat) : Nat → Nat → Int32 → qH → Option (Int32 × qH)
  | 0, _, _, _ => none
  | w + 1, v0, v1, h =>
    if 4 ≤ v1 then
    (some (0, h))
    else
    ((gR h v0 10 46).bind fun x2 =>
    (sI .boolean h x2 v1 0).bind fun h4 =>
    fX10_past_b50 n w v0 (v1 + 1) h4)
set_option maxHeartbeats 4000000 in
set_option maxRecDepth 100000 in
theorem okX10_past_b50 {l : Launch} {n : Nat} {r : Int32} {h' : qH} : ∀ (w : Nat) (v0 : Nat) (v1 : Int32) (h : qH), fX10_past_b50 n w v0 v1 h = some (r, h') → q_W l 7 yX10_past cX10_past 2 (some .int) (some (.int r)) h' 50 [(0, .ref v0), (1, .int v1)] [] h := by
  intro w
  induction w with
  | zero => intro v0 v1 h hyp; cases hyp
  | succ w ih =>
    intro v0 v1 h hyp
    unfold fX10_past_b50 at hyp
    refine q_iload_n 1 rfl dX10_past_50 ?_
    refine q_iconst (x := 4) rfl dX10_past_51 ?_
    refine q_icmp_ge (tgt := 68) dX10_past_52 (by decide) (fun c1 => ?_) (fun c1 => ?_)
    · have hyp := q_pos c1 hyp
      refine q_iconst (x := 0) rfl dX10_past_68 ?_
      exact q_iretH rfl rfl dX10_past_69 hyp
    · have hyp := q_neg c1 hyp
      refine q_aload_n 0 rfl dX10_past_55 ?_
      refine q_bind hyp (fun x2 e3 hyp => ?_)
      refine q_getR kF_X10_114 dX10_past_56 e3 ?_
      refine q_iload_n 1 rfl dX10_past_59 ?_
      refine q_iconst (x := 0) rfl dX10_past_60 ?_
      refine q_bind hyp (fun h4 e5 hyp => ?_)
      refine q_zast dX10_past_61 e5 ?_
      refine q_iinc (ls' := [(1, .int (v1 + 1)), (0, .ref v0)]) 1 rfl rfl (by decide) rfl dX10_past_62 ?_
      refine q_goto (tgt := 50) dX10_past_65 (by decide) ?_
      exact q_sub [1, 0] rfl (ih v0 (v1 + 1) h4 hyp)
def fX10_past (n : Nat) (v0 : Nat) (h : qH) : Option (Int32 × qH) :=
  (isO h v0 10).bind fun _ =>
  (pF h v0 10 0 (.int 0)).bind fun h1 =>
  (fX10_readsAll n v0 h1).bind fun p3 =>
  if p3.1 = 0 then
  ((gI p3.2 v0 10 9).bind fun x21 =>
  some (x21, p3.2))
  else
  ((fX10_lays n v0 p3.2).bind fun h5 =>
  (fX10_laysCauses n v0 h5).bind fun h6 =>
  (fX10_fresh0 n v0 h6).bind fun h7 =>
  (gR h7 v0 10 34).bind fun x8 =>
  (sI .int h7 x8 0 0).bind fun h10 =>
  (gR h10 v0 10 37).bind fun x12 =>
  (sI .int h10 x12 0 0).bind fun h14 =>
  (pF h14 v0 10 47 (.int 0)).bind fun h16 =>
  fX10_past_b50 n n v0 0 h16)
theorem obX10_past {n : Nat} {v0 : Nat} {h : qH} {p : Int32 × qH} (hyp : fX10_past n v0 h = some p) : ∃ fs, h.1 v0 = some (.inr (10, fs)) := by
  unfold fX10_past at hyp
  exact q_bind hyp (fun _ e _ => isO_some e)
set_option maxHeartbeats 4000000 in
set_option maxRecDepth 100000 in
theorem okX10_past {l : Launch} {n : Nat} {v0 : Nat} {h : qH} {p : Int32 × qH} (hyp : fX10_past n v0 h = some p) : q_M l 7 yX10_past cX10_past 2 (some .int) [.ref v0] h (some (.int p.1)) p.2 := by
  obtain ⟨r, h'⟩ := p
  unfold fX10_past at hyp
  refine q_bind hyp (fun _ _ hyp => ?_)
  refine q_M.of (by decide) (Nat.le_of_ble_eq_true rfl) ?_
  refine q_to (ls' := [(0, .ref v0)]) (st' := []) rfl rfl ?_
  refine q_aload_n 0 rfl dX10_past_0 ?_
  refine q_iconst (x := 0) rfl dX10_past_1 ?_
  refine q_bind hyp (fun h1 e2 hyp => ?_)
  refine q_putF kF_X10_136 (fun _ => ⟨rfl, rfl⟩) dX10_past_2 e2 ?_
  refine q_aload_n 0 rfl dX10_past_5 ?_
  refine q_bind hyp (fun p3 e23 hyp => ?_)
  refine q_callV (as := []) (st := []) kY_X10_readsAll kL_X10_305 (okX10_readsAll (l := l) e23) (by decide) rfl (obX10_readsAll e23) (Nat.le_of_ble_eq_true rfl) dX10_past_6 ?_
  refine q_to (ls' := [(0, .ref v0)]) (st' := [.int p3.1]) rfl rfl ?_
  refine q_if_ne (tgt := 17) dX10_past_9 (by decide) (fun c4 => ?_) (fun c4 => ?_)
  · have hyp := q_neg c4 hyp
    refine q_aload_n 0 rfl dX10_past_17 ?_
    refine q_bind hyp (fun h5 e20 hyp => ?_)
    refine q_callV (as := []) (st := []) kY_X10_lays kL_X10_308 (okX10_lays (l := l) e20) (by decide) rfl (obX10_lays e20) (Nat.le_of_ble_eq_true rfl) dX10_past_18 ?_
    refine q_to (ls' := [(0, .ref v0)]) (st' := []) rfl rfl ?_
    refine q_aload_n 0 rfl dX10_past_21 ?_
    refine q_bind hyp (fun h6 e19 hyp => ?_)
    refine q_callV (as := []) (st := []) kY_X10_laysCauses kL_X10_311 (okX10_laysCauses (l := l) e19) (by decide) rfl (obX10_laysCauses e19) (Nat.le_of_ble_eq_true rfl) dX10_past_22 ?_
    refine q_to (ls' := [(0, .ref v0)]) (st' := []) rfl rfl ?_
    refine q_aload_n 0 rfl dX10_past_25 ?_
    refine q_bind hyp (fun h7 e18 hyp => ?_)
    refine q_callV (as := []) (st := []) kY_X10_fresh0 kL_X10_133 (okX10_fresh0 (l := l) e18) (by decide) rfl (obX10_fresh0 e18) (Nat.le_of_ble_eq_true rfl) dX10_past_26 ?_
    refine q_to (ls' := [(0, .ref v0)]) (st' := []) rfl rfl ?_
    refine q_aload_n 0 rfl dX10_past_29 ?_
    refine q_bind hyp (fun x8 e9 hyp => ?_)
    refine q_getR kF_X10_78 dX10_past_30 e9 ?_
    refine q_iconst (x := 0) rfl dX10_past_33 ?_
    refine q_iconst (x := 0) rfl dX10_past_34 ?_
    refine q_bind hyp (fun h10 e11 hyp => ?_)
    refine q_iast dX10_past_35 e11 ?_
    refine q_aload_n 0 rfl dX10_past_36 ?_
    refine q_bind hyp (fun x12 e13 hyp => ?_)
    refine q_getR kF_X10_87 dX10_past_37 e13 ?_
    refine q_iconst (x := 0) rfl dX10_past_40 ?_
    refine q_iconst (x := 0) rfl dX10_past_41 ?_
    refine q_bind hyp (fun h14 e15 hyp => ?_)
    refine q_iast dX10_past_42 e15 ?_
    refine q_aload_n 0 rfl dX10_past_43 ?_
    refine q_iconst (x := 0) rfl dX10_past_44 ?_
    refine q_bind hyp (fun h16 e17 hyp => ?_)
    refine q_putF kF_X10_314 (fun _ => ⟨rfl, rfl⟩) dX10_past_45 e17 ?_
    refine q_iconst (x := 0) rfl dX10_past_48 ?_
    refine q_istore_n (ls' := [(1, .int 0), (0, .ref v0)]) (by decide) rfl dX10_past_49 ?_
    exact q_sub [1, 0] rfl (okX10_past_b50 _ v0 0 h16 hyp)
  · have hyp := q_pos c4 hyp
    refine q_aload_n 0 rfl dX10_past_12 ?_
    refine q_bind hyp (fun x21 e22 hyp => ?_)
    refine q_getI kF_X10_172 dX10_past_13 e22 ?_
    exact q_iretH rfl rfl dX10_past_16 hyp
theorem dX10_readsLine_0 : decode cX10_readsLine 0 = .ok (.aload_n 0, 1) := by decide +kernel
theorem dX10_readsLine_1 : decode cX10_readsLine 1 = .ok (.ldc2_w 238, 3) := by decide +kernel
theorem dX10_readsLine_4 : decode cX10_readsLine 4 = .ok (.invokevirtual 192, 3) := by decide +kernel
theorem dX10_readsLine_7 : decode cX10_readsLine 7 = .ok (.ifCond .eq 7, 3) := by decide +kernel
theorem dX10_readsLine_10 : decode cX10_readsLine 10 = .ok (.iconst 0, 1) := by decide +kernel
theorem dX10_readsLine_11 : decode cX10_readsLine 11 = .ok (.goto 32, 3) := by decide +kernel
theorem dX10_readsLine_14 : decode cX10_readsLine 14 = .ok (.aload_n 0, 1) := by decide +kernel
theorem dX10_readsLine_15 : decode cX10_readsLine 15 = .ok (.ldc2_w 240, 3) := by decide +kernel
theorem dX10_readsLine_18 : decode cX10_readsLine 18 = .ok (.invokevirtual 192, 3) := by decide +kernel
theorem dX10_readsLine_21 : decode cX10_readsLine 21 = .ok (.ifCond .eq 7, 3) := by decide +kernel
theorem dX10_readsLine_24 : decode cX10_readsLine 24 = .ok (.iconst 1, 1) := by decide +kernel
theorem dX10_readsLine_25 : decode cX10_readsLine 25 = .ok (.goto 18, 3) := by decide +kernel
theorem dX10_readsLine_28 : decode cX10_readsLine 28 = .ok (.aload_n 0, 1) := by decide +kernel
theorem dX10_readsLine_29 : decode cX10_readsLine 29 = .ok (.ldc2_w 242, 3) := by decide +kernel
theorem dX10_readsLine_32 : decode cX10_readsLine 32 = .ok (.invokevirtual 192, 3) := by decide +kernel
theorem dX10_readsLine_35 : decode cX10_readsLine 35 = .ok (.ifCond .eq 7, 3) := by decide +kernel
theorem dX10_readsLine_38 : decode cX10_readsLine 38 = .ok (.iconst 2, 1) := by decide +kernel
theorem dX10_readsLine_39 : decode cX10_readsLine 39 = .ok (.goto 4, 3) := by decide +kernel
theorem dX10_readsLine_42 : decode cX10_readsLine 42 = .ok (.iconst (-1), 1) := by decide +kernel
theorem dX10_readsLine_43 : decode cX10_readsLine 43 = .ok (.istore_n 1, 1) := by decide +kernel
theorem dX10_readsLine_44 : decode cX10_readsLine 44 = .ok (.iload_n 1, 1) := by decide +kernel
theorem dX10_readsLine_45 : decode cX10_readsLine 45 = .ok (.ifCond .ge 9, 3) := by decide +kernel
theorem dX10_readsLine_48 : decode cX10_readsLine 48 = .ok (.aload_n 0, 1) := by decide +kernel
theorem dX10_readsLine_49 : decode cX10_readsLine 49 = .ok (.iconst 1, 1) := by decide +kernel
theorem dX10_readsLine_50 : decode cX10_readsLine 50 = .ok (.invokevirtual 200, 3) := by decide +kernel
theorem dX10_readsLine_53 : decode cX10_readsLine 53 = .ok (.ireturn, 1) := by decide +kernel
theorem dX10_readsLine_54 : decode cX10_readsLine 54 = .ok (.aload_n 0, 1) := by decide +kernel
theorem dX10_readsLine_55 : decode cX10_readsLine 55 = .ok (.getfield 78, 3) := by decide +kernel
theorem dX10_readsLine_58 : decode cX10_readsLine 58 = .ok (.iconst 5, 1) := by decide +kernel
theorem dX10_readsLine_59 : decode cX10_readsLine 59 = .ok (.iaload, 1) := by decide +kernel
theorem dX10_readsLine_60 : decode cX10_readsLine 60 = .ok (.bipush 40, 2) := by decide +kernel
theorem dX10_readsLine_62 : decode cX10_readsLine 62 = .ok (.if_icmp .ne 9, 3) := by decide +kernel
theorem dX10_readsLine_65 : decode cX10_readsLine 65 = .ok (.aload_n 0, 1) := by decide +kernel
theorem dX10_readsLine_66 : decode cX10_readsLine 66 = .ok (.iconst 5, 1) := by decide +kernel
theorem dX10_readsLine_67 : decode cX10_readsLine 67 = .ok (.invokevirtual 200, 3) := by decide +kernel
theorem dX10_readsLine_70 : decode cX10_readsLine 70 = .ok (.ireturn, 1) := by decide +kernel
theorem dX10_readsLine_71 : decode cX10_readsLine 71 = .ok (.aload_n 0, 1) := by decide +kernel
theorem dX10_readsLine_72 : decode cX10_readsLine 72 = .ok (.invokevirtual 206, 3) := by decide +kernel
theorem dX10_readsLine_75 : decode cX10_readsLine 75 = .ok (.sipush 200, 3) := by decide +kernel
theorem dX10_readsLine_78 : decode cX10_readsLine 78 = .ok (.aload_n 0, 1) := by decide +kernel
theorem dX10_readsLine_79 : decode cX10_readsLine 79 = .ok (.getfield 78, 3) := by decide +kernel
theorem dX10_readsLine_82 : decode cX10_readsLine 82 = .ok (.iconst 5, 1) := by decide +kernel
theorem dX10_readsLine_83 : decode cX10_readsLine 83 = .ok (.iaload, 1) := by decide +kernel
theorem dX10_readsLine_84 : decode cX10_readsLine 84 = .ok (.iadd, 1) := by decide +kernel
theorem dX10_readsLine_85 : decode cX10_readsLine 85 = .ok (.istore_n 2, 1) := by decide +kernel
theorem dX10_readsLine_86 : decode cX10_readsLine 86 = .ok (.aload_n 0, 1) := by decide +kernel
theorem dX10_readsLine_87 : decode cX10_readsLine 87 = .ok (.getfield 81, 3) := by decide +kernel
theorem dX10_readsLine_90 : decode cX10_readsLine 90 = .ok (.iload_n 2, 1) := by decide +kernel
theorem dX10_readsLine_91 : decode cX10_readsLine 91 = .ok (.iload_n 1, 1) := by decide +kernel
theorem dX10_readsLine_92 : decode cX10_readsLine 92 = .ok (.iastore, 1) := by decide +kernel
theorem dX10_readsLine_93 : decode cX10_readsLine 93 = .ok (.iload_n 1, 1) := by decide +kernel
theorem dX10_readsLine_94 : decode cX10_readsLine 94 = .ok (.iconst 2, 1) := by decide +kernel
theorem dX10_readsLine_95 : decode cX10_readsLine 95 = .ok (.if_icmp .eq 27, 3) := by decide +kernel
theorem dX10_readsLine_98 : decode cX10_readsLine 98 = .ok (.aload_n 0, 1) := by decide +kernel
theorem dX10_readsLine_99 : decode cX10_readsLine 99 = .ok (.iconst 0, 1) := by decide +kernel
theorem dX10_readsLine_100 : decode cX10_readsLine 100 = .ok (.invokevirtual 277, 3) := by decide +kernel
theorem dX10_readsLine_103 : decode cX10_readsLine 103 = .ok (.ifCond .ne 5, 3) := by decide +kernel
theorem dX10_readsLine_106 : decode cX10_readsLine 106 = .ok (.iconst 0, 1) := by decide +kernel
theorem dX10_readsLine_107 : decode cX10_readsLine 107 = .ok (.ireturn, 1) := by decide +kernel
theorem dX10_readsLine_108 : decode cX10_readsLine 108 = .ok (.aload_n 0, 1) := by decide +kernel
theorem dX10_readsLine_109 : decode cX10_readsLine 109 = .ok (.getfield 84, 3) := by decide +kernel
theorem dX10_readsLine_112 : decode cX10_readsLine 112 = .ok (.iload_n 2, 1) := by decide +kernel
theorem dX10_readsLine_113 : decode cX10_readsLine 113 = .ok (.aload_n 0, 1) := by decide +kernel
theorem dX10_readsLine_114 : decode cX10_readsLine 114 = .ok (.getfield 256, 3) := by decide +kernel
theorem dX10_readsLine_117 : decode cX10_readsLine 117 = .ok (.iastore, 1) := by decide +kernel
theorem dX10_readsLine_118 : decode cX10_readsLine 118 = .ok (.aload_n 0, 1) := by decide +kernel
theorem dX10_readsLine_119 : decode cX10_readsLine 119 = .ok (.invokevirtual 206, 3) := by decide +kernel
theorem dX10_readsLine_122 : decode cX10_readsLine 122 = .ok (.aload_n 0, 1) := by decide +kernel
theorem dX10_readsLine_123 : decode cX10_readsLine 123 = .ok (.getfield 78, 3) := by decide +kernel
theorem dX10_readsLine_126 : decode cX10_readsLine 126 = .ok (.iconst 5, 1) := by decide +kernel
theorem dX10_readsLine_127 : decode cX10_readsLine 127 = .ok (.dup2, 1) := by decide +kernel
theorem dX10_readsLine_128 : decode cX10_readsLine 128 = .ok (.iaload, 1) := by decide +kernel
theorem dX10_readsLine_129 : decode cX10_readsLine 129 = .ok (.iconst 1, 1) := by decide +kernel
theorem dX10_readsLine_130 : decode cX10_readsLine 130 = .ok (.iadd, 1) := by decide +kernel
theorem dX10_readsLine_131 : decode cX10_readsLine 131 = .ok (.iastore, 1) := by decide +kernel
theorem dX10_readsLine_132 : decode cX10_readsLine 132 = .ok (.aload_n 0, 1) := by decide +kernel
theorem dX10_readsLine_133 : decode cX10_readsLine 133 = .ok (.invokevirtual 274, 3) := by decide +kernel
theorem dX10_readsLine_136 : decode cX10_readsLine 136 = .ok (.ireturn, 1) := by decide +kernel
def fX10_readsLine_b122 (n : Nat) (v0 : Nat) (h : qH) : Option (Int32 × qH) :=
  (gR h v0 10 34).bind fun x1 =>
  (aI .int h x1 5).bind fun x3 =>
  (sI .int h x1 5 (x3 + 1)).bind fun h5 =>
  (fX10_closes n v0 h5).bind fun p7 =>
  (qB p7.1).bind fun _ =>
  some (p7.1, p7.2)
set_option maxHeartbeats 4000000 in
set_option maxRecDepth 100000 in
theorem okX10_readsLine_b122 {l : Launch} {n : Nat} {v0 : Nat} {h : qH} {r : Int32} {h' : qH} (hyp : fX10_readsLine_b122 n v0 h = some (r, h')) : q_W l 4 yX10_readsLine cX10_readsLine 3 (some .boolean) (some (.int r)) h' 122 [(0, .ref v0)] [] h := by
  unfold fX10_readsLine_b122 at hyp
  refine q_aload_n 0 rfl dX10_readsLine_122 ?_
  refine q_bind hyp (fun x1 e2 hyp => ?_)
  refine q_getR kF_X10_78 dX10_readsLine_123 e2 ?_
  refine q_iconst (x := 5) rfl dX10_readsLine_126 ?_
  refine q_dup2 rfl rfl dX10_readsLine_127 ?_
  refine q_bind hyp (fun x3 e4 hyp => ?_)
  refine q_iald dX10_readsLine_128 e4 ?_
  refine q_iconst (x := 1) rfl dX10_readsLine_129 ?_
  refine q_iadd dX10_readsLine_130 ?_
  refine q_bind hyp (fun h5 e6 hyp => ?_)
  refine q_iast dX10_readsLine_131 e6 ?_
  refine q_aload_n 0 rfl dX10_readsLine_132 ?_
  refine q_bind hyp (fun p7 e9 hyp => ?_)
  refine q_callV (as := []) (st := []) kY_X10_closes kL_X10_274 (okX10_closes (l := l) e9) (by decide) rfl (obX10_closes e9) (Nat.le_of_ble_eq_true rfl) dX10_readsLine_133 ?_
  refine q_to (ls' := [(0, .ref v0)]) (st' := [.int p7.1]) rfl rfl ?_
  refine q_bind hyp (fun _ e8 hyp => ?_)
  exact q_iretH rfl (qB_some e8) dX10_readsLine_136 hyp
def fX10_readsLine_b43 (n : Nat) (v0 : Nat) (s0 : Int32) (h : qH) : Option (Int32 × qH) :=
  if 0 ≤ s0 then
  ((gR h v0 10 34).bind fun x2 =>
  (aI .int h x2 5).bind fun x4 =>
  if x4 = 40 then
  ((fX10_fails v0 5 h).bind fun p29 =>
  (qB p29.1).bind fun _ =>
  some (p29.1, p29.2))
  else
  ((fX10_nextToken n v0 h).bind fun h7 =>
  (gR h7 v0 10 34).bind fun x8 =>
  (aI .int h7 x8 5).bind fun x10 =>
  (gR h7 v0 10 35).bind fun x12 =>
  (sI .int h7 x12 (200 + x10) s0).bind fun h14 =>
  if s0 = 2 then
  (fX10_readsLine_b122 n v0 h14)
  else
  ((fX10_needsMatter n v0 0 h14).bind fun p17 =>
  if p17.1 = 0 then
  (some (0, p17.2))
  else
  ((gR p17.2 v0 10 36).bind fun x19 =>
  (gI p17.2 v0 10 33).bind fun x21 =>
  (sI .int p17.2 x19 (200 + x10) x21).bind fun h23 =>
  (fX10_nextToken n v0 h23).bind fun h25 =>
  fX10_readsLine_b122 n v0 h25))))
  else
  ((fX10_fails v0 1 h).bind fun p32 =>
  (qB p32.1).bind fun _ =>
  some (p32.1, p32.2))
set_option maxHeartbeats 4000000 in
set_option maxRecDepth 100000 in
theorem okX10_readsLine_b43 {l : Launch} {n : Nat} {v0 : Nat} {s0 : Int32} {h : qH} {r : Int32} {h' : qH} (hyp : fX10_readsLine_b43 n v0 s0 h = some (r, h')) : q_W l 4 yX10_readsLine cX10_readsLine 3 (some .boolean) (some (.int r)) h' 43 [(0, .ref v0)] [.int s0] h := by
  unfold fX10_readsLine_b43 at hyp
  refine q_istore_n (ls' := [(1, .int s0), (0, .ref v0)]) (by decide) rfl dX10_readsLine_43 ?_
  refine q_iload_n 0 rfl dX10_readsLine_44 ?_
  refine q_if_ge (tgt := 54) dX10_readsLine_45 (by decide) (fun c1 => ?_) (fun c1 => ?_)
  · have hyp := q_pos c1 hyp
    refine q_aload_n 1 rfl dX10_readsLine_54 ?_
    refine q_bind hyp (fun x2 e3 hyp => ?_)
    refine q_getR kF_X10_78 dX10_readsLine_55 e3 ?_
    refine q_iconst (x := 5) rfl dX10_readsLine_58 ?_
    refine q_bind hyp (fun x4 e5 hyp => ?_)
    refine q_iald dX10_readsLine_59 e5 ?_
    refine q_bipush (x := 40) (by decide) dX10_readsLine_60 ?_
    refine q_icmp_ne (tgt := 71) dX10_readsLine_62 (by decide) (fun c6 => ?_) (fun c6 => ?_)
    · have hyp := q_neg c6 hyp
      refine q_aload_n 1 rfl dX10_readsLine_71 ?_
      refine q_bind hyp (fun h7 e28 hyp => ?_)
      refine q_callV (as := []) (st := []) kY_X10_nextToken kL_X10_206 (okX10_nextToken (l := l) e28) (by decide) rfl (obX10_nextToken e28) (Nat.le_of_ble_eq_true rfl) dX10_readsLine_72 ?_
      refine q_to (ls' := [(1, .int s0), (0, .ref v0)]) (st' := []) rfl rfl ?_
      refine q_sipush (x := 200) (by decide) dX10_readsLine_75 ?_
      refine q_aload_n 1 rfl dX10_readsLine_78 ?_
      refine q_bind hyp (fun x8 e9 hyp => ?_)
      refine q_getR kF_X10_78 dX10_readsLine_79 e9 ?_
      refine q_iconst (x := 5) rfl dX10_readsLine_82 ?_
      refine q_bind hyp (fun x10 e11 hyp => ?_)
      refine q_iald dX10_readsLine_83 e11 ?_
      refine q_iadd dX10_readsLine_84 ?_
      refine q_istore_n (ls' := [(2, .int (200 + x10)), (1, .int s0), (0, .ref v0)]) (by decide) rfl dX10_readsLine_85 ?_
      refine q_aload_n 2 rfl dX10_readsLine_86 ?_
      refine q_bind hyp (fun x12 e13 hyp => ?_)
      refine q_getR kF_X10_81 dX10_readsLine_87 e13 ?_
      refine q_iload_n 0 rfl dX10_readsLine_90 ?_
      refine q_iload_n 1 rfl dX10_readsLine_91 ?_
      refine q_bind hyp (fun h14 e15 hyp => ?_)
      refine q_iast dX10_readsLine_92 e15 ?_
      refine q_iload_n 1 rfl dX10_readsLine_93 ?_
      refine q_iconst (x := 2) rfl dX10_readsLine_94 ?_
      refine q_icmp_eq (tgt := 122) dX10_readsLine_95 (by decide) (fun c16 => ?_) (fun c16 => ?_)
      · have hyp := q_pos c16 hyp
        exact q_sub [2] rfl (okX10_readsLine_b122 hyp)
      · have hyp := q_neg c16 hyp
        refine q_aload_n 2 rfl dX10_readsLine_98 ?_
        refine q_iconst (x := 0) rfl dX10_readsLine_99 ?_
        refine q_bind hyp (fun p17 e27 hyp => ?_)
        refine q_callV (as := [.int 0]) (st := []) kY_X10_needsMatter kL_X10_277 (okX10_needsMatter (l := l) e27) (by decide) rfl (obX10_needsMatter e27) (Nat.le_of_ble_eq_true rfl) dX10_readsLine_100 ?_
        refine q_to (ls' := [(2, .int (200 + x10)), (1, .int s0), (0, .ref v0)]) (st' := [.int p17.1]) rfl rfl ?_
        refine q_if_ne (tgt := 108) dX10_readsLine_103 (by decide) (fun c18 => ?_) (fun c18 => ?_)
        · have hyp := q_neg c18 hyp
          refine q_aload_n 2 rfl dX10_readsLine_108 ?_
          refine q_bind hyp (fun x19 e20 hyp => ?_)
          refine q_getR kF_X10_84 dX10_readsLine_109 e20 ?_
          refine q_iload_n 0 rfl dX10_readsLine_112 ?_
          refine q_aload_n 2 rfl dX10_readsLine_113 ?_
          refine q_bind hyp (fun x21 e22 hyp => ?_)
          refine q_getI kF_X10_256 dX10_readsLine_114 e22 ?_
          refine q_bind hyp (fun h23 e24 hyp => ?_)
          refine q_iast dX10_readsLine_117 e24 ?_
          refine q_aload_n 2 rfl dX10_readsLine_118 ?_
          refine q_bind hyp (fun h25 e26 hyp => ?_)
          refine q_callV (as := []) (st := []) kY_X10_nextToken kL_X10_206 (okX10_nextToken (l := l) e26) (by decide) rfl (obX10_nextToken e26) (Nat.le_of_ble_eq_true rfl) dX10_readsLine_119 ?_
          refine q_to (ls' := [(2, .int (200 + x10)), (1, .int s0), (0, .ref v0)]) (st' := []) rfl rfl ?_
          exact q_sub [2] rfl (okX10_readsLine_b122 hyp)
        · have hyp := q_pos c18 hyp
          refine q_iconst (x := 0) rfl dX10_readsLine_106 ?_
          exact q_iretH rfl rfl dX10_readsLine_107 hyp
    · have hyp := q_pos c6 hyp
      refine q_aload_n 1 rfl dX10_readsLine_65 ?_
      refine q_iconst (x := 5) rfl dX10_readsLine_66 ?_
      refine q_bind hyp (fun p29 e31 hyp => ?_)
      refine q_callV (as := [.int 5]) (st := []) kY_X10_fails kL_X10_200 (okX10_fails (l := l) e31) (by decide) rfl (obX10_fails e31) (Nat.le_of_ble_eq_true rfl) dX10_readsLine_67 ?_
      refine q_to (ls' := [(1, .int s0), (0, .ref v0)]) (st' := [.int p29.1]) rfl rfl ?_
      refine q_bind hyp (fun _ e30 hyp => ?_)
      exact q_iretH rfl (qB_some e30) dX10_readsLine_70 hyp
  · have hyp := q_neg c1 hyp
    refine q_aload_n 1 rfl dX10_readsLine_48 ?_
    refine q_iconst (x := 1) rfl dX10_readsLine_49 ?_
    refine q_bind hyp (fun p32 e34 hyp => ?_)
    refine q_callV (as := [.int 1]) (st := []) kY_X10_fails kL_X10_200 (okX10_fails (l := l) e34) (by decide) rfl (obX10_fails e34) (Nat.le_of_ble_eq_true rfl) dX10_readsLine_50 ?_
    refine q_to (ls' := [(1, .int s0), (0, .ref v0)]) (st' := [.int p32.1]) rfl rfl ?_
    refine q_bind hyp (fun _ e33 hyp => ?_)
    exact q_iretH rfl (qB_some e33) dX10_readsLine_53 hyp
def fX10_readsLine (n : Nat) (v0 : Nat) (h : qH) : Option (Int32 × qH) :=
  (isO h v0 10).bind fun _ =>
  (fX10_isWord v0 281490259 h).bind fun p1 =>
  if p1.1 = 0 then
  ((fX10_isWord v0 3692 p1.2).bind fun p3 =>
  if p3.1 = 0 then
  ((fX10_isWord v0 495765 p3.2).bind fun p5 =>
  if p5.1 = 0 then
  (fX10_readsLine_b43 n v0 ((-1)) p5.2)
  else
  (fX10_readsLine_b43 n v0 2 p5.2))
  else
  (fX10_readsLine_b43 n v0 1 p3.2))
  else
  (fX10_readsLine_b43 n v0 0 p1.2)
theorem obX10_readsLine {n : Nat} {v0 : Nat} {h : qH} {p : Int32 × qH} (hyp : fX10_readsLine n v0 h = some p) : ∃ fs, h.1 v0 = some (.inr (10, fs)) := by
  unfold fX10_readsLine at hyp
  exact q_bind hyp (fun _ e _ => isO_some e)
set_option maxHeartbeats 4000000 in
set_option maxRecDepth 100000 in
theorem okX10_readsLine {l : Launch} {n : Nat} {v0 : Nat} {h : qH} {p : Int32 × qH} (hyp : fX10_readsLine n v0 h = some p) : q_M l 4 yX10_readsLine cX10_readsLine 3 (some .boolean) [.ref v0] h (some (.int p.1)) p.2 := by
  obtain ⟨r, h'⟩ := p
  unfold fX10_readsLine at hyp
  refine q_bind hyp (fun _ _ hyp => ?_)
  refine q_M.of (by decide) (Nat.le_of_ble_eq_true rfl) ?_
  refine q_to (ls' := [(0, .ref v0)]) (st' := []) rfl rfl ?_
  refine q_aload_n 0 rfl dX10_readsLine_0 ?_
  refine q_ldc2 kK_X10_238 dX10_readsLine_1 ?_
  refine q_bind hyp (fun p1 e9 hyp => ?_)
  refine q_callV (as := [.long 281490259]) (st := []) kY_X10_isWord kL_X10_192 (okX10_isWord (l := l) e9) (by decide) rfl (obX10_isWord e9) (Nat.le_of_ble_eq_true rfl) dX10_readsLine_4 ?_
  refine q_to (ls' := [(0, .ref v0)]) (st' := [.int p1.1]) rfl rfl ?_
  refine q_if_eq (tgt := 14) dX10_readsLine_7 (by decide) (fun c2 => ?_) (fun c2 => ?_)
  · have hyp := q_pos c2 hyp
    refine q_aload_n 0 rfl dX10_readsLine_14 ?_
    refine q_ldc2 kK_X10_240 dX10_readsLine_15 ?_
    refine q_bind hyp (fun p3 e8 hyp => ?_)
    refine q_callV (as := [.long 3692]) (st := []) kY_X10_isWord kL_X10_192 (okX10_isWord (l := l) e8) (by decide) rfl (obX10_isWord e8) (Nat.le_of_ble_eq_true rfl) dX10_readsLine_18 ?_
    refine q_to (ls' := [(0, .ref v0)]) (st' := [.int p3.1]) rfl rfl ?_
    refine q_if_eq (tgt := 28) dX10_readsLine_21 (by decide) (fun c4 => ?_) (fun c4 => ?_)
    · have hyp := q_pos c4 hyp
      refine q_aload_n 0 rfl dX10_readsLine_28 ?_
      refine q_ldc2 kK_X10_242 dX10_readsLine_29 ?_
      refine q_bind hyp (fun p5 e7 hyp => ?_)
      refine q_callV (as := [.long 495765]) (st := []) kY_X10_isWord kL_X10_192 (okX10_isWord (l := l) e7) (by decide) rfl (obX10_isWord e7) (Nat.le_of_ble_eq_true rfl) dX10_readsLine_32 ?_
      refine q_to (ls' := [(0, .ref v0)]) (st' := [.int p5.1]) rfl rfl ?_
      refine q_if_eq (tgt := 42) dX10_readsLine_35 (by decide) (fun c6 => ?_) (fun c6 => ?_)
      · have hyp := q_pos c6 hyp
        refine q_iconst (x := (-1)) rfl dX10_readsLine_42 ?_
        exact q_sub [0] rfl (okX10_readsLine_b43 hyp)
      · have hyp := q_neg c6 hyp
        refine q_iconst (x := 2) rfl dX10_readsLine_38 ?_
        refine q_goto (tgt := 43) dX10_readsLine_39 (by decide) ?_
        exact q_sub [0] rfl (okX10_readsLine_b43 hyp)
    · have hyp := q_neg c4 hyp
      refine q_iconst (x := 1) rfl dX10_readsLine_24 ?_
      refine q_goto (tgt := 43) dX10_readsLine_25 (by decide) ?_
      exact q_sub [0] rfl (okX10_readsLine_b43 hyp)
  · have hyp := q_neg c2 hyp
    refine q_iconst (x := 0) rfl dX10_readsLine_10 ?_
    refine q_goto (tgt := 43) dX10_readsLine_11 (by decide) ?_
    exact q_sub [0] rfl (okX10_readsLine_b43 hyp)
