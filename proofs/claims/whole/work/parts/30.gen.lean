/-! Functions over the abstract heap, and that the machine computes them (written by gen.py). -/
theorem dX10_thrown_0 : decode cX10_thrown 0 = .ok (.aload_n 0, 1) := by decide +kernel
theorem dX10_thrown_1 : decode cX10_thrown 1 = .ok (.getfield 136, 3) := by decide +kernel
theorem dX10_thrown_4 : decode cX10_thrown 4 = .ok (.ireturn, 1) := by decide +kernel
def fX10_thrown (v0 : Nat) (h : qH) : Option (Int32 × qH) :=
  (isO h v0 10).bind fun _ =>
  (gI h v0 10 0).bind fun x1 =>
  some (x1, h)
theorem obX10_thrown {v0 : Nat} {h : qH} {p : Int32 × qH} (hyp : fX10_thrown v0 h = some p) : ∃ fs, h.1 v0 = some (.inr (10, fs)) := by
  unfold fX10_thrown at hyp
  exact q_bind hyp (fun _ e _ => isO_some e)
set_option maxHeartbeats 4000000 in
set_option maxRecDepth 100000 in
theorem okX10_thrown {l : Launch} {v0 : Nat} {h : qH} {p : Int32 × qH} (hyp : fX10_thrown v0 h = some p) : q_M l 1 yX10_thrown cX10_thrown 1 (some .int) [.ref v0] h (some (.int p.1)) p.2 := by
  obtain ⟨r, h'⟩ := p
  unfold fX10_thrown at hyp
  refine q_bind hyp (fun _ _ hyp => ?_)
  refine q_M.of (by decide) (Nat.le_of_ble_eq_true rfl) ?_
  refine q_to (ls' := [(0, .ref v0)]) (st' := []) rfl rfl ?_
  refine q_aload_n 0 rfl dX10_thrown_0 ?_
  refine q_bind hyp (fun x1 e2 hyp => ?_)
  refine q_getI kF_X10_136 dX10_thrown_1 e2 ?_
  exact q_iretH rfl rfl dX10_thrown_4 hyp
theorem dX10_undo_0 : decode cX10_undo 0 = .ok (.aload_n 0, 1) := by decide +kernel
theorem dX10_undo_1 : decode cX10_undo 1 = .ok (.iconst 0, 1) := by decide +kernel
theorem dX10_undo_2 : decode cX10_undo 2 = .ok (.putfield 136, 3) := by decide +kernel
theorem dX10_undo_5 : decode cX10_undo 5 = .ok (.aload_n 0, 1) := by decide +kernel
theorem dX10_undo_6 : decode cX10_undo 6 = .ok (.getfield 314, 3) := by decide +kernel
theorem dX10_undo_9 : decode cX10_undo 9 = .ok (.ifCond .ne 5, 3) := by decide +kernel
theorem dX10_undo_12 : decode cX10_undo 12 = .ok (.iconst 0, 1) := by decide +kernel
theorem dX10_undo_13 : decode cX10_undo 13 = .ok (.ireturn, 1) := by decide +kernel
theorem dX10_undo_14 : decode cX10_undo 14 = .ok (.aload_n 0, 1) := by decide +kernel
theorem dX10_undo_15 : decode cX10_undo 15 = .ok (.dup, 1) := by decide +kernel
theorem dX10_undo_16 : decode cX10_undo 16 = .ok (.getfield 314, 3) := by decide +kernel
theorem dX10_undo_19 : decode cX10_undo 19 = .ok (.iconst 1, 1) := by decide +kernel
theorem dX10_undo_20 : decode cX10_undo 20 = .ok (.isub, 1) := by decide +kernel
theorem dX10_undo_21 : decode cX10_undo 21 = .ok (.putfield 314, 3) := by decide +kernel
theorem dX10_undo_24 : decode cX10_undo 24 = .ok (.aload_n 0, 1) := by decide +kernel
theorem dX10_undo_25 : decode cX10_undo 25 = .ok (.getfield 111, 3) := by decide +kernel
theorem dX10_undo_28 : decode cX10_undo 28 = .ok (.bipush 16, 2) := by decide +kernel
theorem dX10_undo_30 : decode cX10_undo 30 = .ok (.aload_n 0, 1) := by decide +kernel
theorem dX10_undo_31 : decode cX10_undo 31 = .ok (.getfield 314, 3) := by decide +kernel
theorem dX10_undo_34 : decode cX10_undo 34 = .ok (.imul, 1) := by decide +kernel
theorem dX10_undo_35 : decode cX10_undo 35 = .ok (.aload_n 0, 1) := by decide +kernel
theorem dX10_undo_36 : decode cX10_undo 36 = .ok (.getfield 99, 3) := by decide +kernel
theorem dX10_undo_39 : decode cX10_undo 39 = .ok (.iconst 0, 1) := by decide +kernel
theorem dX10_undo_40 : decode cX10_undo 40 = .ok (.invokestatic 355, 3) := by decide +kernel
theorem dX10_undo_43 : decode cX10_undo 43 = .ok (.iconst 1, 1) := by decide +kernel
theorem dX10_undo_44 : decode cX10_undo 44 = .ok (.ireturn, 1) := by decide +kernel
def fX10_undo (n : Nat) (v0 : Nat) (h : qH) : Option (Int32 × qH) :=
  (isO h v0 10).bind fun _ =>
  (pF h v0 10 0 (.int 0)).bind fun h1 =>
  (gI h1 v0 10 47).bind fun x3 =>
  if x3 = 0 then
  (some (0, h1))
  else
  ((gI h1 v0 10 47).bind fun x6 =>
  (pF h1 v0 10 47 (.int (x6 - 1))).bind fun h8 =>
  (gR h8 v0 10 45).bind fun x10 =>
  (gI h8 v0 10 47).bind fun x12 =>
  (gR h8 v0 10 41).bind fun x14 =>
  (fX10_copies n x10 (16 * x12) x14 0 h8).bind fun h16 =>
  some (1, h16))
theorem obX10_undo {n : Nat} {v0 : Nat} {h : qH} {p : Int32 × qH} (hyp : fX10_undo n v0 h = some p) : ∃ fs, h.1 v0 = some (.inr (10, fs)) := by
  unfold fX10_undo at hyp
  exact q_bind hyp (fun _ e _ => isO_some e)
set_option maxHeartbeats 4000000 in
set_option maxRecDepth 100000 in
theorem okX10_undo {l : Launch} {n : Nat} {v0 : Nat} {h : qH} {p : Int32 × qH} (hyp : fX10_undo n v0 h = some p) : q_M l 2 yX10_undo cX10_undo 1 (some .boolean) [.ref v0] h (some (.int p.1)) p.2 := by
  obtain ⟨r, h'⟩ := p
  unfold fX10_undo at hyp
  refine q_bind hyp (fun _ _ hyp => ?_)
  refine q_M.of (by decide) (Nat.le_of_ble_eq_true rfl) ?_
  refine q_to (ls' := [(0, .ref v0)]) (st' := []) rfl rfl ?_
  refine q_aload_n 0 rfl dX10_undo_0 ?_
  refine q_iconst (x := 0) rfl dX10_undo_1 ?_
  refine q_bind hyp (fun h1 e2 hyp => ?_)
  refine q_putF kF_X10_136 (fun _ => ⟨rfl, rfl⟩) dX10_undo_2 e2 ?_
  refine q_aload_n 0 rfl dX10_undo_5 ?_
  refine q_bind hyp (fun x3 e4 hyp => ?_)
  refine q_getI kF_X10_314 dX10_undo_6 e4 ?_
  refine q_if_ne (tgt := 14) dX10_undo_9 (by decide) (fun c5 => ?_) (fun c5 => ?_)
  · have hyp := q_neg c5 hyp
    refine q_aload_n 0 rfl dX10_undo_14 ?_
    refine q_dup rfl dX10_undo_15 ?_
    refine q_bind hyp (fun x6 e7 hyp => ?_)
    refine q_getI kF_X10_314 dX10_undo_16 e7 ?_
    refine q_iconst (x := 1) rfl dX10_undo_19 ?_
    refine q_isub dX10_undo_20 ?_
    refine q_bind hyp (fun h8 e9 hyp => ?_)
    refine q_putF kF_X10_314 (fun _ => ⟨rfl, rfl⟩) dX10_undo_21 e9 ?_
    refine q_aload_n 0 rfl dX10_undo_24 ?_
    refine q_bind hyp (fun x10 e11 hyp => ?_)
    refine q_getR kF_X10_111 dX10_undo_25 e11 ?_
    refine q_bipush (x := 16) (by decide) dX10_undo_28 ?_
    refine q_aload_n 0 rfl dX10_undo_30 ?_
    refine q_bind hyp (fun x12 e13 hyp => ?_)
    refine q_getI kF_X10_314 dX10_undo_31 e13 ?_
    refine q_imul dX10_undo_34 ?_
    refine q_aload_n 0 rfl dX10_undo_35 ?_
    refine q_bind hyp (fun x14 e15 hyp => ?_)
    refine q_getR kF_X10_99 dX10_undo_36 e15 ?_
    refine q_iconst (x := 0) rfl dX10_undo_39 ?_
    refine q_bind hyp (fun h16 e17 hyp => ?_)
    refine q_callS (as := [.ref x10, .int (16 * x12), .ref x14, .int 0]) (st := []) kY_X10_copies kS_X10_copies kL_X10_355 (okX10_copies (l := l) e17) (by decide) rfl (Nat.le_of_ble_eq_true rfl) dX10_undo_40 ?_
    refine q_to (ls' := [(0, .ref v0)]) (st' := []) rfl rfl ?_
    refine q_iconst (x := 1) rfl dX10_undo_43 ?_
    exact q_iretH rfl rfl dX10_undo_44 hyp
  · have hyp := q_pos c5 hyp
    refine q_iconst (x := 0) rfl dX10_undo_12 ?_
    exact q_iretH rfl rfl dX10_undo_13 hyp
theorem dX10_wants_0 : decode cX10_wants 0 = .ok (.aload_n 0, 1) := by decide +kernel
theorem dX10_wants_1 : decode cX10_wants 1 = .ok (.iconst 0, 1) := by decide +kernel
theorem dX10_wants_2 : decode cX10_wants 2 = .ok (.putfield 136, 3) := by decide +kernel
theorem dX10_wants_5 : decode cX10_wants 5 = .ok (.aload_n 0, 1) := by decide +kernel
theorem dX10_wants_6 : decode cX10_wants 6 = .ok (.iload_n 1, 1) := by decide +kernel
theorem dX10_wants_7 : decode cX10_wants 7 = .ok (.invokevirtual 346, 3) := by decide +kernel
theorem dX10_wants_10 : decode cX10_wants 10 = .ok (.ifCond .eq 11, 3) := by decide +kernel
theorem dX10_wants_13 : decode cX10_wants 13 = .ok (.aload_n 0, 1) := by decide +kernel
theorem dX10_wants_14 : decode cX10_wants 14 = .ok (.iload_n 1, 1) := by decide +kernel
theorem dX10_wants_15 : decode cX10_wants 15 = .ok (.invokevirtual 380, 3) := by decide +kernel
theorem dX10_wants_18 : decode cX10_wants 18 = .ok (.goto 4, 3) := by decide +kernel
theorem dX10_wants_21 : decode cX10_wants 21 = .ok (.iconst (-1), 1) := by decide +kernel
theorem dX10_wants_22 : decode cX10_wants 22 = .ok (.ireturn, 1) := by decide +kernel
def fX10_wants (n : Nat) (v0 : Nat) (v1 : Int32) (h : qH) : Option (Int32 × qH) :=
  (isO h v0 10).bind fun _ =>
  (pF h v0 10 0 (.int 0)).bind fun h1 =>
  (fX10_isMatter v0 v1 h1).bind fun p3 =>
  if p3.1 = 0 then
  (some ((-1), p3.2))
  else
  ((fX10_wantsOf n v0 v1 p3.2).bind fun p5 =>
  some (p5.1, p5.2))
theorem obX10_wants {n : Nat} {v0 : Nat} {v1 : Int32} {h : qH} {p : Int32 × qH} (hyp : fX10_wants n v0 v1 h = some p) : ∃ fs, h.1 v0 = some (.inr (10, fs)) := by
  unfold fX10_wants at hyp
  exact q_bind hyp (fun _ e _ => isO_some e)
set_option maxHeartbeats 4000000 in
set_option maxRecDepth 100000 in
theorem okX10_wants {l : Launch} {n : Nat} {v0 : Nat} {v1 : Int32} {h : qH} {p : Int32 × qH} (hyp : fX10_wants n v0 v1 h = some p) : q_M l 6 yX10_wants cX10_wants 2 (some .int) [.ref v0, .int v1] h (some (.int p.1)) p.2 := by
  obtain ⟨r, h'⟩ := p
  unfold fX10_wants at hyp
  refine q_bind hyp (fun _ _ hyp => ?_)
  refine q_M.of (by decide) (Nat.le_of_ble_eq_true rfl) ?_
  refine q_to (ls' := [(0, .ref v0), (1, .int v1)]) (st' := []) rfl rfl ?_
  refine q_aload_n 0 rfl dX10_wants_0 ?_
  refine q_iconst (x := 0) rfl dX10_wants_1 ?_
  refine q_bind hyp (fun h1 e2 hyp => ?_)
  refine q_putF kF_X10_136 (fun _ => ⟨rfl, rfl⟩) dX10_wants_2 e2 ?_
  refine q_aload_n 0 rfl dX10_wants_5 ?_
  refine q_iload_n 1 rfl dX10_wants_6 ?_
  refine q_bind hyp (fun p3 e7 hyp => ?_)
  refine q_callV (as := [.int v1]) (st := []) kY_X10_isMatter kL_X10_346 (okX10_isMatter (l := l) e7) (by decide) rfl (obX10_isMatter e7) (Nat.le_of_ble_eq_true rfl) dX10_wants_7 ?_
  refine q_to (ls' := [(0, .ref v0), (1, .int v1)]) (st' := [.int p3.1]) rfl rfl ?_
  refine q_if_eq (tgt := 21) dX10_wants_10 (by decide) (fun c4 => ?_) (fun c4 => ?_)
  · have hyp := q_pos c4 hyp
    refine q_iconst (x := (-1)) rfl dX10_wants_21 ?_
    exact q_iretH rfl rfl dX10_wants_22 hyp
  · have hyp := q_neg c4 hyp
    refine q_aload_n 0 rfl dX10_wants_13 ?_
    refine q_iload_n 1 rfl dX10_wants_14 ?_
    refine q_bind hyp (fun p5 e6 hyp => ?_)
    refine q_callV (as := [.int v1]) (st := []) kY_X10_wantsOf kL_X10_380 (okX10_wantsOf (l := l) e6) (by decide) rfl (obX10_wantsOf e6) (Nat.le_of_ble_eq_true rfl) dX10_wants_15 ?_
    refine q_to (ls' := [(0, .ref v0), (1, .int v1)]) (st' := [.int p5.1]) rfl rfl ?_
    refine q_goto (tgt := 22) dX10_wants_18 (by decide) ?_
    exact q_iretH rfl rfl dX10_wants_22 hyp
theorem dX10_ways_0 : decode cX10_ways 0 = .ok (.aload_n 0, 1) := by decide +kernel
theorem dX10_ways_1 : decode cX10_ways 1 = .ok (.iconst 0, 1) := by decide +kernel
theorem dX10_ways_2 : decode cX10_ways 2 = .ok (.putfield 136, 3) := by decide +kernel
theorem dX10_ways_5 : decode cX10_ways 5 = .ok (.aload_n 0, 1) := by decide +kernel
theorem dX10_ways_6 : decode cX10_ways 6 = .ok (.iload_n 1, 1) := by decide +kernel
theorem dX10_ways_7 : decode cX10_ways 7 = .ok (.invokevirtual 346, 3) := by decide +kernel
theorem dX10_ways_10 : decode cX10_ways 10 = .ok (.ifCond .eq 11, 3) := by decide +kernel
theorem dX10_ways_13 : decode cX10_ways 13 = .ok (.aload_n 0, 1) := by decide +kernel
theorem dX10_ways_14 : decode cX10_ways 14 = .ok (.iload_n 2, 1) := by decide +kernel
theorem dX10_ways_15 : decode cX10_ways 15 = .ok (.invokevirtual 346, 3) := by decide +kernel
theorem dX10_ways_18 : decode cX10_ways 18 = .ok (.ifCond .ne 5, 3) := by decide +kernel
theorem dX10_ways_21 : decode cX10_ways 21 = .ok (.iconst (-1), 1) := by decide +kernel
theorem dX10_ways_22 : decode cX10_ways 22 = .ok (.ireturn, 1) := by decide +kernel
theorem dX10_ways_23 : decode cX10_ways 23 = .ok (.iconst 0, 1) := by decide +kernel
theorem dX10_ways_24 : decode cX10_ways 24 = .ok (.istore_n 3, 1) := by decide +kernel
theorem dX10_ways_25 : decode cX10_ways 25 = .ok (.iload_n 3, 1) := by decide +kernel
theorem dX10_ways_26 : decode cX10_ways 26 = .ok (.bipush 7, 2) := by decide +kernel
theorem dX10_ways_28 : decode cX10_ways 28 = .ok (.if_icmp .ge 25, 3) := by decide +kernel
theorem dX10_ways_31 : decode cX10_ways 31 = .ok (.aload_n 0, 1) := by decide +kernel
theorem dX10_ways_32 : decode cX10_ways 32 = .ok (.getfield 123, 3) := by decide +kernel
theorem dX10_ways_35 : decode cX10_ways 35 = .ok (.iload_n 3, 1) := by decide +kernel
theorem dX10_ways_36 : decode cX10_ways 36 = .ok (.iload_n 3, 1) := by decide +kernel
theorem dX10_ways_37 : decode cX10_ways 37 = .ok (.iload_n 1, 1) := by decide +kernel
theorem dX10_ways_38 : decode cX10_ways 38 = .ok (.if_icmp .ne 7, 3) := by decide +kernel
theorem dX10_ways_41 : decode cX10_ways 41 = .ok (.iconst 1, 1) := by decide +kernel
theorem dX10_ways_42 : decode cX10_ways 42 = .ok (.goto 4, 3) := by decide +kernel
theorem dX10_ways_45 : decode cX10_ways 45 = .ok (.iconst 0, 1) := by decide +kernel
theorem dX10_ways_46 : decode cX10_ways 46 = .ok (.iastore, 1) := by decide +kernel
theorem dX10_ways_47 : decode cX10_ways 47 = .ok (.iinc 3 1, 3) := by decide +kernel
theorem dX10_ways_50 : decode cX10_ways 50 = .ok (.goto (-25), 3) := by decide +kernel
theorem dX10_ways_53 : decode cX10_ways 53 = .ok (.iconst 0, 1) := by decide +kernel
theorem dX10_ways_54 : decode cX10_ways 54 = .ok (.istore_n 3, 1) := by decide +kernel
theorem dX10_ways_55 : decode cX10_ways 55 = .ok (.iload_n 3, 1) := by decide +kernel
theorem dX10_ways_56 : decode cX10_ways 56 = .ok (.aload_n 0, 1) := by decide +kernel
theorem dX10_ways_57 : decode cX10_ways 57 = .ok (.getfield 13, 3) := by decide +kernel
theorem dX10_ways_60 : decode cX10_ways 60 = .ok (.iconst 0, 1) := by decide +kernel
theorem dX10_ways_61 : decode cX10_ways 61 = .ok (.iaload, 1) := by decide +kernel
theorem dX10_ways_62 : decode cX10_ways 62 = .ok (.if_icmp .ge 73, 3) := by decide +kernel
theorem dX10_ways_65 : decode cX10_ways 65 = .ok (.aload_n 0, 1) := by decide +kernel
theorem dX10_ways_66 : decode cX10_ways 66 = .ok (.iload_n 3, 1) := by decide +kernel
theorem dX10_ways_67 : decode cX10_ways 67 = .ok (.invokevirtual 403, 3) := by decide +kernel
theorem dX10_ways_70 : decode cX10_ways 70 = .ok (.istore 4, 2) := by decide +kernel
theorem dX10_ways_72 : decode cX10_ways 72 = .ok (.iconst 0, 1) := by decide +kernel
theorem dX10_ways_73 : decode cX10_ways 73 = .ok (.istore 5, 2) := by decide +kernel
theorem dX10_ways_75 : decode cX10_ways 75 = .ok (.iload 5, 2) := by decide +kernel
theorem dX10_ways_77 : decode cX10_ways 77 = .ok (.aload_n 0, 1) := by decide +kernel
theorem dX10_ways_78 : decode cX10_ways 78 = .ok (.getfield 13, 3) := by decide +kernel
theorem dX10_ways_81 : decode cX10_ways 81 = .ok (.iconst 0, 1) := by decide +kernel
theorem dX10_ways_82 : decode cX10_ways 82 = .ok (.iaload, 1) := by decide +kernel
theorem dX10_ways_83 : decode cX10_ways 83 = .ok (.if_icmp .ge 46, 3) := by decide +kernel
theorem dX10_ways_86 : decode cX10_ways 86 = .ok (.aload_n 0, 1) := by decide +kernel
theorem dX10_ways_87 : decode cX10_ways 87 = .ok (.getfield 123, 3) := by decide +kernel
theorem dX10_ways_90 : decode cX10_ways 90 = .ok (.iload 5, 2) := by decide +kernel
theorem dX10_ways_92 : decode cX10_ways 92 = .ok (.dup2, 1) := by decide +kernel
theorem dX10_ways_93 : decode cX10_ways 93 = .ok (.iaload, 1) := by decide +kernel
theorem dX10_ways_94 : decode cX10_ways 94 = .ok (.aload_n 0, 1) := by decide +kernel
theorem dX10_ways_95 : decode cX10_ways 95 = .ok (.getfield 29, 3) := by decide +kernel
theorem dX10_ways_98 : decode cX10_ways 98 = .ok (.iload 4, 2) := by decide +kernel
theorem dX10_ways_100 : decode cX10_ways 100 = .ok (.iaload, 1) := by decide +kernel
theorem dX10_ways_101 : decode cX10_ways 101 = .ok (.iload 5, 2) := by decide +kernel
theorem dX10_ways_103 : decode cX10_ways 103 = .ok (.ishr, 1) := by decide +kernel
theorem dX10_ways_104 : decode cX10_ways 104 = .ok (.iconst 1, 1) := by decide +kernel
theorem dX10_ways_105 : decode cX10_ways 105 = .ok (.iand, 1) := by decide +kernel
theorem dX10_ways_106 : decode cX10_ways 106 = .ok (.iconst 1, 1) := by decide +kernel
theorem dX10_ways_107 : decode cX10_ways 107 = .ok (.if_icmp .ne 13, 3) := by decide +kernel
theorem dX10_ways_110 : decode cX10_ways 110 = .ok (.aload_n 0, 1) := by decide +kernel
theorem dX10_ways_111 : decode cX10_ways 111 = .ok (.getfield 123, 3) := by decide +kernel
theorem dX10_ways_114 : decode cX10_ways 114 = .ok (.iload 4, 2) := by decide +kernel
theorem dX10_ways_116 : decode cX10_ways 116 = .ok (.iaload, 1) := by decide +kernel
theorem dX10_ways_117 : decode cX10_ways 117 = .ok (.goto 4, 3) := by decide +kernel
theorem dX10_ways_120 : decode cX10_ways 120 = .ok (.iconst 0, 1) := by decide +kernel
theorem dX10_ways_121 : decode cX10_ways 121 = .ok (.iadd, 1) := by decide +kernel
theorem dX10_ways_122 : decode cX10_ways 122 = .ok (.iastore, 1) := by decide +kernel
theorem dX10_ways_123 : decode cX10_ways 123 = .ok (.iinc 5 1, 3) := by decide +kernel
theorem dX10_ways_126 : decode cX10_ways 126 = .ok (.goto (-51), 3) := by decide +kernel
theorem dX10_ways_129 : decode cX10_ways 129 = .ok (.iinc 3 1, 3) := by decide +kernel
theorem dX10_ways_132 : decode cX10_ways 132 = .ok (.goto (-77), 3) := by decide +kernel
theorem dX10_ways_135 : decode cX10_ways 135 = .ok (.aload_n 0, 1) := by decide +kernel
theorem dX10_ways_136 : decode cX10_ways 136 = .ok (.getfield 123, 3) := by decide +kernel
theorem dX10_ways_139 : decode cX10_ways 139 = .ok (.iload_n 2, 1) := by decide +kernel
theorem dX10_ways_140 : decode cX10_ways 140 = .ok (.iaload, 1) := by decide +kernel
theorem dX10_ways_141 : decode cX10_ways 141 = .ok (.ireturn, 1) := by decide +kernel
def fX10_ways_b121 (n : Nat) (K75 : Nat → Int32 → Int32 → Int32 → Int32 → qH → Option (Int32 × qH)) (v0 : Nat) (v2 : Int32) (v3 : Int32) (v4 : Int32) (v5 : Int32) (s0 : Int32) (s1 : Int32) (s2 : Int32) (s3 : Nat) (h : qH) : Option (Int32 × qH) :=
  (sI .int h s3 s2 (s1 + s0)).bind fun h1 =>
  K75 v0 v2 v3 v4 (v5 + 1) h1
set_option maxHeartbeats 4000000 in
set_option maxRecDepth 100000 in
theorem okX10_ways_b121 {l : Launch} {n : Nat} {K75 : Nat → Int32 → Int32 → Int32 → Int32 → qH → Option (Int32 × qH)} {v0 : Nat} {v2 : Int32} {v3 : Int32} {v4 : Int32} {v5 : Int32} {s0 : Int32} {s1 : Int32} {s2 : Int32} {s3 : Nat} {h : qH} {r : Int32} {h' : qH} (hK75 : ∀ (v0 : Nat) (v2 : Int32) (v3 : Int32) (v4 : Int32) (v5 : Int32) (h : qH), K75 v0 v2 v3 v4 v5 h = some (r, h') → q_W l 2 yX10_ways cX10_ways 6 (some .int) (some (.int r)) h' 75 [(0, .ref v0), (2, .int v2), (3, .int v3), (4, .int v4), (5, .int v5)] [] h) (hyp : fX10_ways_b121 n K75 v0 v2 v3 v4 v5 s0 s1 s2 s3 h = some (r, h')) : q_W l 2 yX10_ways cX10_ways 6 (some .int) (some (.int r)) h' 121 [(0, .ref v0), (2, .int v2), (3, .int v3), (4, .int v4), (5, .int v5)] [.int s0, .int s1, .int s2, .ref s3] h := by
  unfold fX10_ways_b121 at hyp
  refine q_iadd dX10_ways_121 ?_
  refine q_bind hyp (fun h1 e2 hyp => ?_)
  refine q_iast dX10_ways_122 e2 ?_
  refine q_iinc (ls' := [(5, .int (v5 + 1)), (0, .ref v0), (2, .int v2), (3, .int v3), (4, .int v4)]) 4 rfl rfl (by decide) rfl dX10_ways_123 ?_
  refine q_goto (tgt := 75) dX10_ways_126 (by decide) ?_
  exact q_sub [1, 2, 3, 4, 0] rfl (hK75 v0 v2 v3 v4 (v5 + 1) h1 hyp)
def fX10_ways_b75 (n : Nat) (K55 : Nat → Int32 → Int32 → qH → Option (Int32 × qH)) : Nat → Nat → Int32 → Int32 → Int32 → Int32 → qH → Option (Int32 × qH)
  | 0, _, _, _, _, _, _ => none
  | w + 1, v0, v2, v3, v4, v5, h =>
    (gR h v0 10 10).bind fun x1 =>
    (aI .int h x1 0).bind fun x3 =>
    if x3 ≤ v5 then
    (K55 v0 v2 (v3 + 1) h)
    else
    ((gR h v0 10 50).bind fun x6 =>
    (aI .int h x6 v5).bind fun x8 =>
    (gR h v0 10 15).bind fun x10 =>
    (aI .int h x10 v4).bind fun x12 =>
    if ((x12 >>> (v5 &&& 31)) &&& 1) = 1 then
    ((gR h v0 10 50).bind fun x15 =>
    (aI .int h x15 v4).bind fun x17 =>
    fX10_ways_b121 n (fX10_ways_b75 n K55 w) v0 v2 v3 v4 v5 x17 x8 v5 x6 h)
    else
    (fX10_ways_b121 n (fX10_ways_b75 n K55 w) v0 v2 v3 v4 v5 0 x8 v5 x6 h))
set_option maxHeartbeats 4000000 in
set_option maxRecDepth 100000 in
theorem okX10_ways_b75 {l : Launch} {n : Nat} {K55 : Nat → Int32 → Int32 → qH → Option (Int32 × qH)} {r : Int32} {h' : qH} (hK55 : ∀ (v0 : Nat) (v2 : Int32) (v3 : Int32) (h : qH), K55 v0 v2 v3 h = some (r, h') → q_W l 2 yX10_ways cX10_ways 6 (some .int) (some (.int r)) h' 55 [(0, .ref v0), (2, .int v2), (3, .int v3)] [] h) : ∀ (w : Nat) (v0 : Nat) (v2 : Int32) (v3 : Int32) (v4 : Int32) (v5 : Int32) (h : qH), fX10_ways_b75 n K55 w v0 v2 v3 v4 v5 h = some (r, h') → q_W l 2 yX10_ways cX10_ways 6 (some .int) (some (.int r)) h' 75 [(0, .ref v0), (2, .int v2), (3, .int v3), (4, .int v4), (5, .int v5)] [] h := by
  intro w
  induction w with
  | zero => intro v0 v2 v3 v4 v5 h hyp; cases hyp
  | succ w ih =>
    intro v0 v2 v3 v4 v5 h hyp
    unfold fX10_ways_b75 at hyp
    refine q_iload 4 rfl dX10_ways_75 ?_
    refine q_aload_n 0 rfl dX10_ways_77 ?_
    refine q_bind hyp (fun x1 e2 hyp => ?_)
    refine q_getR kF_X10_13 dX10_ways_78 e2 ?_
    refine q_iconst (x := 0) rfl dX10_ways_81 ?_
    refine q_bind hyp (fun x3 e4 hyp => ?_)
    refine q_iald dX10_ways_82 e4 ?_
    refine q_icmp_ge (tgt := 129) dX10_ways_83 (by decide) (fun c5 => ?_) (fun c5 => ?_)
    · have hyp := q_pos c5 hyp
      refine q_iinc (ls' := [(3, .int (v3 + 1)), (0, .ref v0), (2, .int v2), (4, .int v4), (5, .int v5)]) 2 rfl rfl (by decide) rfl dX10_ways_129 ?_
      refine q_goto (tgt := 55) dX10_ways_132 (by decide) ?_
      exact q_sub [1, 2, 0] rfl (hK55 v0 v2 (v3 + 1) h hyp)
    · have hyp := q_neg c5 hyp
      refine q_aload_n 0 rfl dX10_ways_86 ?_
      refine q_bind hyp (fun x6 e7 hyp => ?_)
      refine q_getR kF_X10_123 dX10_ways_87 e7 ?_
      refine q_iload 4 rfl dX10_ways_90 ?_
      refine q_dup2 rfl rfl dX10_ways_92 ?_
      refine q_bind hyp (fun x8 e9 hyp => ?_)
      refine q_iald dX10_ways_93 e9 ?_
      refine q_aload_n 0 rfl dX10_ways_94 ?_
      refine q_bind hyp (fun x10 e11 hyp => ?_)
      refine q_getR kF_X10_29 dX10_ways_95 e11 ?_
      refine q_iload 3 rfl dX10_ways_98 ?_
      refine q_bind hyp (fun x12 e13 hyp => ?_)
      refine q_iald dX10_ways_100 e13 ?_
      refine q_iload 4 rfl dX10_ways_101 ?_
      refine q_ishr dX10_ways_103 ?_
      refine q_iconst (x := 1) rfl dX10_ways_104 ?_
      refine q_iand dX10_ways_105 ?_
      refine q_iconst (x := 1) rfl dX10_ways_106 ?_
      refine q_icmp_ne (tgt := 120) dX10_ways_107 (by decide) (fun c14 => ?_) (fun c14 => ?_)
      · have hyp := q_neg c14 hyp
        refine q_iconst (x := 0) rfl dX10_ways_120 ?_
        exact q_sub [0, 1, 2, 3, 4] rfl (okX10_ways_b121 ih hyp)
      · have hyp := q_pos c14 hyp
        refine q_aload_n 0 rfl dX10_ways_110 ?_
        refine q_bind hyp (fun x15 e16 hyp => ?_)
        refine q_getR kF_X10_123 dX10_ways_111 e16 ?_
        refine q_iload 3 rfl dX10_ways_114 ?_
        refine q_bind hyp (fun x17 e18 hyp => ?_)
        refine q_iald dX10_ways_116 e18 ?_
        refine q_goto (tgt := 121) dX10_ways_117 (by decide) ?_
        exact q_sub [0, 1, 2, 3, 4] rfl (okX10_ways_b121 ih hyp)
def fX10_ways_b55 (n : Nat) : Nat → Nat → Int32 → Int32 → qH → Option (Int32 × qH)
  | 0, _, _, _, _ => none
  | w + 1, v0, v2, v3, h =>
    (gR h v0 10 10).bind fun x1 =>
    (aI .int h x1 0).bind fun x3 =>
    if x3 ≤ v3 then
    ((gR h v0 10 50).bind fun x6 =>
    (aI .int h x6 v2).bind fun x8 =>
    some (x8, h))
    else
    ((fX10_byYears n v0 v3 h).bind fun p10 =>
    fX10_ways_b75 n (fX10_ways_b55 n w) n v0 v2 v3 p10.1 0 p10.2)
set_option maxHeartbeats 4000000 in
set_option maxRecDepth 100000 in
theorem okX10_ways_b55 {l : Launch} {n : Nat} {r : Int32} {h' : qH} : ∀ (w : Nat) (v0 : Nat) (v2 : Int32) (v3 : Int32) (h : qH), fX10_ways_b55 n w v0 v2 v3 h = some (r, h') → q_W l 2 yX10_ways cX10_ways 6 (some .int) (some (.int r)) h' 55 [(0, .ref v0), (2, .int v2), (3, .int v3)] [] h := by
  intro w
  induction w with
  | zero => intro v0 v2 v3 h hyp; cases hyp
  | succ w ih =>
    intro v0 v2 v3 h hyp
    unfold fX10_ways_b55 at hyp
    refine q_iload_n 2 rfl dX10_ways_55 ?_
    refine q_aload_n 0 rfl dX10_ways_56 ?_
    refine q_bind hyp (fun x1 e2 hyp => ?_)
    refine q_getR kF_X10_13 dX10_ways_57 e2 ?_
    refine q_iconst (x := 0) rfl dX10_ways_60 ?_
    refine q_bind hyp (fun x3 e4 hyp => ?_)
    refine q_iald dX10_ways_61 e4 ?_
    refine q_icmp_ge (tgt := 135) dX10_ways_62 (by decide) (fun c5 => ?_) (fun c5 => ?_)
    · have hyp := q_pos c5 hyp
      refine q_aload_n 0 rfl dX10_ways_135 ?_
      refine q_bind hyp (fun x6 e7 hyp => ?_)
      refine q_getR kF_X10_123 dX10_ways_136 e7 ?_
      refine q_iload_n 1 rfl dX10_ways_139 ?_
      refine q_bind hyp (fun x8 e9 hyp => ?_)
      refine q_iald dX10_ways_140 e9 ?_
      exact q_iretH rfl rfl dX10_ways_141 hyp
    · have hyp := q_neg c5 hyp
      refine q_aload_n 0 rfl dX10_ways_65 ?_
      refine q_iload_n 2 rfl dX10_ways_66 ?_
      refine q_bind hyp (fun p10 e11 hyp => ?_)
      refine q_callV (as := [.int v3]) (st := []) kY_X10_byYears kL_X10_403 (okX10_byYears (l := l) e11) (by decide) rfl (obX10_byYears e11) (Nat.le_of_ble_eq_true rfl) dX10_ways_67 ?_
      refine q_to (ls' := [(0, .ref v0), (2, .int v2), (3, .int v3)]) (st' := [.int p10.1]) rfl rfl ?_
      refine q_istore (ls' := [(4, .int p10.1), (0, .ref v0), (2, .int v2), (3, .int v3)]) (by decide) rfl dX10_ways_70 ?_
      refine q_iconst (x := 0) rfl dX10_ways_72 ?_
      refine q_istore (ls' := [(5, .int 0), (4, .int p10.1), (0, .ref v0), (2, .int v2), (3, .int v3)]) (by decide) rfl dX10_ways_73 ?_
      exact q_sub [2, 3, 4, 1, 0] rfl (okX10_ways_b75 ih _ v0 v2 v3 p10.1 0 p10.2 hyp)
def fX10_ways_b46 (n : Nat) (K25 : Nat → Int32 → Int32 → Int32 → qH → Option (Int32 × qH)) (v0 : Nat) (v1 : Int32) (v2 : Int32) (v3 : Int32) (s0 : Int32) (s1 : Int32) (s2 : Nat) (h : qH) : Option (Int32 × qH) :=
  (sI .int h s2 s1 s0).bind fun h1 =>
  K25 v0 v1 v2 (v3 + 1) h1
set_option maxHeartbeats 4000000 in
set_option maxRecDepth 100000 in
theorem okX10_ways_b46 {l : Launch} {n : Nat} {K25 : Nat → Int32 → Int32 → Int32 → qH → Option (Int32 × qH)} {v0 : Nat} {v1 : Int32} {v2 : Int32} {v3 : Int32} {s0 : Int32} {s1 : Int32} {s2 : Nat} {h : qH} {r : Int32} {h' : qH} (hK25 : ∀ (v0 : Nat) (v1 : Int32) (v2 : Int32) (v3 : Int32) (h : qH), K25 v0 v1 v2 v3 h = some (r, h') → q_W l 2 yX10_ways cX10_ways 6 (some .int) (some (.int r)) h' 25 [(0, .ref v0), (1, .int v1), (2, .int v2), (3, .int v3)] [] h) (hyp : fX10_ways_b46 n K25 v0 v1 v2 v3 s0 s1 s2 h = some (r, h')) : q_W l 2 yX10_ways cX10_ways 6 (some .int) (some (.int r)) h' 46 [(0, .ref v0), (1, .int v1), (2, .int v2), (3, .int v3)] [.int s0, .int s1, .ref s2] h := by
  unfold fX10_ways_b46 at hyp
  refine q_bind hyp (fun h1 e2 hyp => ?_)
  refine q_iast dX10_ways_46 e2 ?_
  refine q_iinc (ls' := [(3, .int (v3 + 1)), (0, .ref v0), (1, .int v1), (2, .int v2)]) 3 rfl rfl (by decide) rfl dX10_ways_47 ?_
  refine q_goto (tgt := 25) dX10_ways_50 (by decide) ?_
  exact q_sub [1, 2, 3, 0] rfl (hK25 v0 v1 v2 (v3 + 1) h1 hyp)
def fX10_ways_b25 (n : Nat) : Nat → Nat → Int32 → Int32 → Int32 → qH → Option (Int32 × qH)
  | 0, _, _, _, _, _ => none
  | w + 1, v0, v1, v2, v3, h =>
    if 7 ≤ v3 then
    (fX10_ways_b55 n n v0 v2 0 h)
    else
    ((gR h v0 10 50).bind fun x2 =>
    if v3 = v1 then
    (fX10_ways_b46 n (fX10_ways_b25 n w) v0 v1 v2 v3 1 v3 x2 h)
    else
    (fX10_ways_b46 n (fX10_ways_b25 n w) v0 v1 v2 v3 0 v3 x2 h))
set_option maxHeartbeats 4000000 in
set_option maxRecDepth 100000 in
theorem okX10_ways_b25 {l : Launch} {n : Nat} {r : Int32} {h' : qH} : ∀ (w : Nat) (v0 : Nat) (v1 : Int32) (v2 : Int32) (v3 : Int32) (h : qH), fX10_ways_b25 n w v0 v1 v2 v3 h = some (r, h') → q_W l 2 yX10_ways cX10_ways 6 (some .int) (some (.int r)) h' 25 [(0, .ref v0), (1, .int v1), (2, .int v2), (3, .int v3)] [] h := by
  intro w
  induction w with
  | zero => intro v0 v1 v2 v3 h hyp; cases hyp
  | succ w ih =>
    intro v0 v1 v2 v3 h hyp
    unfold fX10_ways_b25 at hyp
    refine q_iload_n 3 rfl dX10_ways_25 ?_
    refine q_bipush (x := 7) (by decide) dX10_ways_26 ?_
    refine q_icmp_ge (tgt := 53) dX10_ways_28 (by decide) (fun c1 => ?_) (fun c1 => ?_)
    · have hyp := q_pos c1 hyp
      refine q_iconst (x := 0) rfl dX10_ways_53 ?_
      refine q_istore_n (ls' := [(3, .int 0), (0, .ref v0), (1, .int v1), (2, .int v2)]) (by decide) rfl dX10_ways_54 ?_
      exact q_sub [1, 3, 0] rfl (okX10_ways_b55 _ v0 v2 0 h hyp)
    · have hyp := q_neg c1 hyp
      refine q_aload_n 0 rfl dX10_ways_31 ?_
      refine q_bind hyp (fun x2 e3 hyp => ?_)
      refine q_getR kF_X10_123 dX10_ways_32 e3 ?_
      refine q_iload_n 3 rfl dX10_ways_35 ?_
      refine q_iload_n 3 rfl dX10_ways_36 ?_
      refine q_iload_n 1 rfl dX10_ways_37 ?_
      refine q_icmp_ne (tgt := 45) dX10_ways_38 (by decide) (fun c4 => ?_) (fun c4 => ?_)
      · have hyp := q_neg c4 hyp
        refine q_iconst (x := 0) rfl dX10_ways_45 ?_
        exact q_sub [0, 1, 2, 3] rfl (okX10_ways_b46 ih hyp)
      · have hyp := q_pos c4 hyp
        refine q_iconst (x := 1) rfl dX10_ways_41 ?_
        refine q_goto (tgt := 46) dX10_ways_42 (by decide) ?_
        exact q_sub [0, 1, 2, 3] rfl (okX10_ways_b46 ih hyp)
def fX10_ways (n : Nat) (v0 : Nat) (v1 : Int32) (v2 : Int32) (h : qH) : Option (Int32 × qH) :=
  (isO h v0 10).bind fun _ =>
  (pF h v0 10 0 (.int 0)).bind fun h1 =>
  (fX10_isMatter v0 v1 h1).bind fun p3 =>
  if p3.1 = 0 then
  (some ((-1), p3.2))
  else
  ((fX10_isMatter v0 v2 p3.2).bind fun p5 =>
  if p5.1 = 0 then
  (some ((-1), p5.2))
  else
  (fX10_ways_b25 n n v0 v1 v2 0 p5.2))
theorem obX10_ways {n : Nat} {v0 : Nat} {v1 : Int32} {v2 : Int32} {h : qH} {p : Int32 × qH} (hyp : fX10_ways n v0 v1 v2 h = some p) : ∃ fs, h.1 v0 = some (.inr (10, fs)) := by
  unfold fX10_ways at hyp
  exact q_bind hyp (fun _ e _ => isO_some e)
set_option maxHeartbeats 4000000 in
set_option maxRecDepth 100000 in
theorem okX10_ways {l : Launch} {n : Nat} {v0 : Nat} {v1 : Int32} {v2 : Int32} {h : qH} {p : Int32 × qH} (hyp : fX10_ways n v0 v1 v2 h = some p) : q_M l 2 yX10_ways cX10_ways 6 (some .int) [.ref v0, .int v1, .int v2] h (some (.int p.1)) p.2 := by
  obtain ⟨r, h'⟩ := p
  unfold fX10_ways at hyp
  refine q_bind hyp (fun _ _ hyp => ?_)
  refine q_M.of (by decide) (Nat.le_of_ble_eq_true rfl) ?_
  refine q_to (ls' := [(0, .ref v0), (1, .int v1), (2, .int v2)]) (st' := []) rfl rfl ?_
  refine q_aload_n 0 rfl dX10_ways_0 ?_
  refine q_iconst (x := 0) rfl dX10_ways_1 ?_
  refine q_bind hyp (fun h1 e2 hyp => ?_)
  refine q_putF kF_X10_136 (fun _ => ⟨rfl, rfl⟩) dX10_ways_2 e2 ?_
  refine q_aload_n 0 rfl dX10_ways_5 ?_
  refine q_iload_n 1 rfl dX10_ways_6 ?_
  refine q_bind hyp (fun p3 e8 hyp => ?_)
  refine q_callV (as := [.int v1]) (st := []) kY_X10_isMatter kL_X10_346 (okX10_isMatter (l := l) e8) (by decide) rfl (obX10_isMatter e8) (Nat.le_of_ble_eq_true rfl) dX10_ways_7 ?_
  refine q_to (ls' := [(0, .ref v0), (1, .int v1), (2, .int v2)]) (st' := [.int p3.1]) rfl rfl ?_
  refine q_if_eq (tgt := 21) dX10_ways_10 (by decide) (fun c4 => ?_) (fun c4 => ?_)
  · have hyp := q_pos c4 hyp
    refine q_iconst (x := (-1)) rfl dX10_ways_21 ?_
    exact q_iretH rfl rfl dX10_ways_22 hyp
  · have hyp := q_neg c4 hyp
    refine q_aload_n 0 rfl dX10_ways_13 ?_
    refine q_iload_n 2 rfl dX10_ways_14 ?_
    refine q_bind hyp (fun p5 e7 hyp => ?_)
    refine q_callV (as := [.int v2]) (st := []) kY_X10_isMatter kL_X10_346 (okX10_isMatter (l := l) e7) (by decide) rfl (obX10_isMatter e7) (Nat.le_of_ble_eq_true rfl) dX10_ways_15 ?_
    refine q_to (ls' := [(0, .ref v0), (1, .int v1), (2, .int v2)]) (st' := [.int p5.1]) rfl rfl ?_
    refine q_if_ne (tgt := 23) dX10_ways_18 (by decide) (fun c6 => ?_) (fun c6 => ?_)
    · have hyp := q_neg c6 hyp
      refine q_iconst (x := 0) rfl dX10_ways_23 ?_
      refine q_istore_n (ls' := [(3, .int 0), (0, .ref v0), (1, .int v1), (2, .int v2)]) (by decide) rfl dX10_ways_24 ?_
      exact q_sub [1, 2, 3, 0] rfl (okX10_ways_b25 _ v0 v1 v2 0 p5.2 hyp)
    · have hyp := q_pos c6 hyp
      refine q_iconst (x := (-1)) rfl dX10_ways_21 ?_
      exact q_iretH rfl rfl dX10_ways_22 hyp
theorem dX10_year_0 : decode cX10_year 0 = .ok (.aload_n 0, 1) := by decide +kernel
theorem dX10_year_1 : decode cX10_year 1 = .ok (.iconst 0, 1) := by decide +kernel
theorem dX10_year_2 : decode cX10_year 2 = .ok (.putfield 136, 3) := by decide +kernel
theorem dX10_year_5 : decode cX10_year 5 = .ok (.aload_n 0, 1) := by decide +kernel
theorem dX10_year_6 : decode cX10_year 6 = .ok (.invokevirtual 359, 3) := by decide +kernel
theorem dX10_year_9 : decode cX10_year 9 = .ok (.aload_n 0, 1) := by decide +kernel
theorem dX10_year_10 : decode cX10_year 10 = .ok (.invokevirtual 368, 3) := by decide +kernel
theorem dX10_year_13 : decode cX10_year 13 = .ok (.aload_n 0, 1) := by decide +kernel
theorem dX10_year_14 : decode cX10_year 14 = .ok (.invokevirtual 349, 3) := by decide +kernel
theorem dX10_year_17 : decode cX10_year 17 = .ok (.invokestatic 371, 3) := by decide +kernel
theorem dX10_year_20 : decode cX10_year 20 = .ok (.ireturn, 1) := by decide +kernel
def fX10_year (n : Nat) (v0 : Nat) (h : qH) : Option (Int32 × qH) :=
  (isO h v0 10).bind fun _ =>
  (pF h v0 10 0 (.int 0)).bind fun h1 =>
  (fX10_keeps n v0 h1).bind fun h3 =>
  (fX10_passes n v0 h3).bind fun h4 =>
  (fX10_meantNow n v0 h4).bind fun p5 =>
  (fX10_bits n p5.1 p5.2).bind fun p6 =>
  some (p6.1, p6.2)
theorem obX10_year {n : Nat} {v0 : Nat} {h : qH} {p : Int32 × qH} (hyp : fX10_year n v0 h = some p) : ∃ fs, h.1 v0 = some (.inr (10, fs)) := by
  unfold fX10_year at hyp
  exact q_bind hyp (fun _ e _ => isO_some e)
set_option maxHeartbeats 4000000 in
set_option maxRecDepth 100000 in
theorem okX10_year {l : Launch} {n : Nat} {v0 : Nat} {h : qH} {p : Int32 × qH} (hyp : fX10_year n v0 h = some p) : q_M l 3 yX10_year cX10_year 1 (some .int) [.ref v0] h (some (.int p.1)) p.2 := by
  obtain ⟨r, h'⟩ := p
  unfold fX10_year at hyp
  refine q_bind hyp (fun _ _ hyp => ?_)
  refine q_M.of (by decide) (Nat.le_of_ble_eq_true rfl) ?_
  refine q_to (ls' := [(0, .ref v0)]) (st' := []) rfl rfl ?_
  refine q_aload_n 0 rfl dX10_year_0 ?_
  refine q_iconst (x := 0) rfl dX10_year_1 ?_
  refine q_bind hyp (fun h1 e2 hyp => ?_)
  refine q_putF kF_X10_136 (fun _ => ⟨rfl, rfl⟩) dX10_year_2 e2 ?_
  refine q_aload_n 0 rfl dX10_year_5 ?_
  refine q_bind hyp (fun h3 e10 hyp => ?_)
  refine q_callV (as := []) (st := []) kY_X10_keeps kL_X10_359 (okX10_keeps (l := l) e10) (by decide) rfl (obX10_keeps e10) (Nat.le_of_ble_eq_true rfl) dX10_year_6 ?_
  refine q_to (ls' := [(0, .ref v0)]) (st' := []) rfl rfl ?_
  refine q_aload_n 0 rfl dX10_year_9 ?_
  refine q_bind hyp (fun h4 e9 hyp => ?_)
  refine q_callV (as := []) (st := []) kY_X10_passes kL_X10_368 (okX10_passes (l := l) e9) (by decide) rfl (obX10_passes e9) (Nat.le_of_ble_eq_true rfl) dX10_year_10 ?_
  refine q_to (ls' := [(0, .ref v0)]) (st' := []) rfl rfl ?_
  refine q_aload_n 0 rfl dX10_year_13 ?_
  refine q_bind hyp (fun p5 e8 hyp => ?_)
  refine q_callV (as := []) (st := []) kY_X10_meantNow kL_X10_349 (okX10_meantNow (l := l) e8) (by decide) rfl (obX10_meantNow e8) (Nat.le_of_ble_eq_true rfl) dX10_year_14 ?_
  refine q_to (ls' := [(0, .ref v0)]) (st' := [.int p5.1]) rfl rfl ?_
  refine q_bind hyp (fun p6 e7 hyp => ?_)
  refine q_callS (as := [.int p5.1]) (st := []) kY_X10_bits kS_X10_bits kL_X10_371 (okX10_bits (l := l) e7) (by decide) rfl (Nat.le_of_ble_eq_true rfl) dX10_year_17 ?_
  refine q_to (ls' := [(0, .ref v0)]) (st' := [.int p6.1]) rfl rfl ?_
  exact q_iretH rfl rfl dX10_year_20 hyp
theorem dX10_years_0 : decode cX10_years 0 = .ok (.aload_n 0, 1) := by decide +kernel
theorem dX10_years_1 : decode cX10_years 1 = .ok (.iconst 0, 1) := by decide +kernel
theorem dX10_years_2 : decode cX10_years 2 = .ok (.putfield 136, 3) := by decide +kernel
theorem dX10_years_5 : decode cX10_years 5 = .ok (.iload_n 1, 1) := by decide +kernel
theorem dX10_years_6 : decode cX10_years 6 = .ok (.iconst 0, 1) := by decide +kernel
theorem dX10_years_7 : decode cX10_years 7 = .ok (.sipush 9999, 3) := by decide +kernel
theorem dX10_years_10 : decode cX10_years 10 = .ok (.invokestatic 252, 3) := by decide +kernel
theorem dX10_years_13 : decode cX10_years 13 = .ok (.ifCond .eq 22, 3) := by decide +kernel
theorem dX10_years_16 : decode cX10_years 16 = .ok (.iload_n 2, 1) := by decide +kernel
theorem dX10_years_17 : decode cX10_years 17 = .ok (.iconst 1, 1) := by decide +kernel
theorem dX10_years_18 : decode cX10_years 18 = .ok (.bipush 99, 2) := by decide +kernel
theorem dX10_years_20 : decode cX10_years 20 = .ok (.invokestatic 252, 3) := by decide +kernel
theorem dX10_years_23 : decode cX10_years 23 = .ok (.ifCond .eq 12, 3) := by decide +kernel
theorem dX10_years_26 : decode cX10_years 26 = .ok (.iload_n 3, 1) := by decide +kernel
theorem dX10_years_27 : decode cX10_years 27 = .ok (.iconst 0, 1) := by decide +kernel
theorem dX10_years_28 : decode cX10_years 28 = .ok (.iconst 2, 1) := by decide +kernel
theorem dX10_years_29 : decode cX10_years 29 = .ok (.invokestatic 252, 3) := by decide +kernel
theorem dX10_years_32 : decode cX10_years 32 = .ok (.ifCond .ne 5, 3) := by decide +kernel
theorem dX10_years_35 : decode cX10_years 35 = .ok (.iconst (-1), 1) := by decide +kernel
theorem dX10_years_36 : decode cX10_years 36 = .ok (.ireturn, 1) := by decide +kernel
theorem dX10_years_37 : decode cX10_years 37 = .ok (.aload_n 0, 1) := by decide +kernel
theorem dX10_years_38 : decode cX10_years 38 = .ok (.iload_n 1, 1) := by decide +kernel
theorem dX10_years_39 : decode cX10_years 39 = .ok (.i2l, 1) := by decide +kernel
theorem dX10_years_40 : decode cX10_years 40 = .ok (.putfield 426, 3) := by decide +kernel
theorem dX10_years_43 : decode cX10_years 43 = .ok (.aload_n 0, 1) := by decide +kernel
theorem dX10_years_44 : decode cX10_years 44 = .ok (.getfield 99, 3) := by decide +kernel
theorem dX10_years_47 : decode cX10_years 47 = .ok (.iconst 0, 1) := by decide +kernel
theorem dX10_years_48 : decode cX10_years 48 = .ok (.aload_n 0, 1) := by decide +kernel
theorem dX10_years_49 : decode cX10_years 49 = .ok (.getfield 102, 3) := by decide +kernel
theorem dX10_years_52 : decode cX10_years 52 = .ok (.iconst 0, 1) := by decide +kernel
theorem dX10_years_53 : decode cX10_years 53 = .ok (.invokestatic 355, 3) := by decide +kernel
theorem dX10_years_56 : decode cX10_years 56 = .ok (.iconst 0, 1) := by decide +kernel
theorem dX10_years_57 : decode cX10_years 57 = .ok (.istore 4, 2) := by decide +kernel
theorem dX10_years_59 : decode cX10_years 59 = .ok (.iconst 0, 1) := by decide +kernel
theorem dX10_years_60 : decode cX10_years 60 = .ok (.istore 5, 2) := by decide +kernel
theorem dX10_years_62 : decode cX10_years 62 = .ok (.iload 5, 2) := by decide +kernel
theorem dX10_years_64 : decode cX10_years 64 = .ok (.iload_n 2, 1) := by decide +kernel
theorem dX10_years_65 : decode cX10_years 65 = .ok (.if_icmp .ge 26, 3) := by decide +kernel
theorem dX10_years_68 : decode cX10_years 68 = .ok (.iload 4, 2) := by decide +kernel
theorem dX10_years_70 : decode cX10_years 70 = .ok (.aload_n 0, 1) := by decide +kernel
theorem dX10_years_71 : decode cX10_years 71 = .ok (.invokevirtual 440, 3) := by decide +kernel
theorem dX10_years_74 : decode cX10_years 74 = .ok (.ifCond .eq 7, 3) := by decide +kernel
theorem dX10_years_77 : decode cX10_years 77 = .ok (.iconst 1, 1) := by decide +kernel
theorem dX10_years_78 : decode cX10_years 78 = .ok (.goto 4, 3) := by decide +kernel
theorem dX10_years_81 : decode cX10_years 81 = .ok (.iconst 0, 1) := by decide +kernel
theorem dX10_years_82 : decode cX10_years 82 = .ok (.iadd, 1) := by decide +kernel
theorem dX10_years_83 : decode cX10_years 83 = .ok (.istore 4, 2) := by decide +kernel
theorem dX10_years_85 : decode cX10_years 85 = .ok (.iinc 5 1, 3) := by decide +kernel
theorem dX10_years_88 : decode cX10_years 88 = .ok (.goto (-26), 3) := by decide +kernel
theorem dX10_years_91 : decode cX10_years 91 = .ok (.aload_n 0, 1) := by decide +kernel
theorem dX10_years_92 : decode cX10_years 92 = .ok (.invokevirtual 349, 3) := by decide +kernel
theorem dX10_years_95 : decode cX10_years 95 = .ok (.istore 5, 2) := by decide +kernel
theorem dX10_years_97 : decode cX10_years 97 = .ok (.aload_n 0, 1) := by decide +kernel
theorem dX10_years_98 : decode cX10_years 98 = .ok (.getfield 99, 3) := by decide +kernel
theorem dX10_years_101 : decode cX10_years 101 = .ok (.iconst 1, 1) := by decide +kernel
theorem dX10_years_102 : decode cX10_years 102 = .ok (.iaload, 1) := by decide +kernel
theorem dX10_years_103 : decode cX10_years 103 = .ok (.istore 6, 2) := by decide +kernel
theorem dX10_years_105 : decode cX10_years 105 = .ok (.aload_n 0, 1) := by decide +kernel
theorem dX10_years_106 : decode cX10_years 106 = .ok (.getfield 102, 3) := by decide +kernel
theorem dX10_years_109 : decode cX10_years 109 = .ok (.iconst 0, 1) := by decide +kernel
theorem dX10_years_110 : decode cX10_years 110 = .ok (.aload_n 0, 1) := by decide +kernel
theorem dX10_years_111 : decode cX10_years 111 = .ok (.getfield 99, 3) := by decide +kernel
theorem dX10_years_114 : decode cX10_years 114 = .ok (.iconst 0, 1) := by decide +kernel
theorem dX10_years_115 : decode cX10_years 115 = .ok (.invokestatic 355, 3) := by decide +kernel
theorem dX10_years_118 : decode cX10_years 118 = .ok (.iload_n 3, 1) := by decide +kernel
theorem dX10_years_119 : decode cX10_years 119 = .ok (.ifCond .ne 8, 3) := by decide +kernel
theorem dX10_years_122 : decode cX10_years 122 = .ok (.iload 4, 2) := by decide +kernel
theorem dX10_years_124 : decode cX10_years 124 = .ok (.goto 15, 3) := by decide +kernel
theorem dX10_years_127 : decode cX10_years 127 = .ok (.iload_n 3, 1) := by decide +kernel
theorem dX10_years_128 : decode cX10_years 128 = .ok (.iconst 1, 1) := by decide +kernel
theorem dX10_years_129 : decode cX10_years 129 = .ok (.if_icmp .ne 8, 3) := by decide +kernel
theorem dX10_years_132 : decode cX10_years 132 = .ok (.iload 5, 2) := by decide +kernel
theorem dX10_years_134 : decode cX10_years 134 = .ok (.goto 5, 3) := by decide +kernel
theorem dX10_years_137 : decode cX10_years 137 = .ok (.iload 6, 2) := by decide +kernel
theorem dX10_years_139 : decode cX10_years 139 = .ok (.ireturn, 1) := by decide +kernel
def fX10_years_b62 (n : Nat) : Nat → Nat → Int32 → Int32 → Int32 → Int32 → qH → Option (Int32 × qH)
  | 0, _, _, _, _, _, _ => none
  | w + 1, v0, v2, v3, v4, v5, h =>
    if v2 ≤ v5 then
    ((fX10_meantNow n v0 h).bind fun p2 =>
    (gR p2.2 v0 10 41).bind fun x3 =>
    (aI .int p2.2 x3 1).bind fun x5 =>
    (gR p2.2 v0 10 42).bind fun x7 =>
    (gR p2.2 v0 10 41).bind fun x9 =>
    (fX10_copies n x7 0 x9 0 p2.2).bind fun h11 =>
    if v3 = 0 then
    (some (v4, h11))
    else
    (if v3 = 1 then
    (some (p2.1, h11))
    else
    (some (x5, h11))))
    else
    ((fX10_livesYear n v0 h).bind fun p16 =>
    if p16.1 = 0 then
    (fX10_years_b62 n w v0 v2 v3 (v4 + 0) (v5 + 1) p16.2)
    else
    (fX10_years_b62 n w v0 v2 v3 (v4 + 1) (v5 + 1) p16.2))
set_option maxHeartbeats 4000000 in
set_option maxRecDepth 100000 in
theorem okX10_years_b62 {l : Launch} {n : Nat} {r : Int32} {h' : qH} : ∀ (w : Nat) (v0 : Nat) (v2 : Int32) (v3 : Int32) (v4 : Int32) (v5 : Int32) (h : qH), fX10_years_b62 n w v0 v2 v3 v4 v5 h = some (r, h') → q_W l 7 yX10_years cX10_years 7 (some .int) (some (.int r)) h' 62 [(0, .ref v0), (2, .int v2), (3, .int v3), (4, .int v4), (5, .int v5)] [] h := by
  intro w
  induction w with
  | zero => intro v0 v2 v3 v4 v5 h hyp; cases hyp
  | succ w ih =>
    intro v0 v2 v3 v4 v5 h hyp
    unfold fX10_years_b62 at hyp
    refine q_iload 4 rfl dX10_years_62 ?_
    refine q_iload_n 1 rfl dX10_years_64 ?_
    refine q_icmp_ge (tgt := 91) dX10_years_65 (by decide) (fun c1 => ?_) (fun c1 => ?_)
    · have hyp := q_pos c1 hyp
      refine q_aload_n 0 rfl dX10_years_91 ?_
      refine q_bind hyp (fun p2 e15 hyp => ?_)
      refine q_callV (as := []) (st := []) kY_X10_meantNow kL_X10_349 (okX10_meantNow (l := l) e15) (by decide) rfl (obX10_meantNow e15) (Nat.le_of_ble_eq_true rfl) dX10_years_92 ?_
      refine q_to (ls' := [(0, .ref v0), (2, .int v2), (3, .int v3), (4, .int v4), (5, .int v5)]) (st' := [.int p2.1]) rfl rfl ?_
      refine q_istore (ls' := [(5, .int p2.1), (0, .ref v0), (2, .int v2), (3, .int v3), (4, .int v4)]) (by decide) rfl dX10_years_95 ?_
      refine q_aload_n 1 rfl dX10_years_97 ?_
      refine q_bind hyp (fun x3 e4 hyp => ?_)
      refine q_getR kF_X10_99 dX10_years_98 e4 ?_
      refine q_iconst (x := 1) rfl dX10_years_101 ?_
      refine q_bind hyp (fun x5 e6 hyp => ?_)
      refine q_iald dX10_years_102 e6 ?_
      refine q_istore (ls' := [(6, .int x5), (5, .int p2.1), (0, .ref v0), (2, .int v2), (3, .int v3), (4, .int v4)]) (by decide) rfl dX10_years_103 ?_
      refine q_aload_n 2 rfl dX10_years_105 ?_
      refine q_bind hyp (fun x7 e8 hyp => ?_)
      refine q_getR kF_X10_102 dX10_years_106 e8 ?_
      refine q_iconst (x := 0) rfl dX10_years_109 ?_
      refine q_aload_n 2 rfl dX10_years_110 ?_
      refine q_bind hyp (fun x9 e10 hyp => ?_)
      refine q_getR kF_X10_99 dX10_years_111 e10 ?_
      refine q_iconst (x := 0) rfl dX10_years_114 ?_
      refine q_bind hyp (fun h11 e14 hyp => ?_)
      refine q_callS (as := [.ref x7, .int 0, .ref x9, .int 0]) (st := []) kY_X10_copies kS_X10_copies kL_X10_355 (okX10_copies (l := l) e14) (by decide) rfl (Nat.le_of_ble_eq_true rfl) dX10_years_115 ?_
      refine q_to (ls' := [(6, .int x5), (5, .int p2.1), (0, .ref v0), (2, .int v2), (3, .int v3), (4, .int v4)]) (st' := []) rfl rfl ?_
      refine q_iload_n 4 rfl dX10_years_118 ?_
      refine q_if_ne (tgt := 127) dX10_years_119 (by decide) (fun c12 => ?_) (fun c12 => ?_)
      · have hyp := q_neg c12 hyp
        refine q_iload_n 4 rfl dX10_years_127 ?_
        refine q_iconst (x := 1) rfl dX10_years_128 ?_
        refine q_icmp_ne (tgt := 137) dX10_years_129 (by decide) (fun c13 => ?_) (fun c13 => ?_)
        · have hyp := q_neg c13 hyp
          refine q_iload 0 rfl dX10_years_137 ?_
          exact q_iretH rfl rfl dX10_years_139 hyp
        · have hyp := q_pos c13 hyp
          refine q_iload 1 rfl dX10_years_132 ?_
          refine q_goto (tgt := 139) dX10_years_134 (by decide) ?_
          exact q_iretH rfl rfl dX10_years_139 hyp
      · have hyp := q_pos c12 hyp
        refine q_iload 5 rfl dX10_years_122 ?_
        refine q_goto (tgt := 139) dX10_years_124 (by decide) ?_
        exact q_iretH rfl rfl dX10_years_139 hyp
    · have hyp := q_neg c1 hyp
      refine q_iload 3 rfl dX10_years_68 ?_
      refine q_aload_n 0 rfl dX10_years_70 ?_
      refine q_bind hyp (fun p16 e18 hyp => ?_)
      refine q_callV (as := []) (st := [.int v4]) kY_X10_livesYear kL_X10_440 (okX10_livesYear (l := l) e18) (by decide) rfl (obX10_livesYear e18) (Nat.le_of_ble_eq_true rfl) dX10_years_71 ?_
      refine q_to (ls' := [(0, .ref v0), (2, .int v2), (3, .int v3), (4, .int v4), (5, .int v5)]) (st' := [.int p16.1, .int v4]) rfl rfl ?_
      refine q_if_eq (tgt := 81) dX10_years_74 (by decide) (fun c17 => ?_) (fun c17 => ?_)
      · have hyp := q_pos c17 hyp
        refine q_iconst (x := 0) rfl dX10_years_81 ?_
        refine q_iadd dX10_years_82 ?_
        refine q_istore (ls' := [(4, .int (v4 + 0)), (0, .ref v0), (2, .int v2), (3, .int v3), (5, .int v5)]) (by decide) rfl dX10_years_83 ?_
        refine q_iinc (ls' := [(5, .int (v5 + 1)), (4, .int (v4 + 0)), (0, .ref v0), (2, .int v2), (3, .int v3)]) 4 rfl rfl (by decide) rfl dX10_years_85 ?_
        refine q_goto (tgt := 62) dX10_years_88 (by decide) ?_
        exact q_sub [2, 3, 4, 1, 0] rfl (ih v0 v2 v3 (v4 + 0) (v5 + 1) p16.2 hyp)
      · have hyp := q_neg c17 hyp
        refine q_iconst (x := 1) rfl dX10_years_77 ?_
        refine q_goto (tgt := 82) dX10_years_78 (by decide) ?_
        refine q_iadd dX10_years_82 ?_
        refine q_istore (ls' := [(4, .int (v4 + 1)), (0, .ref v0), (2, .int v2), (3, .int v3), (5, .int v5)]) (by decide) rfl dX10_years_83 ?_
        refine q_iinc (ls' := [(5, .int (v5 + 1)), (4, .int (v4 + 1)), (0, .ref v0), (2, .int v2), (3, .int v3)]) 4 rfl rfl (by decide) rfl dX10_years_85 ?_
        refine q_goto (tgt := 62) dX10_years_88 (by decide) ?_
        exact q_sub [2, 3, 4, 1, 0] rfl (ih v0 v2 v3 (v4 + 1) (v5 + 1) p16.2 hyp)
def fX10_years (n : Nat) (v0 : Nat) (v1 : Int32) (v2 : Int32) (v3 : Int32) (h : qH) : Option (Int32 × qH) :=
  (isO h v0 10).bind fun _ =>
  (pF h v0 10 0 (.int 0)).bind fun h1 =>
  (fX10_within v1 0 9999 h1).bind fun p3 =>
  if p3.1 = 0 then
  (some ((-1), p3.2))
  else
  ((fX10_within v2 1 99 p3.2).bind fun p5 =>
  if p5.1 = 0 then
  (some ((-1), p5.2))
  else
  ((fX10_within v3 0 2 p5.2).bind fun p7 =>
  if p7.1 = 0 then
  (some ((-1), p7.2))
  else
  ((pF p7.2 v0 10 52 (.long v1.toInt64)).bind fun h9 =>
  (gR h9 v0 10 41).bind fun x11 =>
  (gR h9 v0 10 42).bind fun x13 =>
  (fX10_copies n x11 0 x13 0 h9).bind fun h15 =>
  fX10_years_b62 n n v0 v2 v3 0 0 h15)))
theorem obX10_years {n : Nat} {v0 : Nat} {v1 : Int32} {v2 : Int32} {v3 : Int32} {h : qH} {p : Int32 × qH} (hyp : fX10_years n v0 v1 v2 v3 h = some p) : ∃ fs, h.1 v0 = some (.inr (10, fs)) := by
  unfold fX10_years at hyp
  exact q_bind hyp (fun _ e _ => isO_some e)
set_option maxHeartbeats 4000000 in
set_option maxRecDepth 100000 in
theorem okX10_years {l : Launch} {n : Nat} {v0 : Nat} {v1 : Int32} {v2 : Int32} {v3 : Int32} {h : qH} {p : Int32 × qH} (hyp : fX10_years n v0 v1 v2 v3 h = some p) : q_M l 7 yX10_years cX10_years 7 (some .int) [.ref v0, .int v1, .int v2, .int v3] h (some (.int p.1)) p.2 := by
  obtain ⟨r, h'⟩ := p
  unfold fX10_years at hyp
  refine q_bind hyp (fun _ _ hyp => ?_)
  refine q_M.of (by decide) (Nat.le_of_ble_eq_true rfl) ?_
  refine q_to (ls' := [(0, .ref v0), (1, .int v1), (2, .int v2), (3, .int v3)]) (st' := []) rfl rfl ?_
  refine q_aload_n 0 rfl dX10_years_0 ?_
  refine q_iconst (x := 0) rfl dX10_years_1 ?_
  refine q_bind hyp (fun h1 e2 hyp => ?_)
  refine q_putF kF_X10_136 (fun _ => ⟨rfl, rfl⟩) dX10_years_2 e2 ?_
  refine q_iload_n 1 rfl dX10_years_5 ?_
  refine q_iconst (x := 0) rfl dX10_years_6 ?_
  refine q_sipush (x := 9999) (by decide) dX10_years_7 ?_
  refine q_bind hyp (fun p3 e19 hyp => ?_)
  refine q_callS (as := [.int v1, .int 0, .int 9999]) (st := []) kY_X10_within kS_X10_within kL_X10_252 (okX10_within (l := l) e19) (by decide) rfl (Nat.le_of_ble_eq_true rfl) dX10_years_10 ?_
  refine q_to (ls' := [(0, .ref v0), (1, .int v1), (2, .int v2), (3, .int v3)]) (st' := [.int p3.1]) rfl rfl ?_
  refine q_if_eq (tgt := 35) dX10_years_13 (by decide) (fun c4 => ?_) (fun c4 => ?_)
  · have hyp := q_pos c4 hyp
    refine q_iconst (x := (-1)) rfl dX10_years_35 ?_
    exact q_iretH rfl rfl dX10_years_36 hyp
  · have hyp := q_neg c4 hyp
    refine q_iload_n 2 rfl dX10_years_16 ?_
    refine q_iconst (x := 1) rfl dX10_years_17 ?_
    refine q_bipush (x := 99) (by decide) dX10_years_18 ?_
    refine q_bind hyp (fun p5 e18 hyp => ?_)
    refine q_callS (as := [.int v2, .int 1, .int 99]) (st := []) kY_X10_within kS_X10_within kL_X10_252 (okX10_within (l := l) e18) (by decide) rfl (Nat.le_of_ble_eq_true rfl) dX10_years_20 ?_
    refine q_to (ls' := [(0, .ref v0), (1, .int v1), (2, .int v2), (3, .int v3)]) (st' := [.int p5.1]) rfl rfl ?_
    refine q_if_eq (tgt := 35) dX10_years_23 (by decide) (fun c6 => ?_) (fun c6 => ?_)
    · have hyp := q_pos c6 hyp
      refine q_iconst (x := (-1)) rfl dX10_years_35 ?_
      exact q_iretH rfl rfl dX10_years_36 hyp
    · have hyp := q_neg c6 hyp
      refine q_iload_n 3 rfl dX10_years_26 ?_
      refine q_iconst (x := 0) rfl dX10_years_27 ?_
      refine q_iconst (x := 2) rfl dX10_years_28 ?_
      refine q_bind hyp (fun p7 e17 hyp => ?_)
      refine q_callS (as := [.int v3, .int 0, .int 2]) (st := []) kY_X10_within kS_X10_within kL_X10_252 (okX10_within (l := l) e17) (by decide) rfl (Nat.le_of_ble_eq_true rfl) dX10_years_29 ?_
      refine q_to (ls' := [(0, .ref v0), (1, .int v1), (2, .int v2), (3, .int v3)]) (st' := [.int p7.1]) rfl rfl ?_
      refine q_if_ne (tgt := 37) dX10_years_32 (by decide) (fun c8 => ?_) (fun c8 => ?_)
      · have hyp := q_neg c8 hyp
        refine q_aload_n 0 rfl dX10_years_37 ?_
        refine q_iload_n 1 rfl dX10_years_38 ?_
        refine q_i2l dX10_years_39 ?_
        refine q_bind hyp (fun h9 e10 hyp => ?_)
        refine q_putF kF_X10_426 (fun _ => ⟨rfl, rfl⟩) dX10_years_40 e10 ?_
        refine q_aload_n 0 rfl dX10_years_43 ?_
        refine q_bind hyp (fun x11 e12 hyp => ?_)
        refine q_getR kF_X10_99 dX10_years_44 e12 ?_
        refine q_iconst (x := 0) rfl dX10_years_47 ?_
        refine q_aload_n 0 rfl dX10_years_48 ?_
        refine q_bind hyp (fun x13 e14 hyp => ?_)
        refine q_getR kF_X10_102 dX10_years_49 e14 ?_
        refine q_iconst (x := 0) rfl dX10_years_52 ?_
        refine q_bind hyp (fun h15 e16 hyp => ?_)
        refine q_callS (as := [.ref x11, .int 0, .ref x13, .int 0]) (st := []) kY_X10_copies kS_X10_copies kL_X10_355 (okX10_copies (l := l) e16) (by decide) rfl (Nat.le_of_ble_eq_true rfl) dX10_years_53 ?_
        refine q_to (ls' := [(0, .ref v0), (1, .int v1), (2, .int v2), (3, .int v3)]) (st' := []) rfl rfl ?_
        refine q_iconst (x := 0) rfl dX10_years_56 ?_
        refine q_istore (ls' := [(4, .int 0), (0, .ref v0), (1, .int v1), (2, .int v2), (3, .int v3)]) (by decide) rfl dX10_years_57 ?_
        refine q_iconst (x := 0) rfl dX10_years_59 ?_
        refine q_istore (ls' := [(5, .int 0), (4, .int 0), (0, .ref v0), (1, .int v1), (2, .int v2), (3, .int v3)]) (by decide) rfl dX10_years_60 ?_
        exact q_sub [2, 4, 5, 1, 0] rfl (okX10_years_b62 _ v0 v2 v3 0 0 h15 hyp)
      · have hyp := q_pos c8 hyp
        refine q_iconst (x := (-1)) rfl dX10_years_35 ?_
        exact q_iretH rfl rfl dX10_years_36 hyp
theorem dX1_add_0 : decode cX1_add 0 = .ok (.aload_n 0, 1) := by decide +kernel
theorem dX1_add_1 : decode cX1_add 1 = .ok (.getfield 18, 3) := by decide +kernel
theorem dX1_add_4 : decode cX1_add 4 = .ok (.aload_n 0, 1) := by decide +kernel
theorem dX1_add_5 : decode cX1_add 5 = .ok (.getfield 9, 3) := by decide +kernel
theorem dX1_add_8 : decode cX1_add 8 = .ok (.arraylength, 1) := by decide +kernel
theorem dX1_add_9 : decode cX1_add 9 = .ok (.if_icmp .ge 23, 3) := by decide +kernel
theorem dX1_add_12 : decode cX1_add 12 = .ok (.aload_n 0, 1) := by decide +kernel
theorem dX1_add_13 : decode cX1_add 13 = .ok (.getfield 9, 3) := by decide +kernel
theorem dX1_add_16 : decode cX1_add 16 = .ok (.aload_n 0, 1) := by decide +kernel
theorem dX1_add_17 : decode cX1_add 17 = .ok (.getfield 18, 3) := by decide +kernel
theorem dX1_add_20 : decode cX1_add 20 = .ok (.iload_n 1, 1) := by decide +kernel
theorem dX1_add_21 : decode cX1_add 21 = .ok (.iastore, 1) := by decide +kernel
theorem dX1_add_22 : decode cX1_add 22 = .ok (.aload_n 0, 1) := by decide +kernel
theorem dX1_add_23 : decode cX1_add 23 = .ok (.dup, 1) := by decide +kernel
theorem dX1_add_24 : decode cX1_add 24 = .ok (.getfield 18, 3) := by decide +kernel
theorem dX1_add_27 : decode cX1_add 27 = .ok (.iconst 1, 1) := by decide +kernel
theorem dX1_add_28 : decode cX1_add 28 = .ok (.iadd, 1) := by decide +kernel
theorem dX1_add_29 : decode cX1_add 29 = .ok (.putfield 18, 3) := by decide +kernel
theorem dX1_add_32 : decode cX1_add 32 = .ok (.return_, 1) := by decide +kernel
def fX1_add (v0 : Nat) (v1 : Int32) (h : qH) : Option (qH) :=
  (isO h v0 1).bind fun _ =>
  (gI h v0 1 2).bind fun x1 =>
  (gR h v0 1 0).bind fun x3 =>
  (aN h x3).bind fun x5 =>
  if x5 ≤ x1 then
  (some h)
  else
  ((gR h v0 1 0).bind fun x8 =>
  (gI h v0 1 2).bind fun x10 =>
  (sI .int h x8 x10 v1).bind fun h12 =>
  (gI h12 v0 1 2).bind fun x14 =>
  (pF h12 v0 1 2 (.int (x14 + 1))).bind fun h16 =>
  some h16)
theorem obX1_add {v0 : Nat} {v1 : Int32} {h : qH} {p : qH} (hyp : fX1_add v0 v1 h = some p) : ∃ fs, h.1 v0 = some (.inr (1, fs)) := by
  unfold fX1_add at hyp
  exact q_bind hyp (fun _ e _ => isO_some e)
set_option maxHeartbeats 4000000 in
set_option maxRecDepth 100000 in
theorem okX1_add {l : Launch} {v0 : Nat} {v1 : Int32} {h : qH} {h' : qH} (hyp : fX1_add v0 v1 h = some h') : q_M l 1 yX1_add cX1_add 2 none [.ref v0, .int v1] h none h' := by
  unfold fX1_add at hyp
  refine q_bind hyp (fun _ _ hyp => ?_)
  refine q_M.of (by decide) (Nat.le_of_ble_eq_true rfl) ?_
  refine q_to (ls' := [(0, .ref v0), (1, .int v1)]) (st' := []) rfl rfl ?_
  refine q_aload_n 0 rfl dX1_add_0 ?_
  refine q_bind hyp (fun x1 e2 hyp => ?_)
  refine q_getI kF_X1_18 dX1_add_1 e2 ?_
  refine q_aload_n 0 rfl dX1_add_4 ?_
  refine q_bind hyp (fun x3 e4 hyp => ?_)
  refine q_getR kF_X1_9 dX1_add_5 e4 ?_
  refine q_bind hyp (fun x5 e6 hyp => ?_)
  refine q_alen dX1_add_8 e6 ?_
  refine q_icmp_ge (tgt := 32) dX1_add_9 (by decide) (fun c7 => ?_) (fun c7 => ?_)
  · have hyp := q_pos c7 hyp
    exact q_vretH rfl dX1_add_32 hyp
  · have hyp := q_neg c7 hyp
    refine q_aload_n 0 rfl dX1_add_12 ?_
    refine q_bind hyp (fun x8 e9 hyp => ?_)
    refine q_getR kF_X1_9 dX1_add_13 e9 ?_
    refine q_aload_n 0 rfl dX1_add_16 ?_
    refine q_bind hyp (fun x10 e11 hyp => ?_)
    refine q_getI kF_X1_18 dX1_add_17 e11 ?_
    refine q_iload_n 1 rfl dX1_add_20 ?_
    refine q_bind hyp (fun h12 e13 hyp => ?_)
    refine q_iast dX1_add_21 e13 ?_
    refine q_aload_n 0 rfl dX1_add_22 ?_
    refine q_dup rfl dX1_add_23 ?_
    refine q_bind hyp (fun x14 e15 hyp => ?_)
    refine q_getI kF_X1_18 dX1_add_24 e15 ?_
    refine q_iconst (x := 1) rfl dX1_add_27 ?_
    refine q_iadd dX1_add_28 ?_
    refine q_bind hyp (fun h16 e17 hyp => ?_)
    refine q_putF kF_X1_18 (fun _ => ⟨rfl, rfl⟩) dX1_add_29 e17 ?_
    exact q_vretH rfl dX1_add_32 hyp
theorem dX1_clear_0 : decode cX1_clear 0 = .ok (.aload_n 0, 1) := by decide +kernel
theorem dX1_clear_1 : decode cX1_clear 1 = .ok (.iconst 0, 1) := by decide +kernel
theorem dX1_clear_2 : decode cX1_clear 2 = .ok (.putfield 18, 3) := by decide +kernel
theorem dX1_clear_5 : decode cX1_clear 5 = .ok (.return_, 1) := by decide +kernel
def fX1_clear (v0 : Nat) (h : qH) : Option (qH) :=
  (isO h v0 1).bind fun _ =>
  (pF h v0 1 2 (.int 0)).bind fun h1 =>
  some h1
theorem obX1_clear {v0 : Nat} {h : qH} {p : qH} (hyp : fX1_clear v0 h = some p) : ∃ fs, h.1 v0 = some (.inr (1, fs)) := by
  unfold fX1_clear at hyp
  exact q_bind hyp (fun _ e _ => isO_some e)
set_option maxHeartbeats 4000000 in
set_option maxRecDepth 100000 in
theorem okX1_clear {l : Launch} {v0 : Nat} {h : qH} {h' : qH} (hyp : fX1_clear v0 h = some h') : q_M l 1 yX1_clear cX1_clear 1 none [.ref v0] h none h' := by
  unfold fX1_clear at hyp
  refine q_bind hyp (fun _ _ hyp => ?_)
  refine q_M.of (by decide) (Nat.le_of_ble_eq_true rfl) ?_
  refine q_to (ls' := [(0, .ref v0)]) (st' := []) rfl rfl ?_
  refine q_aload_n 0 rfl dX1_clear_0 ?_
  refine q_iconst (x := 0) rfl dX1_clear_1 ?_
  refine q_bind hyp (fun h1 e2 hyp => ?_)
  refine q_putF kF_X1_18 (fun _ => ⟨rfl, rfl⟩) dX1_clear_2 e2 ?_
  exact q_vretH rfl dX1_clear_5 hyp
theorem dX1_init_0 : decode cX1_init 0 = .ok (.aload_n 0, 1) := by decide +kernel
theorem dX1_init_1 : decode cX1_init 1 = .ok (.invokespecial 3, 3) := by decide +kernel
theorem dX1_init_4 : decode cX1_init 4 = .ok (.aload_n 0, 1) := by decide +kernel
theorem dX1_init_5 : decode cX1_init 5 = .ok (.sipush 1000, 3) := by decide +kernel
theorem dX1_init_8 : decode cX1_init 8 = .ok (.newarray .int, 2) := by decide +kernel
theorem dX1_init_10 : decode cX1_init 10 = .ok (.putfield 9, 3) := by decide +kernel
theorem dX1_init_13 : decode cX1_init 13 = .ok (.aload_n 0, 1) := by decide +kernel
theorem dX1_init_14 : decode cX1_init 14 = .ok (.bipush 64, 2) := by decide +kernel
theorem dX1_init_16 : decode cX1_init 16 = .ok (.newarray .int, 2) := by decide +kernel
theorem dX1_init_18 : decode cX1_init 18 = .ok (.putfield 15, 3) := by decide +kernel
theorem dX1_init_21 : decode cX1_init 21 = .ok (.return_, 1) := by decide +kernel
def fX1_init (v0 : Nat) (h : qH) : Option (qH) :=
  (isO h v0 1).bind fun _ =>
  (some (nwE (.inl (.int, 1000, .inl (fun _ => 0))) 1000 h)).bind fun h1 =>
  (pF h1 v0 1 0 (.ref h.2.1)).bind fun h3 =>
  (some (nwE (.inl (.int, 64, .inl (fun _ => 0))) 64 h3)).bind fun h5 =>
  (pF h5 v0 1 1 (.ref h3.2.1)).bind fun h7 =>
  some h7
theorem obX1_init {v0 : Nat} {h : qH} {p : qH} (hyp : fX1_init v0 h = some p) : ∃ fs, h.1 v0 = some (.inr (1, fs)) := by
  unfold fX1_init at hyp
  exact q_bind hyp (fun _ e _ => isO_some e)
set_option maxHeartbeats 4000000 in
set_option maxRecDepth 100000 in
theorem okX1_init {l : Launch} {v0 : Nat} {h : qH} {h' : qH} (hyp : fX1_init v0 h = some h') : q_M l 1 yX1_init cX1_init 1 none [.ref v0] h none h' := by
  unfold fX1_init at hyp
  refine q_bind hyp (fun _ _ hyp => ?_)
  refine q_M.of (by decide) (Nat.le_of_ble_eq_true rfl) ?_
  refine q_to (ls' := [(0, .ref v0)]) (st' := []) rfl rfl ?_
  refine q_aload_n 0 rfl dX1_init_0 ?_
  refine q_objInit kL_X1_3 kI_obj kD_obj (by decide) (Nat.le_of_ble_eq_true rfl) dX1_init_1 ?_
  refine q_aload_n 0 rfl dX1_init_4 ?_
  refine q_sipush (x := 1000) (by decide) dX1_init_5 ?_
  refine q_bind hyp (fun h1 e2 hyp => ?_)
  refine q_newa (ty := .int) (N := 1000) (k := .inl (fun _ => 0)) rfl rfl kA_int (fun _ _ => rfl) (fun _ _ h => h) (by decide) (by decide) dX1_init_8 ?_
  rw [Option.some.inj e2]
  refine q_bind hyp (fun h3 e4 hyp => ?_)
  refine q_putZ kF_X1_9 rfl ⟨_, _, rfl⟩ (fun _ => ⟨rfl, rfl⟩) dX1_init_10 e4 ?_
  refine q_aload_n 0 rfl dX1_init_13 ?_
  refine q_bipush (x := 64) (by decide) dX1_init_14 ?_
  refine q_bind hyp (fun h5 e6 hyp => ?_)
  refine q_newa (ty := .int) (N := 64) (k := .inl (fun _ => 0)) rfl rfl kA_int (fun _ _ => rfl) (fun _ _ h => h) (by decide) (by decide) dX1_init_16 ?_
  rw [Option.some.inj e6]
  refine q_bind hyp (fun h7 e8 hyp => ?_)
  refine q_putZ kF_X1_15 rfl ⟨_, _, rfl⟩ (fun _ => ⟨rfl, rfl⟩) dX1_init_18 e8 ?_
  exact q_vretH rfl dX1_init_21 hyp
theorem dX1_joined_0 : decode cX1_joined 0 = .ok (.iload_n 0, 1) := by decide +kernel
theorem dX1_joined_1 : decode cX1_joined 1 = .ok (.lookupswitch 107 #[(16, 93), (42, 67), (43, 59), (45, 63), (60, 71), (61, 82)], 59) := by decide +kernel
theorem dX1_joined_60 : decode cX1_joined 60 = .ok (.iload_n 1, 1) := by decide +kernel
theorem dX1_joined_61 : decode cX1_joined 61 = .ok (.iload_n 2, 1) := by decide +kernel
theorem dX1_joined_62 : decode cX1_joined 62 = .ok (.iadd, 1) := by decide +kernel
theorem dX1_joined_63 : decode cX1_joined 63 = .ok (.ireturn, 1) := by decide +kernel
theorem dX1_joined_64 : decode cX1_joined 64 = .ok (.iload_n 1, 1) := by decide +kernel
theorem dX1_joined_65 : decode cX1_joined 65 = .ok (.iload_n 2, 1) := by decide +kernel
theorem dX1_joined_66 : decode cX1_joined 66 = .ok (.isub, 1) := by decide +kernel
theorem dX1_joined_67 : decode cX1_joined 67 = .ok (.ireturn, 1) := by decide +kernel
theorem dX1_joined_68 : decode cX1_joined 68 = .ok (.iload_n 1, 1) := by decide +kernel
theorem dX1_joined_69 : decode cX1_joined 69 = .ok (.iload_n 2, 1) := by decide +kernel
theorem dX1_joined_70 : decode cX1_joined 70 = .ok (.imul, 1) := by decide +kernel
theorem dX1_joined_71 : decode cX1_joined 71 = .ok (.ireturn, 1) := by decide +kernel
theorem dX1_joined_72 : decode cX1_joined 72 = .ok (.iload_n 1, 1) := by decide +kernel
theorem dX1_joined_73 : decode cX1_joined 73 = .ok (.iload_n 2, 1) := by decide +kernel
theorem dX1_joined_74 : decode cX1_joined 74 = .ok (.if_icmp .ge 7, 3) := by decide +kernel
theorem dX1_joined_77 : decode cX1_joined 77 = .ok (.iconst 1, 1) := by decide +kernel
theorem dX1_joined_78 : decode cX1_joined 78 = .ok (.goto 4, 3) := by decide +kernel
theorem dX1_joined_81 : decode cX1_joined 81 = .ok (.iconst 0, 1) := by decide +kernel
theorem dX1_joined_82 : decode cX1_joined 82 = .ok (.ireturn, 1) := by decide +kernel
theorem dX1_joined_83 : decode cX1_joined 83 = .ok (.iload_n 1, 1) := by decide +kernel
theorem dX1_joined_84 : decode cX1_joined 84 = .ok (.iload_n 2, 1) := by decide +kernel
theorem dX1_joined_85 : decode cX1_joined 85 = .ok (.if_icmp .ne 7, 3) := by decide +kernel
theorem dX1_joined_88 : decode cX1_joined 88 = .ok (.iconst 1, 1) := by decide +kernel
theorem dX1_joined_89 : decode cX1_joined 89 = .ok (.goto 4, 3) := by decide +kernel
theorem dX1_joined_92 : decode cX1_joined 92 = .ok (.iconst 0, 1) := by decide +kernel
theorem dX1_joined_93 : decode cX1_joined 93 = .ok (.ireturn, 1) := by decide +kernel
theorem dX1_joined_94 : decode cX1_joined 94 = .ok (.iload_n 1, 1) := by decide +kernel
theorem dX1_joined_95 : decode cX1_joined 95 = .ok (.ifCond .eq 11, 3) := by decide +kernel
theorem dX1_joined_98 : decode cX1_joined 98 = .ok (.iload_n 2, 1) := by decide +kernel
theorem dX1_joined_99 : decode cX1_joined 99 = .ok (.ifCond .eq 7, 3) := by decide +kernel
theorem dX1_joined_102 : decode cX1_joined 102 = .ok (.iconst 1, 1) := by decide +kernel
theorem dX1_joined_103 : decode cX1_joined 103 = .ok (.goto 4, 3) := by decide +kernel
theorem dX1_joined_106 : decode cX1_joined 106 = .ok (.iconst 0, 1) := by decide +kernel
theorem dX1_joined_107 : decode cX1_joined 107 = .ok (.ireturn, 1) := by decide +kernel
theorem dX1_joined_108 : decode cX1_joined 108 = .ok (.iload_n 1, 1) := by decide +kernel
theorem dX1_joined_109 : decode cX1_joined 109 = .ok (.ifCond .ne 7, 3) := by decide +kernel
theorem dX1_joined_112 : decode cX1_joined 112 = .ok (.iload_n 2, 1) := by decide +kernel
theorem dX1_joined_113 : decode cX1_joined 113 = .ok (.ifCond .eq 7, 3) := by decide +kernel
theorem dX1_joined_116 : decode cX1_joined 116 = .ok (.iconst 1, 1) := by decide +kernel
theorem dX1_joined_117 : decode cX1_joined 117 = .ok (.goto 4, 3) := by decide +kernel
theorem dX1_joined_120 : decode cX1_joined 120 = .ok (.iconst 0, 1) := by decide +kernel
theorem dX1_joined_121 : decode cX1_joined 121 = .ok (.ireturn, 1) := by decide +kernel
def fX1_joined (v0 : Int32) (v1 : Int32) (v2 : Int32) (h : qH) : Option (Int32 × qH) :=
  if v0 = 16 then
  (if v1 = 0 then
  (some (0, h))
  else
  (if v2 = 0 then
  (some (0, h))
  else
  (some (1, h))))
  else
  (if v0 = 42 then
  (some (v1 * v2, h))
  else
  (if v0 = 43 then
  (some (v1 + v2, h))
  else
  (if v0 = 45 then
  (some (v1 - v2, h))
  else
  (if v0 = 60 then
  (if v2 ≤ v1 then
  (some (0, h))
  else
  (some (1, h)))
  else
  (if v0 = 61 then
  (if v1 = v2 then
  (some (1, h))
  else
  (some (0, h)))
  else
  (if v1 = 0 then
  (if v2 = 0 then
  (some (0, h))
  else
  (some (1, h)))
  else
  (some (1, h))))))))
set_option maxHeartbeats 4000000 in
set_option maxRecDepth 100000 in
theorem okX1_joined {l : Launch} {v0 : Int32} {v1 : Int32} {v2 : Int32} {h : qH} {p : Int32 × qH} (hyp : fX1_joined v0 v1 v2 h = some p) : q_M l 1 yX1_joined cX1_joined 3 (some .int) [.int v0, .int v1, .int v2] h (some (.int p.1)) p.2 := by
  obtain ⟨r, h'⟩ := p
  unfold fX1_joined at hyp
  refine q_M.of (by decide) (Nat.le_of_ble_eq_true rfl) ?_
  refine q_to (ls' := [(0, .int v0), (1, .int v1), (2, .int v2)]) (st' := []) rfl rfl ?_
  refine q_iload_n 0 rfl dX1_joined_0 ?_
  refine q_ite hyp (fun c1 hyp => ?_) (fun c1 hyp => ?_)
  · refine q_lookup (off := 93) (tgt := 94) dX1_joined_1 (by decide) (by rw [c1]; decide) (by decide) ?_
    refine q_iload_n 1 rfl dX1_joined_94 ?_
    refine q_if_eq (tgt := 106) dX1_joined_95 (by decide) (fun c2 => ?_) (fun c2 => ?_)
    · have hyp := q_pos c2 hyp
      refine q_iconst (x := 0) rfl dX1_joined_106 ?_
      exact q_iretH rfl rfl dX1_joined_107 hyp
    · have hyp := q_neg c2 hyp
      refine q_iload_n 2 rfl dX1_joined_98 ?_
      refine q_if_eq (tgt := 106) dX1_joined_99 (by decide) (fun c3 => ?_) (fun c3 => ?_)
      · have hyp := q_pos c3 hyp
        refine q_iconst (x := 0) rfl dX1_joined_106 ?_
        exact q_iretH rfl rfl dX1_joined_107 hyp
      · have hyp := q_neg c3 hyp
        refine q_iconst (x := 1) rfl dX1_joined_102 ?_
        refine q_goto (tgt := 107) dX1_joined_103 (by decide) ?_
        exact q_iretH rfl rfl dX1_joined_107 hyp
  · refine q_ite hyp (fun c4 hyp => ?_) (fun c4 hyp => ?_)
    · refine q_lookup (off := 67) (tgt := 68) dX1_joined_1 (by decide) (by rw [c4]; decide) (by decide) ?_
      refine q_iload_n 1 rfl dX1_joined_68 ?_
      refine q_iload_n 2 rfl dX1_joined_69 ?_
      refine q_imul dX1_joined_70 ?_
      exact q_iretH rfl rfl dX1_joined_71 hyp
    · refine q_ite hyp (fun c5 hyp => ?_) (fun c5 hyp => ?_)
      · refine q_lookup (off := 59) (tgt := 60) dX1_joined_1 (by decide) (by rw [c5]; decide) (by decide) ?_
        refine q_iload_n 1 rfl dX1_joined_60 ?_
        refine q_iload_n 2 rfl dX1_joined_61 ?_
        refine q_iadd dX1_joined_62 ?_
        exact q_iretH rfl rfl dX1_joined_63 hyp
      · refine q_ite hyp (fun c6 hyp => ?_) (fun c6 hyp => ?_)
        · refine q_lookup (off := 63) (tgt := 64) dX1_joined_1 (by decide) (by rw [c6]; decide) (by decide) ?_
          refine q_iload_n 1 rfl dX1_joined_64 ?_
          refine q_iload_n 2 rfl dX1_joined_65 ?_
          refine q_isub dX1_joined_66 ?_
          exact q_iretH rfl rfl dX1_joined_67 hyp
        · refine q_ite hyp (fun c7 hyp => ?_) (fun c7 hyp => ?_)
          · refine q_lookup (off := 71) (tgt := 72) dX1_joined_1 (by decide) (by rw [c7]; decide) (by decide) ?_
            refine q_iload_n 1 rfl dX1_joined_72 ?_
            refine q_iload_n 2 rfl dX1_joined_73 ?_
            refine q_icmp_ge (tgt := 81) dX1_joined_74 (by decide) (fun c8 => ?_) (fun c8 => ?_)
            · have hyp := q_pos c8 hyp
              refine q_iconst (x := 0) rfl dX1_joined_81 ?_
              exact q_iretH rfl rfl dX1_joined_82 hyp
            · have hyp := q_neg c8 hyp
              refine q_iconst (x := 1) rfl dX1_joined_77 ?_
              refine q_goto (tgt := 82) dX1_joined_78 (by decide) ?_
              exact q_iretH rfl rfl dX1_joined_82 hyp
          · refine q_ite hyp (fun c9 hyp => ?_) (fun c9 hyp => ?_)
            · refine q_lookup (off := 82) (tgt := 83) dX1_joined_1 (by decide) (by rw [c9]; decide) (by decide) ?_
              refine q_iload_n 1 rfl dX1_joined_83 ?_
              refine q_iload_n 2 rfl dX1_joined_84 ?_
              refine q_icmp_ne (tgt := 92) dX1_joined_85 (by decide) (fun c10 => ?_) (fun c10 => ?_)
              · have hyp := q_neg c10 hyp
                refine q_iconst (x := 0) rfl dX1_joined_92 ?_
                exact q_iretH rfl rfl dX1_joined_93 hyp
              · have hyp := q_pos c10 hyp
                refine q_iconst (x := 1) rfl dX1_joined_88 ?_
                refine q_goto (tgt := 93) dX1_joined_89 (by decide) ?_
                exact q_iretH rfl rfl dX1_joined_93 hyp
            · have zc1 := q_ni c1
              have zc4 := q_ni c4
              have zc5 := q_ni c5
              have zc6 := q_ni c6
              have zc7 := q_ni c7
              have zc9 := q_ni c9
              have zz : Op.lookupswitch.offset [(16, 93), (42, 67), (43, 59), (45, 63), (60, 71), (61, 82)] 107 v0.toInt = 107 := by
                rw [show (16 : Int32).toInt = 16 from rfl] at zc1
                rw [show (42 : Int32).toInt = 42 from rfl] at zc4
                rw [show (43 : Int32).toInt = 43 from rfl] at zc5
                rw [show (45 : Int32).toInt = 45 from rfl] at zc6
                rw [show (60 : Int32).toInt = 60 from rfl] at zc7
                rw [show (61 : Int32).toInt = 61 from rfl] at zc9
                rw [Op.lookupswitch.offset_cons, if_neg (Ne.symm zc1), Op.lookupswitch.offset_cons, if_neg (Ne.symm zc4), Op.lookupswitch.offset_cons, if_neg (Ne.symm zc5), Op.lookupswitch.offset_cons, if_neg (Ne.symm zc6), Op.lookupswitch.offset_cons, if_neg (Ne.symm zc7), Op.lookupswitch.offset_cons, if_neg (Ne.symm zc9)]
                rfl
              refine q_lookup (off := 107) (tgt := 108) dX1_joined_1 (by decide) zz (by decide) ?_
              refine q_iload_n 1 rfl dX1_joined_108 ?_
              refine q_if_ne (tgt := 116) dX1_joined_109 (by decide) (fun c11 => ?_) (fun c11 => ?_)
              · have hyp := q_neg c11 hyp
                refine q_iconst (x := 1) rfl dX1_joined_116 ?_
                refine q_goto (tgt := 121) dX1_joined_117 (by decide) ?_
                exact q_iretH rfl rfl dX1_joined_121 hyp
              · have hyp := q_pos c11 hyp
                refine q_iload_n 2 rfl dX1_joined_112 ?_
                refine q_if_eq (tgt := 120) dX1_joined_113 (by decide) (fun c12 => ?_) (fun c12 => ?_)
                · have hyp := q_pos c12 hyp
                  refine q_iconst (x := 0) rfl dX1_joined_120 ?_
                  exact q_iretH rfl rfl dX1_joined_121 hyp
                · have hyp := q_neg c12 hyp
                  refine q_iconst (x := 1) rfl dX1_joined_116 ?_
                  refine q_goto (tgt := 121) dX1_joined_117 (by decide) ?_
                  exact q_iretH rfl rfl dX1_joined_121 hyp
theorem dX1_pop_0 : decode cX1_pop 0 = .ok (.aload_n 0, 1) := by decide +kernel
theorem dX1_pop_1 : decode cX1_pop 1 = .ok (.getfield 22, 3) := by decide +kernel
theorem dX1_pop_4 : decode cX1_pop 4 = .ok (.ifCond .gt 5, 3) := by decide +kernel
theorem dX1_pop_7 : decode cX1_pop 7 = .ok (.iconst 0, 1) := by decide +kernel
theorem dX1_pop_8 : decode cX1_pop 8 = .ok (.ireturn, 1) := by decide +kernel
theorem dX1_pop_9 : decode cX1_pop 9 = .ok (.aload_n 0, 1) := by decide +kernel
theorem dX1_pop_10 : decode cX1_pop 10 = .ok (.dup, 1) := by decide +kernel
theorem dX1_pop_11 : decode cX1_pop 11 = .ok (.getfield 22, 3) := by decide +kernel
theorem dX1_pop_14 : decode cX1_pop 14 = .ok (.iconst 1, 1) := by decide +kernel
theorem dX1_pop_15 : decode cX1_pop 15 = .ok (.isub, 1) := by decide +kernel
theorem dX1_pop_16 : decode cX1_pop 16 = .ok (.putfield 22, 3) := by decide +kernel
theorem dX1_pop_19 : decode cX1_pop 19 = .ok (.aload_n 0, 1) := by decide +kernel
theorem dX1_pop_20 : decode cX1_pop 20 = .ok (.getfield 15, 3) := by decide +kernel
theorem dX1_pop_23 : decode cX1_pop 23 = .ok (.aload_n 0, 1) := by decide +kernel
theorem dX1_pop_24 : decode cX1_pop 24 = .ok (.getfield 22, 3) := by decide +kernel
theorem dX1_pop_27 : decode cX1_pop 27 = .ok (.iaload, 1) := by decide +kernel
theorem dX1_pop_28 : decode cX1_pop 28 = .ok (.ireturn, 1) := by decide +kernel
def fX1_pop (v0 : Nat) (h : qH) : Option (Int32 × qH) :=
  (isO h v0 1).bind fun _ =>
  (gI h v0 1 3).bind fun x1 =>
  if 0 < x1 then
  ((gI h v0 1 3).bind fun x4 =>
  (pF h v0 1 3 (.int (x4 - 1))).bind fun h6 =>
  (gR h6 v0 1 1).bind fun x8 =>
  (gI h6 v0 1 3).bind fun x10 =>
  (aI .int h6 x8 x10).bind fun x12 =>
  some (x12, h6))
  else
  (some (0, h))
theorem obX1_pop {v0 : Nat} {h : qH} {p : Int32 × qH} (hyp : fX1_pop v0 h = some p) : ∃ fs, h.1 v0 = some (.inr (1, fs)) := by
  unfold fX1_pop at hyp
  exact q_bind hyp (fun _ e _ => isO_some e)
set_option maxHeartbeats 4000000 in
set_option maxRecDepth 100000 in
theorem okX1_pop {l : Launch} {v0 : Nat} {h : qH} {p : Int32 × qH} (hyp : fX1_pop v0 h = some p) : q_M l 1 yX1_pop cX1_pop 1 (some .int) [.ref v0] h (some (.int p.1)) p.2 := by
  obtain ⟨r, h'⟩ := p
  unfold fX1_pop at hyp
  refine q_bind hyp (fun _ _ hyp => ?_)
  refine q_M.of (by decide) (Nat.le_of_ble_eq_true rfl) ?_
  refine q_to (ls' := [(0, .ref v0)]) (st' := []) rfl rfl ?_
  refine q_aload_n 0 rfl dX1_pop_0 ?_
  refine q_bind hyp (fun x1 e2 hyp => ?_)
  refine q_getI kF_X1_22 dX1_pop_1 e2 ?_
  refine q_if_gt (tgt := 9) dX1_pop_4 (by decide) (fun c3 => ?_) (fun c3 => ?_)
  · have hyp := q_pos c3 hyp
    refine q_aload_n 0 rfl dX1_pop_9 ?_
    refine q_dup rfl dX1_pop_10 ?_
    refine q_bind hyp (fun x4 e5 hyp => ?_)
    refine q_getI kF_X1_22 dX1_pop_11 e5 ?_
    refine q_iconst (x := 1) rfl dX1_pop_14 ?_
    refine q_isub dX1_pop_15 ?_
    refine q_bind hyp (fun h6 e7 hyp => ?_)
    refine q_putF kF_X1_22 (fun _ => ⟨rfl, rfl⟩) dX1_pop_16 e7 ?_
    refine q_aload_n 0 rfl dX1_pop_19 ?_
    refine q_bind hyp (fun x8 e9 hyp => ?_)
    refine q_getR kF_X1_15 dX1_pop_20 e9 ?_
    refine q_aload_n 0 rfl dX1_pop_23 ?_
    refine q_bind hyp (fun x10 e11 hyp => ?_)
    refine q_getI kF_X1_22 dX1_pop_24 e11 ?_
    refine q_bind hyp (fun x12 e13 hyp => ?_)
    refine q_iald dX1_pop_27 e13 ?_
    exact q_iretH rfl rfl dX1_pop_28 hyp
  · have hyp := q_neg c3 hyp
    refine q_iconst (x := 0) rfl dX1_pop_7 ?_
    exact q_iretH rfl rfl dX1_pop_8 hyp
theorem dX1_push_0 : decode cX1_push 0 = .ok (.aload_n 0, 1) := by decide +kernel
theorem dX1_push_1 : decode cX1_push 1 = .ok (.getfield 22, 3) := by decide +kernel
theorem dX1_push_4 : decode cX1_push 4 = .ok (.aload_n 0, 1) := by decide +kernel
theorem dX1_push_5 : decode cX1_push 5 = .ok (.getfield 15, 3) := by decide +kernel
theorem dX1_push_8 : decode cX1_push 8 = .ok (.arraylength, 1) := by decide +kernel
theorem dX1_push_9 : decode cX1_push 9 = .ok (.if_icmp .ge 23, 3) := by decide +kernel
theorem dX1_push_12 : decode cX1_push 12 = .ok (.aload_n 0, 1) := by decide +kernel
theorem dX1_push_13 : decode cX1_push 13 = .ok (.getfield 15, 3) := by decide +kernel
theorem dX1_push_16 : decode cX1_push 16 = .ok (.aload_n 0, 1) := by decide +kernel
theorem dX1_push_17 : decode cX1_push 17 = .ok (.getfield 22, 3) := by decide +kernel
theorem dX1_push_20 : decode cX1_push 20 = .ok (.iload_n 1, 1) := by decide +kernel
theorem dX1_push_21 : decode cX1_push 21 = .ok (.iastore, 1) := by decide +kernel
theorem dX1_push_22 : decode cX1_push 22 = .ok (.aload_n 0, 1) := by decide +kernel
theorem dX1_push_23 : decode cX1_push 23 = .ok (.dup, 1) := by decide +kernel
theorem dX1_push_24 : decode cX1_push 24 = .ok (.getfield 22, 3) := by decide +kernel
theorem dX1_push_27 : decode cX1_push 27 = .ok (.iconst 1, 1) := by decide +kernel
theorem dX1_push_28 : decode cX1_push 28 = .ok (.iadd, 1) := by decide +kernel
theorem dX1_push_29 : decode cX1_push 29 = .ok (.putfield 22, 3) := by decide +kernel
theorem dX1_push_32 : decode cX1_push 32 = .ok (.return_, 1) := by decide +kernel
def fX1_push (v0 : Nat) (v1 : Int32) (h : qH) : Option (qH) :=
  (isO h v0 1).bind fun _ =>
  (gI h v0 1 3).bind fun x1 =>
  (gR h v0 1 1).bind fun x3 =>
  (aN h x3).bind fun x5 =>
  if x5 ≤ x1 then
  (some h)
  else
  ((gR h v0 1 1).bind fun x8 =>
  (gI h v0 1 3).bind fun x10 =>
  (sI .int h x8 x10 v1).bind fun h12 =>
  (gI h12 v0 1 3).bind fun x14 =>
  (pF h12 v0 1 3 (.int (x14 + 1))).bind fun h16 =>
  some h16)
theorem obX1_push {v0 : Nat} {v1 : Int32} {h : qH} {p : qH} (hyp : fX1_push v0 v1 h = some p) : ∃ fs, h.1 v0 = some (.inr (1, fs)) := by
  unfold fX1_push at hyp
  exact q_bind hyp (fun _ e _ => isO_some e)
set_option maxHeartbeats 4000000 in
set_option maxRecDepth 100000 in
theorem okX1_push {l : Launch} {v0 : Nat} {v1 : Int32} {h : qH} {h' : qH} (hyp : fX1_push v0 v1 h = some h') : q_M l 1 yX1_push cX1_push 2 none [.ref v0, .int v1] h none h' := by
  unfold fX1_push at hyp
  refine q_bind hyp (fun _ _ hyp => ?_)
  refine q_M.of (by decide) (Nat.le_of_ble_eq_true rfl) ?_
  refine q_to (ls' := [(0, .ref v0), (1, .int v1)]) (st' := []) rfl rfl ?_
  refine q_aload_n 0 rfl dX1_push_0 ?_
  refine q_bind hyp (fun x1 e2 hyp => ?_)
  refine q_getI kF_X1_22 dX1_push_1 e2 ?_
  refine q_aload_n 0 rfl dX1_push_4 ?_
  refine q_bind hyp (fun x3 e4 hyp => ?_)
  refine q_getR kF_X1_15 dX1_push_5 e4 ?_
  refine q_bind hyp (fun x5 e6 hyp => ?_)
  refine q_alen dX1_push_8 e6 ?_
  refine q_icmp_ge (tgt := 32) dX1_push_9 (by decide) (fun c7 => ?_) (fun c7 => ?_)
  · have hyp := q_pos c7 hyp
    exact q_vretH rfl dX1_push_32 hyp
  · have hyp := q_neg c7 hyp
    refine q_aload_n 0 rfl dX1_push_12 ?_
    refine q_bind hyp (fun x8 e9 hyp => ?_)
    refine q_getR kF_X1_15 dX1_push_13 e9 ?_
    refine q_aload_n 0 rfl dX1_push_16 ?_
    refine q_bind hyp (fun x10 e11 hyp => ?_)
    refine q_getI kF_X1_22 dX1_push_17 e11 ?_
    refine q_iload_n 1 rfl dX1_push_20 ?_
    refine q_bind hyp (fun h12 e13 hyp => ?_)
    refine q_iast dX1_push_21 e13 ?_
    refine q_aload_n 0 rfl dX1_push_22 ?_
    refine q_dup rfl dX1_push_23 ?_
    refine q_bind hyp (fun x14 e15 hyp => ?_)
    refine q_getI kF_X1_22 dX1_push_24 e15 ?_
    refine q_iconst (x := 1) rfl dX1_push_27 ?_
    refine q_iadd dX1_push_28 ?_
    refine q_bind hyp (fun h16 e17 hyp => ?_)
    refine q_putF kF_X1_22 (fun _ => ⟨rfl, rfl⟩) dX1_push_29 e17 ?_
    exact q_vretH rfl dX1_push_32 hyp
theorem dX1_worth_0 : decode cX1_worth 0 = .ok (.aload_n 0, 1) := by decide +kernel
theorem dX1_worth_1 : decode cX1_worth 1 = .ok (.iconst 0, 1) := by decide +kernel
theorem dX1_worth_2 : decode cX1_worth 2 = .ok (.putfield 22, 3) := by decide +kernel
theorem dX1_worth_5 : decode cX1_worth 5 = .ok (.iconst 0, 1) := by decide +kernel
theorem dX1_worth_6 : decode cX1_worth 6 = .ok (.istore 5, 2) := by decide +kernel
theorem dX1_worth_8 : decode cX1_worth 8 = .ok (.iload 5, 2) := by decide +kernel
theorem dX1_worth_10 : decode cX1_worth 10 = .ok (.aload_n 0, 1) := by decide +kernel
theorem dX1_worth_11 : decode cX1_worth 11 = .ok (.getfield 18, 3) := by decide +kernel
theorem dX1_worth_14 : decode cX1_worth 14 = .ok (.if_icmp .ge 160, 3) := by decide +kernel
theorem dX1_worth_17 : decode cX1_worth 17 = .ok (.aload_n 0, 1) := by decide +kernel
theorem dX1_worth_18 : decode cX1_worth 18 = .ok (.getfield 9, 3) := by decide +kernel
theorem dX1_worth_21 : decode cX1_worth 21 = .ok (.iload 5, 2) := by decide +kernel
theorem dX1_worth_23 : decode cX1_worth 23 = .ok (.iaload, 1) := by decide +kernel
theorem dX1_worth_24 : decode cX1_worth 24 = .ok (.sipush 10000, 3) := by decide +kernel
theorem dX1_worth_27 : decode cX1_worth 27 = .ok (.isub, 1) := by decide +kernel
theorem dX1_worth_28 : decode cX1_worth 28 = .ok (.istore 6, 2) := by decide +kernel
theorem dX1_worth_30 : decode cX1_worth 30 = .ok (.iload 6, 2) := by decide +kernel
theorem dX1_worth_32 : decode cX1_worth 32 = .ok (.tableswitch 96 15 21 #[77, 96, 96, 44, 52, 60, 68], 44) := by decide +kernel
theorem dX1_worth_76 : decode cX1_worth 76 = .ok (.aload_n 0, 1) := by decide +kernel
theorem dX1_worth_77 : decode cX1_worth 77 = .ok (.iload_n 1, 1) := by decide +kernel
theorem dX1_worth_78 : decode cX1_worth 78 = .ok (.invokevirtual 25, 3) := by decide +kernel
theorem dX1_worth_81 : decode cX1_worth 81 = .ok (.goto 87, 3) := by decide +kernel
theorem dX1_worth_84 : decode cX1_worth 84 = .ok (.aload_n 0, 1) := by decide +kernel
theorem dX1_worth_85 : decode cX1_worth 85 = .ok (.iload_n 2, 1) := by decide +kernel
theorem dX1_worth_86 : decode cX1_worth 86 = .ok (.invokevirtual 25, 3) := by decide +kernel
theorem dX1_worth_89 : decode cX1_worth 89 = .ok (.goto 79, 3) := by decide +kernel
theorem dX1_worth_92 : decode cX1_worth 92 = .ok (.aload_n 0, 1) := by decide +kernel
theorem dX1_worth_93 : decode cX1_worth 93 = .ok (.iload_n 3, 1) := by decide +kernel
theorem dX1_worth_94 : decode cX1_worth 94 = .ok (.invokevirtual 25, 3) := by decide +kernel
theorem dX1_worth_97 : decode cX1_worth 97 = .ok (.goto 71, 3) := by decide +kernel
theorem dX1_worth_100 : decode cX1_worth 100 = .ok (.aload_n 0, 1) := by decide +kernel
theorem dX1_worth_101 : decode cX1_worth 101 = .ok (.iload 4, 2) := by decide +kernel
theorem dX1_worth_103 : decode cX1_worth 103 = .ok (.invokevirtual 25, 3) := by decide +kernel
theorem dX1_worth_106 : decode cX1_worth 106 = .ok (.goto 62, 3) := by decide +kernel
theorem dX1_worth_109 : decode cX1_worth 109 = .ok (.aload_n 0, 1) := by decide +kernel
theorem dX1_worth_110 : decode cX1_worth 110 = .ok (.aload_n 0, 1) := by decide +kernel
theorem dX1_worth_111 : decode cX1_worth 111 = .ok (.invokevirtual 29, 3) := by decide +kernel
theorem dX1_worth_114 : decode cX1_worth 114 = .ok (.ifCond .ne 7, 3) := by decide +kernel
theorem dX1_worth_117 : decode cX1_worth 117 = .ok (.iconst 1, 1) := by decide +kernel
theorem dX1_worth_118 : decode cX1_worth 118 = .ok (.goto 4, 3) := by decide +kernel
theorem dX1_worth_121 : decode cX1_worth 121 = .ok (.iconst 0, 1) := by decide +kernel
theorem dX1_worth_122 : decode cX1_worth 122 = .ok (.invokevirtual 25, 3) := by decide +kernel
theorem dX1_worth_125 : decode cX1_worth 125 = .ok (.goto 43, 3) := by decide +kernel
theorem dX1_worth_128 : decode cX1_worth 128 = .ok (.iload 6, 2) := by decide +kernel
theorem dX1_worth_130 : decode cX1_worth 130 = .ok (.ifCond .ge 17, 3) := by decide +kernel
theorem dX1_worth_133 : decode cX1_worth 133 = .ok (.aload_n 0, 1) := by decide +kernel
theorem dX1_worth_134 : decode cX1_worth 134 = .ok (.aload_n 0, 1) := by decide +kernel
theorem dX1_worth_135 : decode cX1_worth 135 = .ok (.getfield 9, 3) := by decide +kernel
theorem dX1_worth_138 : decode cX1_worth 138 = .ok (.iload 5, 2) := by decide +kernel
theorem dX1_worth_140 : decode cX1_worth 140 = .ok (.iaload, 1) := by decide +kernel
theorem dX1_worth_141 : decode cX1_worth 141 = .ok (.invokevirtual 25, 3) := by decide +kernel
theorem dX1_worth_144 : decode cX1_worth 144 = .ok (.goto 24, 3) := by decide +kernel
theorem dX1_worth_147 : decode cX1_worth 147 = .ok (.aload_n 0, 1) := by decide +kernel
theorem dX1_worth_148 : decode cX1_worth 148 = .ok (.invokevirtual 29, 3) := by decide +kernel
theorem dX1_worth_151 : decode cX1_worth 151 = .ok (.istore 7, 2) := by decide +kernel
theorem dX1_worth_153 : decode cX1_worth 153 = .ok (.aload_n 0, 1) := by decide +kernel
theorem dX1_worth_154 : decode cX1_worth 154 = .ok (.iload 6, 2) := by decide +kernel
theorem dX1_worth_156 : decode cX1_worth 156 = .ok (.aload_n 0, 1) := by decide +kernel
theorem dX1_worth_157 : decode cX1_worth 157 = .ok (.invokevirtual 29, 3) := by decide +kernel
theorem dX1_worth_160 : decode cX1_worth 160 = .ok (.iload 7, 2) := by decide +kernel
theorem dX1_worth_162 : decode cX1_worth 162 = .ok (.invokestatic 33, 3) := by decide +kernel
theorem dX1_worth_165 : decode cX1_worth 165 = .ok (.invokevirtual 25, 3) := by decide +kernel
theorem dX1_worth_168 : decode cX1_worth 168 = .ok (.iinc 5 1, 3) := by decide +kernel
theorem dX1_worth_171 : decode cX1_worth 171 = .ok (.goto (-163), 3) := by decide +kernel
theorem dX1_worth_174 : decode cX1_worth 174 = .ok (.aload_n 0, 1) := by decide +kernel
theorem dX1_worth_175 : decode cX1_worth 175 = .ok (.invokevirtual 29, 3) := by decide +kernel
theorem dX1_worth_178 : decode cX1_worth 178 = .ok (.ireturn, 1) := by decide +kernel
def fX1_worth_b128 (n : Nat) (K8 : Nat → Int32 → Int32 → Int32 → Int32 → Int32 → qH → Option (Int32 × qH)) (v0 : Nat) (v1 : Int32) (v2 : Int32) (v3 : Int32) (v4 : Int32) (v5 : Int32) (v6 : Int32) (h : qH) : Option (Int32 × qH) :=
  if 0 ≤ v6 then
  ((fX1_pop v0 h).bind fun p2 =>
  (fX1_pop v0 p2.2).bind fun p3 =>
  (fX1_joined v6 p3.1 p2.1 p3.2).bind fun p4 =>
  (fX1_push v0 p4.1 p4.2).bind fun h5 =>
  K8 v0 v1 v2 v3 v4 (v5 + 1) h5)
  else
  ((gR h v0 1 0).bind fun x10 =>
  (aI .int h x10 v5).bind fun x12 =>
  (fX1_push v0 x12 h).bind fun h14 =>
  K8 v0 v1 v2 v3 v4 (v5 + 1) h14)
set_option maxHeartbeats 4000000 in
set_option maxRecDepth 100000 in
theorem okX1_worth_b128 {l : Launch} {n : Nat} {K8 : Nat → Int32 → Int32 → Int32 → Int32 → Int32 → qH → Option (Int32 × qH)} {v0 : Nat} {v1 : Int32} {v2 : Int32} {v3 : Int32} {v4 : Int32} {v5 : Int32} {v6 : Int32} {h : qH} {r : Int32} {h' : qH} (hK8 : ∀ (v0 : Nat) (v1 : Int32) (v2 : Int32) (v3 : Int32) (v4 : Int32) (v5 : Int32) (h : qH), K8 v0 v1 v2 v3 v4 v5 h = some (r, h') → q_W l 2 yX1_worth cX1_worth 8 (some .int) (some (.int r)) h' 8 [(0, .ref v0), (1, .int v1), (2, .int v2), (3, .int v3), (4, .int v4), (5, .int v5)] [] h) (hyp : fX1_worth_b128 n K8 v0 v1 v2 v3 v4 v5 v6 h = some (r, h')) : q_W l 2 yX1_worth cX1_worth 8 (some .int) (some (.int r)) h' 128 [(0, .ref v0), (1, .int v1), (2, .int v2), (3, .int v3), (4, .int v4), (5, .int v5), (6, .int v6)] [] h := by
  unfold fX1_worth_b128 at hyp
  refine q_iload 6 rfl dX1_worth_128 ?_
  refine q_if_ge (tgt := 147) dX1_worth_130 (by decide) (fun c1 => ?_) (fun c1 => ?_)
  · have hyp := q_pos c1 hyp
    refine q_aload_n 0 rfl dX1_worth_147 ?_
    refine q_bind hyp (fun p2 e9 hyp => ?_)
    refine q_callV (as := []) (st := []) kY_X1_pop kL_X1_29 (okX1_pop (l := l) e9) (by decide) rfl (obX1_pop e9) (Nat.le_of_ble_eq_true rfl) dX1_worth_148 ?_
    refine q_to (ls' := [(0, .ref v0), (1, .int v1), (2, .int v2), (3, .int v3), (4, .int v4), (5, .int v5), (6, .int v6)]) (st' := [.int p2.1]) rfl rfl ?_
    refine q_istore (ls' := [(7, .int p2.1), (0, .ref v0), (1, .int v1), (2, .int v2), (3, .int v3), (4, .int v4), (5, .int v5), (6, .int v6)]) (by decide) rfl dX1_worth_151 ?_
    refine q_aload_n 1 rfl dX1_worth_153 ?_
    refine q_iload 7 rfl dX1_worth_154 ?_
    refine q_aload_n 1 rfl dX1_worth_156 ?_
    refine q_bind hyp (fun p3 e8 hyp => ?_)
    refine q_callV (as := []) (st := [.int v6, .ref v0]) kY_X1_pop kL_X1_29 (okX1_pop (l := l) e8) (by decide) rfl (obX1_pop e8) (Nat.le_of_ble_eq_true rfl) dX1_worth_157 ?_
    refine q_to (ls' := [(7, .int p2.1), (0, .ref v0), (1, .int v1), (2, .int v2), (3, .int v3), (4, .int v4), (5, .int v5), (6, .int v6)]) (st' := [.int p3.1, .int v6, .ref v0]) rfl rfl ?_
    refine q_iload 0 rfl dX1_worth_160 ?_
    refine q_bind hyp (fun p4 e7 hyp => ?_)
    refine q_callS (as := [.int v6, .int p3.1, .int p2.1]) (st := [.ref v0]) kY_X1_joined kS_X1_joined kL_X1_33 (okX1_joined (l := l) e7) (by decide) rfl (Nat.le_of_ble_eq_true rfl) dX1_worth_162 ?_
    refine q_to (ls' := [(7, .int p2.1), (0, .ref v0), (1, .int v1), (2, .int v2), (3, .int v3), (4, .int v4), (5, .int v5), (6, .int v6)]) (st' := [.int p4.1, .ref v0]) rfl rfl ?_
    refine q_bind hyp (fun h5 e6 hyp => ?_)
    refine q_callV (as := [.int p4.1]) (st := []) kY_X1_push kL_X1_25 (okX1_push (l := l) e6) (by decide) rfl (obX1_push e6) (Nat.le_of_ble_eq_true rfl) dX1_worth_165 ?_
    refine q_to (ls' := [(7, .int p2.1), (0, .ref v0), (1, .int v1), (2, .int v2), (3, .int v3), (4, .int v4), (5, .int v5), (6, .int v6)]) (st' := []) rfl rfl ?_
    refine q_iinc (ls' := [(5, .int (v5 + 1)), (7, .int p2.1), (0, .ref v0), (1, .int v1), (2, .int v2), (3, .int v3), (4, .int v4), (6, .int v6)]) 6 rfl rfl (by decide) rfl dX1_worth_168 ?_
    refine q_goto (tgt := 8) dX1_worth_171 (by decide) ?_
    exact q_sub [2, 3, 4, 5, 6, 0] rfl (hK8 v0 v1 v2 v3 v4 (v5 + 1) h5 hyp)
  · have hyp := q_neg c1 hyp
    refine q_aload_n 0 rfl dX1_worth_133 ?_
    refine q_aload_n 0 rfl dX1_worth_134 ?_
    refine q_bind hyp (fun x10 e11 hyp => ?_)
    refine q_getR kF_X1_9 dX1_worth_135 e11 ?_
    refine q_iload 5 rfl dX1_worth_138 ?_
    refine q_bind hyp (fun x12 e13 hyp => ?_)
    refine q_iald dX1_worth_140 e13 ?_
    refine q_bind hyp (fun h14 e15 hyp => ?_)
    refine q_callV (as := [.int x12]) (st := []) kY_X1_push kL_X1_25 (okX1_push (l := l) e15) (by decide) rfl (obX1_push e15) (Nat.le_of_ble_eq_true rfl) dX1_worth_141 ?_
    refine q_to (ls' := [(0, .ref v0), (1, .int v1), (2, .int v2), (3, .int v3), (4, .int v4), (5, .int v5), (6, .int v6)]) (st' := []) rfl rfl ?_
    refine q_goto (tgt := 168) dX1_worth_144 (by decide) ?_
    refine q_iinc (ls' := [(5, .int (v5 + 1)), (0, .ref v0), (1, .int v1), (2, .int v2), (3, .int v3), (4, .int v4), (6, .int v6)]) 5 rfl rfl (by decide) rfl dX1_worth_168 ?_
    refine q_goto (tgt := 8) dX1_worth_171 (by decide) ?_
    exact q_sub [1, 2, 3, 4, 5, 0] rfl (hK8 v0 v1 v2 v3 v4 (v5 + 1) h14 hyp)
def fX1_worth_b122 (n : Nat) (K8 : Nat → Int32 → Int32 → Int32 → Int32 → Int32 → qH → Option (Int32 × qH)) (v0 : Nat) (v1 : Int32) (v2 : Int32) (v3 : Int32) (v4 : Int32) (v5 : Int32) (s0 : Int32) (s1 : Nat) (h : qH) : Option (Int32 × qH) :=
  (fX1_push s1 s0 h).bind fun h1 =>
  K8 v0 v1 v2 v3 v4 (v5 + 1) h1
set_option maxHeartbeats 4000000 in
set_option maxRecDepth 100000 in
theorem okX1_worth_b122 {l : Launch} {n : Nat} {K8 : Nat → Int32 → Int32 → Int32 → Int32 → Int32 → qH → Option (Int32 × qH)} {v0 : Nat} {v1 : Int32} {v2 : Int32} {v3 : Int32} {v4 : Int32} {v5 : Int32} {s0 : Int32} {s1 : Nat} {h : qH} {r : Int32} {h' : qH} (hK8 : ∀ (v0 : Nat) (v1 : Int32) (v2 : Int32) (v3 : Int32) (v4 : Int32) (v5 : Int32) (h : qH), K8 v0 v1 v2 v3 v4 v5 h = some (r, h') → q_W l 2 yX1_worth cX1_worth 8 (some .int) (some (.int r)) h' 8 [(0, .ref v0), (1, .int v1), (2, .int v2), (3, .int v3), (4, .int v4), (5, .int v5)] [] h) (hyp : fX1_worth_b122 n K8 v0 v1 v2 v3 v4 v5 s0 s1 h = some (r, h')) : q_W l 2 yX1_worth cX1_worth 8 (some .int) (some (.int r)) h' 122 [(0, .ref v0), (1, .int v1), (2, .int v2), (3, .int v3), (4, .int v4), (5, .int v5)] [.int s0, .ref s1] h := by
  unfold fX1_worth_b122 at hyp
  refine q_bind hyp (fun h1 e2 hyp => ?_)
  refine q_callV (as := [.int s0]) (st := []) kY_X1_push kL_X1_25 (okX1_push (l := l) e2) (by decide) rfl (obX1_push e2) (Nat.le_of_ble_eq_true rfl) dX1_worth_122 ?_
  refine q_to (ls' := [(0, .ref v0), (1, .int v1), (2, .int v2), (3, .int v3), (4, .int v4), (5, .int v5)]) (st' := []) rfl rfl ?_
  refine q_goto (tgt := 168) dX1_worth_125 (by decide) ?_
  refine q_iinc (ls' := [(5, .int (v5 + 1)), (0, .ref v0), (1, .int v1), (2, .int v2), (3, .int v3), (4, .int v4)]) 5 rfl rfl (by decide) rfl dX1_worth_168 ?_
  refine q_goto (tgt := 8) dX1_worth_171 (by decide) ?_
  exact q_sub [1, 2, 3, 4, 5, 0] rfl (hK8 v0 v1 v2 v3 v4 (v5 + 1) h1 hyp)
def fX1_worth_b8 (n : Nat) : Nat → Nat → Int32 → Int32 → Int32 → Int32 → Int32 → qH → Option (Int32 × qH)
  | 0, _, _, _, _, _, _, _ => none
  | w + 1, v0, v1, v2, v3, v4, v5, h =>
    (gI h v0 1 2).bind fun x1 =>
    if x1 ≤ v5 then
    ((fX1_pop v0 h).bind fun p4 =>
    some (p4.1, p4.2))
    else
    ((gR h v0 1 0).bind fun x6 =>
    (aI .int h x6 v5).bind fun x8 =>
    if (x8 - 10000) = 15 then
    ((fX1_pop v0 h).bind fun p11 =>
    if p11.1 = 0 then
    (fX1_worth_b122 n (fX1_worth_b8 n w) v0 v1 v2 v3 v4 v5 1 v0 p11.2)
    else
    (fX1_worth_b122 n (fX1_worth_b8 n w) v0 v1 v2 v3 v4 v5 0 v0 p11.2))
    else
    (if (x8 - 10000) = 16 then
    (fX1_worth_b128 n (fX1_worth_b8 n w) v0 v1 v2 v3 v4 v5 (x8 - 10000) h)
    else
    (if (x8 - 10000) = 17 then
    (fX1_worth_b128 n (fX1_worth_b8 n w) v0 v1 v2 v3 v4 v5 (x8 - 10000) h)
    else
    (if (x8 - 10000) = 18 then
    ((fX1_push v0 v1 h).bind fun h17 =>
    fX1_worth_b8 n w v0 v1 v2 v3 v4 (v5 + 1) h17)
    else
    (if (x8 - 10000) = 19 then
    ((fX1_push v0 v2 h).bind fun h20 =>
    fX1_worth_b8 n w v0 v1 v2 v3 v4 (v5 + 1) h20)
    else
    (if (x8 - 10000) = 20 then
    ((fX1_push v0 v3 h).bind fun h23 =>
    fX1_worth_b8 n w v0 v1 v2 v3 v4 (v5 + 1) h23)
    else
    (if (x8 - 10000) = 21 then
    ((fX1_push v0 v4 h).bind fun h26 =>
    fX1_worth_b8 n w v0 v1 v2 v3 v4 (v5 + 1) h26)
    else
    (fX1_worth_b128 n (fX1_worth_b8 n w) v0 v1 v2 v3 v4 v5 (x8 - 10000) h))))))))
set_option maxHeartbeats 4000000 in
set_option maxRecDepth 100000 in
theorem okX1_worth_b8 {l : Launch} {n : Nat} {r : Int32} {h' : qH} : ∀ (w : Nat) (v0 : Nat) (v1 : Int32) (v2 : Int32) (v3 : Int32) (v4 : Int32) (v5 : Int32) (h : qH), fX1_worth_b8 n w v0 v1 v2 v3 v4 v5 h = some (r, h') → q_W l 2 yX1_worth cX1_worth 8 (some .int) (some (.int r)) h' 8 [(0, .ref v0), (1, .int v1), (2, .int v2), (3, .int v3), (4, .int v4), (5, .int v5)] [] h := by
  intro w
  induction w with
  | zero => intro v0 v1 v2 v3 v4 v5 h hyp; cases hyp
  | succ w ih =>
    intro v0 v1 v2 v3 v4 v5 h hyp
    unfold fX1_worth_b8 at hyp
    refine q_iload 5 rfl dX1_worth_8 ?_
    refine q_aload_n 0 rfl dX1_worth_10 ?_
    refine q_bind hyp (fun x1 e2 hyp => ?_)
    refine q_getI kF_X1_18 dX1_worth_11 e2 ?_
    refine q_icmp_ge (tgt := 174) dX1_worth_14 (by decide) (fun c3 => ?_) (fun c3 => ?_)
    · have hyp := q_pos c3 hyp
      refine q_aload_n 0 rfl dX1_worth_174 ?_
      refine q_bind hyp (fun p4 e5 hyp => ?_)
      refine q_callV (as := []) (st := []) kY_X1_pop kL_X1_29 (okX1_pop (l := l) e5) (by decide) rfl (obX1_pop e5) (Nat.le_of_ble_eq_true rfl) dX1_worth_175 ?_
      refine q_to (ls' := [(0, .ref v0), (1, .int v1), (2, .int v2), (3, .int v3), (4, .int v4), (5, .int v5)]) (st' := [.int p4.1]) rfl rfl ?_
      exact q_iretH rfl rfl dX1_worth_178 hyp
    · have hyp := q_neg c3 hyp
      refine q_aload_n 0 rfl dX1_worth_17 ?_
      refine q_bind hyp (fun x6 e7 hyp => ?_)
      refine q_getR kF_X1_9 dX1_worth_18 e7 ?_
      refine q_iload 5 rfl dX1_worth_21 ?_
      refine q_bind hyp (fun x8 e9 hyp => ?_)
      refine q_iald dX1_worth_23 e9 ?_
      refine q_sipush (x := 10000) (by decide) dX1_worth_24 ?_
      refine q_isub dX1_worth_27 ?_
      refine q_istore (ls' := [(6, .int (x8 - 10000)), (0, .ref v0), (1, .int v1), (2, .int v2), (3, .int v3), (4, .int v4), (5, .int v5)]) (by decide) rfl dX1_worth_28 ?_
      refine q_iload 0 rfl dX1_worth_30 ?_
      refine q_ite hyp (fun c10 hyp => ?_) (fun c10 hyp => ?_)
      · refine q_tableIn (off := 77) (tgt := 109) dX1_worth_32 (by rw [c10]; decide) (by rw [c10]; decide) (by rw [c10]; rfl) (by decide) ?_
        refine q_aload_n 1 rfl dX1_worth_109 ?_
        refine q_aload_n 1 rfl dX1_worth_110 ?_
        refine q_bind hyp (fun p11 e13 hyp => ?_)
        refine q_callV (as := []) (st := [.ref v0]) kY_X1_pop kL_X1_29 (okX1_pop (l := l) e13) (by decide) rfl (obX1_pop e13) (Nat.le_of_ble_eq_true rfl) dX1_worth_111 ?_
        refine q_to (ls' := [(6, .int (x8 - 10000)), (0, .ref v0), (1, .int v1), (2, .int v2), (3, .int v3), (4, .int v4), (5, .int v5)]) (st' := [.int p11.1, .ref v0]) rfl rfl ?_
        refine q_if_ne (tgt := 121) dX1_worth_114 (by decide) (fun c12 => ?_) (fun c12 => ?_)
        · have hyp := q_neg c12 hyp
          refine q_iconst (x := 0) rfl dX1_worth_121 ?_
          exact q_sub [1, 2, 3, 4, 5, 6] rfl (okX1_worth_b122 ih hyp)
        · have hyp := q_pos c12 hyp
          refine q_iconst (x := 1) rfl dX1_worth_117 ?_
          refine q_goto (tgt := 122) dX1_worth_118 (by decide) ?_
          exact q_sub [1, 2, 3, 4, 5, 6] rfl (okX1_worth_b122 ih hyp)
      · refine q_ite hyp (fun c14 hyp => ?_) (fun c14 hyp => ?_)
        · refine q_tableIn (off := 96) (tgt := 128) dX1_worth_32 (by rw [c14]; decide) (by rw [c14]; decide) (by rw [c14]; rfl) (by decide) ?_
          exact q_sub [1, 2, 3, 4, 5, 6, 0] rfl (okX1_worth_b128 ih hyp)
        · refine q_ite hyp (fun c15 hyp => ?_) (fun c15 hyp => ?_)
          · refine q_tableIn (off := 96) (tgt := 128) dX1_worth_32 (by rw [c15]; decide) (by rw [c15]; decide) (by rw [c15]; rfl) (by decide) ?_
            exact q_sub [1, 2, 3, 4, 5, 6, 0] rfl (okX1_worth_b128 ih hyp)
          · refine q_ite hyp (fun c16 hyp => ?_) (fun c16 hyp => ?_)
            · refine q_tableIn (off := 44) (tgt := 76) dX1_worth_32 (by rw [c16]; decide) (by rw [c16]; decide) (by rw [c16]; rfl) (by decide) ?_
              refine q_aload_n 1 rfl dX1_worth_76 ?_
              refine q_iload_n 2 rfl dX1_worth_77 ?_
              refine q_bind hyp (fun h17 e18 hyp => ?_)
              refine q_callV (as := [.int v1]) (st := []) kY_X1_push kL_X1_25 (okX1_push (l := l) e18) (by decide) rfl (obX1_push e18) (Nat.le_of_ble_eq_true rfl) dX1_worth_78 ?_
              refine q_to (ls' := [(6, .int (x8 - 10000)), (0, .ref v0), (1, .int v1), (2, .int v2), (3, .int v3), (4, .int v4), (5, .int v5)]) (st' := []) rfl rfl ?_
              refine q_goto (tgt := 168) dX1_worth_81 (by decide) ?_
              refine q_iinc (ls' := [(5, .int (v5 + 1)), (6, .int (x8 - 10000)), (0, .ref v0), (1, .int v1), (2, .int v2), (3, .int v3), (4, .int v4)]) 6 rfl rfl (by decide) rfl dX1_worth_168 ?_
              refine q_goto (tgt := 8) dX1_worth_171 (by decide) ?_
              exact q_sub [2, 3, 4, 5, 6, 0] rfl (ih v0 v1 v2 v3 v4 (v5 + 1) h17 hyp)
            · refine q_ite hyp (fun c19 hyp => ?_) (fun c19 hyp => ?_)
              · refine q_tableIn (off := 52) (tgt := 84) dX1_worth_32 (by rw [c19]; decide) (by rw [c19]; decide) (by rw [c19]; rfl) (by decide) ?_
                refine q_aload_n 1 rfl dX1_worth_84 ?_
                refine q_iload_n 3 rfl dX1_worth_85 ?_
                refine q_bind hyp (fun h20 e21 hyp => ?_)
                refine q_callV (as := [.int v2]) (st := []) kY_X1_push kL_X1_25 (okX1_push (l := l) e21) (by decide) rfl (obX1_push e21) (Nat.le_of_ble_eq_true rfl) dX1_worth_86 ?_
                refine q_to (ls' := [(6, .int (x8 - 10000)), (0, .ref v0), (1, .int v1), (2, .int v2), (3, .int v3), (4, .int v4), (5, .int v5)]) (st' := []) rfl rfl ?_
                refine q_goto (tgt := 168) dX1_worth_89 (by decide) ?_
                refine q_iinc (ls' := [(5, .int (v5 + 1)), (6, .int (x8 - 10000)), (0, .ref v0), (1, .int v1), (2, .int v2), (3, .int v3), (4, .int v4)]) 6 rfl rfl (by decide) rfl dX1_worth_168 ?_
                refine q_goto (tgt := 8) dX1_worth_171 (by decide) ?_
                exact q_sub [2, 3, 4, 5, 6, 0] rfl (ih v0 v1 v2 v3 v4 (v5 + 1) h20 hyp)
              · refine q_ite hyp (fun c22 hyp => ?_) (fun c22 hyp => ?_)
                · refine q_tableIn (off := 60) (tgt := 92) dX1_worth_32 (by rw [c22]; decide) (by rw [c22]; decide) (by rw [c22]; rfl) (by decide) ?_
                  refine q_aload_n 1 rfl dX1_worth_92 ?_
                  refine q_iload_n 4 rfl dX1_worth_93 ?_
                  refine q_bind hyp (fun h23 e24 hyp => ?_)
                  refine q_callV (as := [.int v3]) (st := []) kY_X1_push kL_X1_25 (okX1_push (l := l) e24) (by decide) rfl (obX1_push e24) (Nat.le_of_ble_eq_true rfl) dX1_worth_94 ?_
                  refine q_to (ls' := [(6, .int (x8 - 10000)), (0, .ref v0), (1, .int v1), (2, .int v2), (3, .int v3), (4, .int v4), (5, .int v5)]) (st' := []) rfl rfl ?_
                  refine q_goto (tgt := 168) dX1_worth_97 (by decide) ?_
                  refine q_iinc (ls' := [(5, .int (v5 + 1)), (6, .int (x8 - 10000)), (0, .ref v0), (1, .int v1), (2, .int v2), (3, .int v3), (4, .int v4)]) 6 rfl rfl (by decide) rfl dX1_worth_168 ?_
                  refine q_goto (tgt := 8) dX1_worth_171 (by decide) ?_
                  exact q_sub [2, 3, 4, 5, 6, 0] rfl (ih v0 v1 v2 v3 v4 (v5 + 1) h23 hyp)
                · refine q_ite hyp (fun c25 hyp => ?_) (fun c25 hyp => ?_)
                  · refine q_tableIn (off := 68) (tgt := 100) dX1_worth_32 (by rw [c25]; decide) (by rw [c25]; decide) (by rw [c25]; rfl) (by decide) ?_
                    refine q_aload_n 1 rfl dX1_worth_100 ?_
                    refine q_iload 5 rfl dX1_worth_101 ?_
                    refine q_bind hyp (fun h26 e27 hyp => ?_)
                    refine q_callV (as := [.int v4]) (st := []) kY_X1_push kL_X1_25 (okX1_push (l := l) e27) (by decide) rfl (obX1_push e27) (Nat.le_of_ble_eq_true rfl) dX1_worth_103 ?_
                    refine q_to (ls' := [(6, .int (x8 - 10000)), (0, .ref v0), (1, .int v1), (2, .int v2), (3, .int v3), (4, .int v4), (5, .int v5)]) (st' := []) rfl rfl ?_
                    refine q_goto (tgt := 168) dX1_worth_106 (by decide) ?_
                    refine q_iinc (ls' := [(5, .int (v5 + 1)), (6, .int (x8 - 10000)), (0, .ref v0), (1, .int v1), (2, .int v2), (3, .int v3), (4, .int v4)]) 6 rfl rfl (by decide) rfl dX1_worth_168 ?_
                    refine q_goto (tgt := 8) dX1_worth_171 (by decide) ?_
                    exact q_sub [2, 3, 4, 5, 6, 0] rfl (ih v0 v1 v2 v3 v4 (v5 + 1) h26 hyp)
                  · have zc10 := q_ni c10
                    have zc14 := q_ni c14
                    have zc15 := q_ni c15
                    have zc16 := q_ni c16
                    have zc19 := q_ni c19
                    have zc22 := q_ni c22
                    have zc25 := q_ni c25
                    have zz : (x8 - 10000).toInt < 15 ∨ 21 < (x8 - 10000).toInt := by
                      rw [show (15 : Int32).toInt = 15 from rfl] at zc10
                      rw [show (16 : Int32).toInt = 16 from rfl] at zc14
                      rw [show (17 : Int32).toInt = 17 from rfl] at zc15
                      rw [show (18 : Int32).toInt = 18 from rfl] at zc16
                      rw [show (19 : Int32).toInt = 19 from rfl] at zc19
                      rw [show (20 : Int32).toInt = 20 from rfl] at zc22
                      rw [show (21 : Int32).toInt = 21 from rfl] at zc25
                      omega
                    refine q_tableOut (tgt := 128) dX1_worth_32 zz (by decide) ?_
                    exact q_sub [1, 2, 3, 4, 5, 6, 0] rfl (okX1_worth_b128 ih hyp)
def fX1_worth (n : Nat) (v0 : Nat) (v1 : Int32) (v2 : Int32) (v3 : Int32) (v4 : Int32) (h : qH) : Option (Int32 × qH) :=
  (isO h v0 1).bind fun _ =>
  (pF h v0 1 3 (.int 0)).bind fun h1 =>
  fX1_worth_b8 n n v0 v1 v2 v3 v4 0 h1
theorem obX1_worth {n : Nat} {v0 : Nat} {v1 : Int32} {v2 : Int32} {v3 : Int32} {v4 : Int32} {h : qH} {p : Int32 × qH} (hyp : fX1_worth n v0 v1 v2 v3 v4 h = some p) : ∃ fs, h.1 v0 = some (.inr (1, fs)) := by
  unfold fX1_worth at hyp
  exact q_bind hyp (fun _ e _ => isO_some e)
set_option maxHeartbeats 4000000 in
set_option maxRecDepth 100000 in
theorem okX1_worth {l : Launch} {n : Nat} {v0 : Nat} {v1 : Int32} {v2 : Int32} {v3 : Int32} {v4 : Int32} {h : qH} {p : Int32 × qH} (hyp : fX1_worth n v0 v1 v2 v3 v4 h = some p) : q_M l 2 yX1_worth cX1_worth 8 (some .int) [.ref v0, .int v1, .int v2, .int v3, .int v4] h (some (.int p.1)) p.2 := by
  obtain ⟨r, h'⟩ := p
  unfold fX1_worth at hyp
  refine q_bind hyp (fun _ _ hyp => ?_)
  refine q_M.of (by decide) (Nat.le_of_ble_eq_true rfl) ?_
  refine q_to (ls' := [(0, .ref v0), (1, .int v1), (2, .int v2), (3, .int v3), (4, .int v4)]) (st' := []) rfl rfl ?_
  refine q_aload_n 0 rfl dX1_worth_0 ?_
  refine q_iconst (x := 0) rfl dX1_worth_1 ?_
  refine q_bind hyp (fun h1 e2 hyp => ?_)
  refine q_putF kF_X1_22 (fun _ => ⟨rfl, rfl⟩) dX1_worth_2 e2 ?_
  refine q_iconst (x := 0) rfl dX1_worth_5 ?_
  refine q_istore (ls' := [(5, .int 0), (0, .ref v0), (1, .int v1), (2, .int v2), (3, .int v3), (4, .int v4)]) (by decide) rfl dX1_worth_6 ?_
  exact q_sub [1, 2, 3, 4, 5, 0] rfl (okX1_worth_b8 _ v0 v1 v2 v3 v4 0 h1 hyp)
theorem dX2_add_0 : decode cX2_add 0 = .ok (.aload_n 0, 1) := by decide +kernel
theorem dX2_add_1 : decode cX2_add 1 = .ok (.getfield 18, 3) := by decide +kernel
theorem dX2_add_4 : decode cX2_add 4 = .ok (.aload_n 0, 1) := by decide +kernel
theorem dX2_add_5 : decode cX2_add 5 = .ok (.getfield 9, 3) := by decide +kernel
theorem dX2_add_8 : decode cX2_add 8 = .ok (.arraylength, 1) := by decide +kernel
theorem dX2_add_9 : decode cX2_add 9 = .ok (.if_icmp .ge 33, 3) := by decide +kernel
theorem dX2_add_12 : decode cX2_add 12 = .ok (.aload_n 0, 1) := by decide +kernel
theorem dX2_add_13 : decode cX2_add 13 = .ok (.getfield 9, 3) := by decide +kernel
theorem dX2_add_16 : decode cX2_add 16 = .ok (.aload_n 0, 1) := by decide +kernel
theorem dX2_add_17 : decode cX2_add 17 = .ok (.getfield 18, 3) := by decide +kernel
theorem dX2_add_20 : decode cX2_add 20 = .ok (.iload_n 1, 1) := by decide +kernel
theorem dX2_add_21 : decode cX2_add 21 = .ok (.iastore, 1) := by decide +kernel
theorem dX2_add_22 : decode cX2_add 22 = .ok (.aload_n 0, 1) := by decide +kernel
theorem dX2_add_23 : decode cX2_add 23 = .ok (.getfield 15, 3) := by decide +kernel
theorem dX2_add_26 : decode cX2_add 26 = .ok (.aload_n 0, 1) := by decide +kernel
theorem dX2_add_27 : decode cX2_add 27 = .ok (.getfield 18, 3) := by decide +kernel
theorem dX2_add_30 : decode cX2_add 30 = .ok (.iload_n 2, 1) := by decide +kernel
theorem dX2_add_31 : decode cX2_add 31 = .ok (.iastore, 1) := by decide +kernel
theorem dX2_add_32 : decode cX2_add 32 = .ok (.aload_n 0, 1) := by decide +kernel
theorem dX2_add_33 : decode cX2_add 33 = .ok (.dup, 1) := by decide +kernel
theorem dX2_add_34 : decode cX2_add 34 = .ok (.getfield 18, 3) := by decide +kernel
theorem dX2_add_37 : decode cX2_add 37 = .ok (.iconst 1, 1) := by decide +kernel
theorem dX2_add_38 : decode cX2_add 38 = .ok (.iadd, 1) := by decide +kernel
theorem dX2_add_39 : decode cX2_add 39 = .ok (.putfield 18, 3) := by decide +kernel
theorem dX2_add_42 : decode cX2_add 42 = .ok (.return_, 1) := by decide +kernel
def fX2_add (v0 : Nat) (v1 : Int32) (v2 : Int32) (h : qH) : Option (qH) :=
  (isO h v0 2).bind fun _ =>
  (gI h v0 2 2).bind fun x1 =>
  (gR h v0 2 0).bind fun x3 =>
  (aN h x3).bind fun x5 =>
  if x5 ≤ x1 then
  (some h)
  else
  ((gR h v0 2 0).bind fun x8 =>
  (gI h v0 2 2).bind fun x10 =>
  (sI .int h x8 x10 v1).bind fun h12 =>
  (gR h12 v0 2 1).bind fun x14 =>
  (gI h12 v0 2 2).bind fun x16 =>
  (sI .int h12 x14 x16 v2).bind fun h18 =>
  (gI h18 v0 2 2).bind fun x20 =>
  (pF h18 v0 2 2 (.int (x20 + 1))).bind fun h22 =>
  some h22)
theorem obX2_add {v0 : Nat} {v1 : Int32} {v2 : Int32} {h : qH} {p : qH} (hyp : fX2_add v0 v1 v2 h = some p) : ∃ fs, h.1 v0 = some (.inr (2, fs)) := by
  unfold fX2_add at hyp
  exact q_bind hyp (fun _ e _ => isO_some e)
set_option maxHeartbeats 4000000 in
set_option maxRecDepth 100000 in
theorem okX2_add {l : Launch} {v0 : Nat} {v1 : Int32} {v2 : Int32} {h : qH} {h' : qH} (hyp : fX2_add v0 v1 v2 h = some h') : q_M l 1 yX2_add cX2_add 3 none [.ref v0, .int v1, .int v2] h none h' := by
  unfold fX2_add at hyp
  refine q_bind hyp (fun _ _ hyp => ?_)
  refine q_M.of (by decide) (Nat.le_of_ble_eq_true rfl) ?_
  refine q_to (ls' := [(0, .ref v0), (1, .int v1), (2, .int v2)]) (st' := []) rfl rfl ?_
  refine q_aload_n 0 rfl dX2_add_0 ?_
  refine q_bind hyp (fun x1 e2 hyp => ?_)
  refine q_getI kF_X2_18 dX2_add_1 e2 ?_
  refine q_aload_n 0 rfl dX2_add_4 ?_
  refine q_bind hyp (fun x3 e4 hyp => ?_)
  refine q_getR kF_X2_9 dX2_add_5 e4 ?_
  refine q_bind hyp (fun x5 e6 hyp => ?_)
  refine q_alen dX2_add_8 e6 ?_
  refine q_icmp_ge (tgt := 42) dX2_add_9 (by decide) (fun c7 => ?_) (fun c7 => ?_)
  · have hyp := q_pos c7 hyp
    exact q_vretH rfl dX2_add_42 hyp
  · have hyp := q_neg c7 hyp
    refine q_aload_n 0 rfl dX2_add_12 ?_
    refine q_bind hyp (fun x8 e9 hyp => ?_)
    refine q_getR kF_X2_9 dX2_add_13 e9 ?_
    refine q_aload_n 0 rfl dX2_add_16 ?_
    refine q_bind hyp (fun x10 e11 hyp => ?_)
    refine q_getI kF_X2_18 dX2_add_17 e11 ?_
    refine q_iload_n 1 rfl dX2_add_20 ?_
    refine q_bind hyp (fun h12 e13 hyp => ?_)
    refine q_iast dX2_add_21 e13 ?_
    refine q_aload_n 0 rfl dX2_add_22 ?_
    refine q_bind hyp (fun x14 e15 hyp => ?_)
    refine q_getR kF_X2_15 dX2_add_23 e15 ?_
    refine q_aload_n 0 rfl dX2_add_26 ?_
    refine q_bind hyp (fun x16 e17 hyp => ?_)
    refine q_getI kF_X2_18 dX2_add_27 e17 ?_
    refine q_iload_n 2 rfl dX2_add_30 ?_
    refine q_bind hyp (fun h18 e19 hyp => ?_)
    refine q_iast dX2_add_31 e19 ?_
    refine q_aload_n 0 rfl dX2_add_32 ?_
    refine q_dup rfl dX2_add_33 ?_
    refine q_bind hyp (fun x20 e21 hyp => ?_)
    refine q_getI kF_X2_18 dX2_add_34 e21 ?_
    refine q_iconst (x := 1) rfl dX2_add_37 ?_
    refine q_iadd dX2_add_38 ?_
    refine q_bind hyp (fun h22 e23 hyp => ?_)
    refine q_putF kF_X2_18 (fun _ => ⟨rfl, rfl⟩) dX2_add_39 e23 ?_
    exact q_vretH rfl dX2_add_42 hyp
theorem dX2_clear_0 : decode cX2_clear 0 = .ok (.aload_n 0, 1) := by decide +kernel
theorem dX2_clear_1 : decode cX2_clear 1 = .ok (.iconst 0, 1) := by decide +kernel
theorem dX2_clear_2 : decode cX2_clear 2 = .ok (.putfield 18, 3) := by decide +kernel
theorem dX2_clear_5 : decode cX2_clear 5 = .ok (.return_, 1) := by decide +kernel
def fX2_clear (v0 : Nat) (h : qH) : Option (qH) :=
  (isO h v0 2).bind fun _ =>
  (pF h v0 2 2 (.int 0)).bind fun h1 =>
  some h1
theorem obX2_clear {v0 : Nat} {h : qH} {p : qH} (hyp : fX2_clear v0 h = some p) : ∃ fs, h.1 v0 = some (.inr (2, fs)) := by
  unfold fX2_clear at hyp
  exact q_bind hyp (fun _ e _ => isO_some e)
set_option maxHeartbeats 4000000 in
set_option maxRecDepth 100000 in
theorem okX2_clear {l : Launch} {v0 : Nat} {h : qH} {h' : qH} (hyp : fX2_clear v0 h = some h') : q_M l 1 yX2_clear cX2_clear 1 none [.ref v0] h none h' := by
  unfold fX2_clear at hyp
  refine q_bind hyp (fun _ _ hyp => ?_)
  refine q_M.of (by decide) (Nat.le_of_ble_eq_true rfl) ?_
  refine q_to (ls' := [(0, .ref v0)]) (st' := []) rfl rfl ?_
  refine q_aload_n 0 rfl dX2_clear_0 ?_
  refine q_iconst (x := 0) rfl dX2_clear_1 ?_
  refine q_bind hyp (fun h1 e2 hyp => ?_)
  refine q_putF kF_X2_18 (fun _ => ⟨rfl, rfl⟩) dX2_clear_2 e2 ?_
  exact q_vretH rfl dX2_clear_5 hyp
theorem dX2_copy_0 : decode cX2_copy 0 = .ok (.aload_n 0, 1) := by decide +kernel
theorem dX2_copy_1 : decode cX2_copy 1 = .ok (.aload_n 1, 1) := by decide +kernel
theorem dX2_copy_2 : decode cX2_copy 2 = .ok (.getfield 18, 3) := by decide +kernel
theorem dX2_copy_5 : decode cX2_copy 5 = .ok (.putfield 18, 3) := by decide +kernel
theorem dX2_copy_8 : decode cX2_copy 8 = .ok (.iconst 0, 1) := by decide +kernel
theorem dX2_copy_9 : decode cX2_copy 9 = .ok (.istore_n 2, 1) := by decide +kernel
theorem dX2_copy_10 : decode cX2_copy 10 = .ok (.iload_n 2, 1) := by decide +kernel
theorem dX2_copy_11 : decode cX2_copy 11 = .ok (.aload_n 0, 1) := by decide +kernel
theorem dX2_copy_12 : decode cX2_copy 12 = .ok (.getfield 18, 3) := by decide +kernel
theorem dX2_copy_15 : decode cX2_copy 15 = .ok (.if_icmp .ge 33, 3) := by decide +kernel
theorem dX2_copy_18 : decode cX2_copy 18 = .ok (.aload_n 0, 1) := by decide +kernel
theorem dX2_copy_19 : decode cX2_copy 19 = .ok (.getfield 9, 3) := by decide +kernel
theorem dX2_copy_22 : decode cX2_copy 22 = .ok (.iload_n 2, 1) := by decide +kernel
theorem dX2_copy_23 : decode cX2_copy 23 = .ok (.aload_n 1, 1) := by decide +kernel
theorem dX2_copy_24 : decode cX2_copy 24 = .ok (.getfield 9, 3) := by decide +kernel
theorem dX2_copy_27 : decode cX2_copy 27 = .ok (.iload_n 2, 1) := by decide +kernel
theorem dX2_copy_28 : decode cX2_copy 28 = .ok (.iaload, 1) := by decide +kernel
theorem dX2_copy_29 : decode cX2_copy 29 = .ok (.iastore, 1) := by decide +kernel
theorem dX2_copy_30 : decode cX2_copy 30 = .ok (.aload_n 0, 1) := by decide +kernel
theorem dX2_copy_31 : decode cX2_copy 31 = .ok (.getfield 15, 3) := by decide +kernel
theorem dX2_copy_34 : decode cX2_copy 34 = .ok (.iload_n 2, 1) := by decide +kernel
theorem dX2_copy_35 : decode cX2_copy 35 = .ok (.aload_n 1, 1) := by decide +kernel
theorem dX2_copy_36 : decode cX2_copy 36 = .ok (.getfield 15, 3) := by decide +kernel
theorem dX2_copy_39 : decode cX2_copy 39 = .ok (.iload_n 2, 1) := by decide +kernel
theorem dX2_copy_40 : decode cX2_copy 40 = .ok (.iaload, 1) := by decide +kernel
theorem dX2_copy_41 : decode cX2_copy 41 = .ok (.iastore, 1) := by decide +kernel
theorem dX2_copy_42 : decode cX2_copy 42 = .ok (.iinc 2 1, 3) := by decide +kernel
theorem dX2_copy_45 : decode cX2_copy 45 = .ok (.goto (-35), 3) := by decide +kernel
theorem dX2_copy_48 : decode cX2_copy 48 = .ok (.return_, 1) := by decide +kernel
def fX2_copy_b10 (n : Nat) : Nat → Nat → Nat → Int32 → qH → Option (qH)
  | 0, _, _, _, _ => none
  | w + 1, v0, v1, v2, h =>
    (gI h v0 2 2).bind fun x1 =>
    if x1 ≤ v2 then
    (some h)
    else
    ((gR h v0 2 0).bind fun x4 =>
    (gR h v1 2 0).bind fun x6 =>
    (aI .int h x6 v2).bind fun x8 =>
    (sI .int h x4 v2 x8).bind fun h10 =>
    (gR h10 v0 2 1).bind fun x12 =>
    (gR h10 v1 2 1).bind fun x14 =>
    (aI .int h10 x14 v2).bind fun x16 =>
    (sI .int h10 x12 v2 x16).bind fun h18 =>
    fX2_copy_b10 n w v0 v1 (v2 + 1) h18)
set_option maxHeartbeats 4000000 in
set_option maxRecDepth 100000 in
theorem okX2_copy_b10 {l : Launch} {n : Nat} {h' : qH} : ∀ (w : Nat) (v0 : Nat) (v1 : Nat) (v2 : Int32) (h : qH), fX2_copy_b10 n w v0 v1 v2 h = some h' → q_W l 1 yX2_copy cX2_copy 3 none none h' 10 [(0, .ref v0), (1, .ref v1), (2, .int v2)] [] h := by
  intro w
  induction w with
  | zero => intro v0 v1 v2 h hyp; cases hyp
  | succ w ih =>
    intro v0 v1 v2 h hyp
    unfold fX2_copy_b10 at hyp
    refine q_iload_n 2 rfl dX2_copy_10 ?_
    refine q_aload_n 0 rfl dX2_copy_11 ?_
    refine q_bind hyp (fun x1 e2 hyp => ?_)
    refine q_getI kF_X2_18 dX2_copy_12 e2 ?_
    refine q_icmp_ge (tgt := 48) dX2_copy_15 (by decide) (fun c3 => ?_) (fun c3 => ?_)
    · have hyp := q_pos c3 hyp
      exact q_vretH rfl dX2_copy_48 hyp
    · have hyp := q_neg c3 hyp
      refine q_aload_n 0 rfl dX2_copy_18 ?_
      refine q_bind hyp (fun x4 e5 hyp => ?_)
      refine q_getR kF_X2_9 dX2_copy_19 e5 ?_
      refine q_iload_n 2 rfl dX2_copy_22 ?_
      refine q_aload_n 1 rfl dX2_copy_23 ?_
      refine q_bind hyp (fun x6 e7 hyp => ?_)
      refine q_getR kF_X2_9 dX2_copy_24 e7 ?_
      refine q_iload_n 2 rfl dX2_copy_27 ?_
      refine q_bind hyp (fun x8 e9 hyp => ?_)
      refine q_iald dX2_copy_28 e9 ?_
      refine q_bind hyp (fun h10 e11 hyp => ?_)
      refine q_iast dX2_copy_29 e11 ?_
      refine q_aload_n 0 rfl dX2_copy_30 ?_
      refine q_bind hyp (fun x12 e13 hyp => ?_)
      refine q_getR kF_X2_15 dX2_copy_31 e13 ?_
      refine q_iload_n 2 rfl dX2_copy_34 ?_
      refine q_aload_n 1 rfl dX2_copy_35 ?_
      refine q_bind hyp (fun x14 e15 hyp => ?_)
      refine q_getR kF_X2_15 dX2_copy_36 e15 ?_
      refine q_iload_n 2 rfl dX2_copy_39 ?_
      refine q_bind hyp (fun x16 e17 hyp => ?_)
      refine q_iald dX2_copy_40 e17 ?_
      refine q_bind hyp (fun h18 e19 hyp => ?_)
      refine q_iast dX2_copy_41 e19 ?_
      refine q_iinc (ls' := [(2, .int (v2 + 1)), (0, .ref v0), (1, .ref v1)]) 2 rfl rfl (by decide) rfl dX2_copy_42 ?_
      refine q_goto (tgt := 10) dX2_copy_45 (by decide) ?_
      exact q_sub [1, 2, 0] rfl (ih v0 v1 (v2 + 1) h18 hyp)
def fX2_copy (n : Nat) (v0 : Nat) (v1 : Nat) (h : qH) : Option (qH) :=
  (isO h v0 2).bind fun _ =>
  (gI h v1 2 2).bind fun x1 =>
  (pF h v0 2 2 (.int x1)).bind fun h3 =>
  fX2_copy_b10 n n v0 v1 0 h3
theorem obX2_copy {n : Nat} {v0 : Nat} {v1 : Nat} {h : qH} {p : qH} (hyp : fX2_copy n v0 v1 h = some p) : ∃ fs, h.1 v0 = some (.inr (2, fs)) := by
  unfold fX2_copy at hyp
  exact q_bind hyp (fun _ e _ => isO_some e)
set_option maxHeartbeats 4000000 in
set_option maxRecDepth 100000 in
theorem okX2_copy {l : Launch} {n : Nat} {v0 : Nat} {v1 : Nat} {h : qH} {h' : qH} (hyp : fX2_copy n v0 v1 h = some h') : q_M l 1 yX2_copy cX2_copy 3 none [.ref v0, .ref v1] h none h' := by
  unfold fX2_copy at hyp
  refine q_bind hyp (fun _ _ hyp => ?_)
  refine q_M.of (by decide) (Nat.le_of_ble_eq_true rfl) ?_
  refine q_to (ls' := [(0, .ref v0), (1, .ref v1)]) (st' := []) rfl rfl ?_
  refine q_aload_n 0 rfl dX2_copy_0 ?_
  refine q_aload_n 1 rfl dX2_copy_1 ?_
  refine q_bind hyp (fun x1 e2 hyp => ?_)
  refine q_getI kF_X2_18 dX2_copy_2 e2 ?_
  refine q_bind hyp (fun h3 e4 hyp => ?_)
  refine q_putF kF_X2_18 (fun _ => ⟨rfl, rfl⟩) dX2_copy_5 e4 ?_
  refine q_iconst (x := 0) rfl dX2_copy_8 ?_
  refine q_istore_n (ls' := [(2, .int 0), (0, .ref v0), (1, .ref v1)]) (by decide) rfl dX2_copy_9 ?_
  exact q_sub [1, 2, 0] rfl (okX2_copy_b10 _ v0 v1 0 h3 hyp)
theorem dX2_init_0 : decode cX2_init 0 = .ok (.aload_n 0, 1) := by decide +kernel
theorem dX2_init_1 : decode cX2_init 1 = .ok (.invokespecial 3, 3) := by decide +kernel
theorem dX2_init_4 : decode cX2_init 4 = .ok (.aload_n 0, 1) := by decide +kernel
theorem dX2_init_5 : decode cX2_init 5 = .ok (.bipush 40, 2) := by decide +kernel
theorem dX2_init_7 : decode cX2_init 7 = .ok (.newarray .int, 2) := by decide +kernel
theorem dX2_init_9 : decode cX2_init 9 = .ok (.putfield 9, 3) := by decide +kernel
theorem dX2_init_12 : decode cX2_init 12 = .ok (.aload_n 0, 1) := by decide +kernel
theorem dX2_init_13 : decode cX2_init 13 = .ok (.bipush 40, 2) := by decide +kernel
theorem dX2_init_15 : decode cX2_init 15 = .ok (.newarray .int, 2) := by decide +kernel
theorem dX2_init_17 : decode cX2_init 17 = .ok (.putfield 15, 3) := by decide +kernel
theorem dX2_init_20 : decode cX2_init 20 = .ok (.return_, 1) := by decide +kernel
def fX2_init (v0 : Nat) (h : qH) : Option (qH) :=
  (isO h v0 2).bind fun _ =>
  (some (nwE (.inl (.int, 40, .inl (fun _ => 0))) 40 h)).bind fun h1 =>
  (pF h1 v0 2 0 (.ref h.2.1)).bind fun h3 =>
  (some (nwE (.inl (.int, 40, .inl (fun _ => 0))) 40 h3)).bind fun h5 =>
  (pF h5 v0 2 1 (.ref h3.2.1)).bind fun h7 =>
  some h7
theorem obX2_init {v0 : Nat} {h : qH} {p : qH} (hyp : fX2_init v0 h = some p) : ∃ fs, h.1 v0 = some (.inr (2, fs)) := by
  unfold fX2_init at hyp
  exact q_bind hyp (fun _ e _ => isO_some e)
set_option maxHeartbeats 4000000 in
set_option maxRecDepth 100000 in
theorem okX2_init {l : Launch} {v0 : Nat} {h : qH} {h' : qH} (hyp : fX2_init v0 h = some h') : q_M l 1 yX2_init cX2_init 1 none [.ref v0] h none h' := by
  unfold fX2_init at hyp
  refine q_bind hyp (fun _ _ hyp => ?_)
  refine q_M.of (by decide) (Nat.le_of_ble_eq_true rfl) ?_
  refine q_to (ls' := [(0, .ref v0)]) (st' := []) rfl rfl ?_
  refine q_aload_n 0 rfl dX2_init_0 ?_
  refine q_objInit kL_X2_3 kI_obj kD_obj (by decide) (Nat.le_of_ble_eq_true rfl) dX2_init_1 ?_
  refine q_aload_n 0 rfl dX2_init_4 ?_
  refine q_bipush (x := 40) (by decide) dX2_init_5 ?_
  refine q_bind hyp (fun h1 e2 hyp => ?_)
  refine q_newa (ty := .int) (N := 40) (k := .inl (fun _ => 0)) rfl rfl kA_int (fun _ _ => rfl) (fun _ _ h => h) (by decide) (by decide) dX2_init_7 ?_
  rw [Option.some.inj e2]
  refine q_bind hyp (fun h3 e4 hyp => ?_)
  refine q_putZ kF_X2_9 rfl ⟨_, _, rfl⟩ (fun _ => ⟨rfl, rfl⟩) dX2_init_9 e4 ?_
  refine q_aload_n 0 rfl dX2_init_12 ?_
  refine q_bipush (x := 40) (by decide) dX2_init_13 ?_
  refine q_bind hyp (fun h5 e6 hyp => ?_)
  refine q_newa (ty := .int) (N := 40) (k := .inl (fun _ => 0)) rfl rfl kA_int (fun _ _ => rfl) (fun _ _ h => h) (by decide) (by decide) dX2_init_15 ?_
  rw [Option.some.inj e6]
  refine q_bind hyp (fun h7 e8 hyp => ?_)
  refine q_putZ kF_X2_15 rfl ⟨_, _, rfl⟩ (fun _ => ⟨rfl, rfl⟩) dX2_init_17 e8 ?_
  exact q_vretH rfl dX2_init_20 hyp
