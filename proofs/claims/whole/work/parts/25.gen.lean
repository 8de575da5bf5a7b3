/-! Functions over the abstract heap, and that the machine computes them (written by gen.py). -/
theorem dX10_getsBy_0 : decode cX10_getsBy 0 = .ok (.iload_n 3, 1) := by decide +kernel
theorem dX10_getsBy_1 : decode cX10_getsBy 1 = .ok (.iconst 1, 1) := by decide +kernel
theorem dX10_getsBy_2 : decode cX10_getsBy 2 = .ok (.if_icmp .ne 18, 3) := by decide +kernel
theorem dX10_getsBy_5 : decode cX10_getsBy 5 = .ok (.iload 4, 2) := by decide +kernel
theorem dX10_getsBy_7 : decode cX10_getsBy 7 = .ok (.iconst 1, 1) := by decide +kernel
theorem dX10_getsBy_8 : decode cX10_getsBy 8 = .ok (.if_icmp .ne 7, 3) := by decide +kernel
theorem dX10_getsBy_11 : decode cX10_getsBy 11 = .ok (.iload_n 0, 1) := by decide +kernel
theorem dX10_getsBy_12 : decode cX10_getsBy 12 = .ok (.goto 19, 3) := by decide +kernel
theorem dX10_getsBy_15 : decode cX10_getsBy 15 = .ok (.iload_n 1, 1) := by decide +kernel
theorem dX10_getsBy_16 : decode cX10_getsBy 16 = .ok (.ineg, 1) := by decide +kernel
theorem dX10_getsBy_17 : decode cX10_getsBy 17 = .ok (.goto 14, 3) := by decide +kernel
theorem dX10_getsBy_20 : decode cX10_getsBy 20 = .ok (.iload 4, 2) := by decide +kernel
theorem dX10_getsBy_22 : decode cX10_getsBy 22 = .ok (.iconst 1, 1) := by decide +kernel
theorem dX10_getsBy_23 : decode cX10_getsBy 23 = .ok (.if_icmp .ne 7, 3) := by decide +kernel
theorem dX10_getsBy_26 : decode cX10_getsBy 26 = .ok (.iload_n 2, 1) := by decide +kernel
theorem dX10_getsBy_27 : decode cX10_getsBy 27 = .ok (.goto 4, 3) := by decide +kernel
theorem dX10_getsBy_30 : decode cX10_getsBy 30 = .ok (.iconst 0, 1) := by decide +kernel
theorem dX10_getsBy_31 : decode cX10_getsBy 31 = .ok (.ireturn, 1) := by decide +kernel
def fX10_getsBy (v0 : Int32) (v1 : Int32) (v2 : Int32) (v3 : Int32) (v4 : Int32) (h : qH) : Option (Int32 × qH) :=
  if v3 = 1 then
  (if v4 = 1 then
  (some (v0, h))
  else
  (some (-v1, h)))
  else
  (if v4 = 1 then
  (some (v2, h))
  else
  (some (0, h)))
set_option maxHeartbeats 4000000 in
set_option maxRecDepth 100000 in
theorem okX10_getsBy {l : Launch} {v0 : Int32} {v1 : Int32} {v2 : Int32} {v3 : Int32} {v4 : Int32} {h : qH} {p : Int32 × qH} (hyp : fX10_getsBy v0 v1 v2 v3 v4 h = some p) : q_M l 1 yX10_getsBy cX10_getsBy 5 (some .int) [.int v0, .int v1, .int v2, .int v3, .int v4] h (some (.int p.1)) p.2 := by
  obtain ⟨r, h'⟩ := p
  unfold fX10_getsBy at hyp
  refine q_M.of (by decide) (Nat.le_of_ble_eq_true rfl) ?_
  refine q_to (ls' := [(0, .int v0), (1, .int v1), (2, .int v2), (3, .int v3), (4, .int v4)]) (st' := []) rfl rfl ?_
  refine q_iload_n 3 rfl dX10_getsBy_0 ?_
  refine q_iconst (x := 1) rfl dX10_getsBy_1 ?_
  refine q_icmp_ne (tgt := 20) dX10_getsBy_2 (by decide) (fun c1 => ?_) (fun c1 => ?_)
  · have hyp := q_neg c1 hyp
    refine q_iload 4 rfl dX10_getsBy_20 ?_
    refine q_iconst (x := 1) rfl dX10_getsBy_22 ?_
    refine q_icmp_ne (tgt := 30) dX10_getsBy_23 (by decide) (fun c2 => ?_) (fun c2 => ?_)
    · have hyp := q_neg c2 hyp
      refine q_iconst (x := 0) rfl dX10_getsBy_30 ?_
      exact q_iretH rfl rfl dX10_getsBy_31 hyp
    · have hyp := q_pos c2 hyp
      refine q_iload_n 2 rfl dX10_getsBy_26 ?_
      refine q_goto (tgt := 31) dX10_getsBy_27 (by decide) ?_
      exact q_iretH rfl rfl dX10_getsBy_31 hyp
  · have hyp := q_pos c1 hyp
    refine q_iload 4 rfl dX10_getsBy_5 ?_
    refine q_iconst (x := 1) rfl dX10_getsBy_7 ?_
    refine q_icmp_ne (tgt := 15) dX10_getsBy_8 (by decide) (fun c3 => ?_) (fun c3 => ?_)
    · have hyp := q_neg c3 hyp
      refine q_iload_n 1 rfl dX10_getsBy_15 ?_
      refine q_ineg dX10_getsBy_16 ?_
      refine q_goto (tgt := 31) dX10_getsBy_17 (by decide) ?_
      exact q_iretH rfl rfl dX10_getsBy_31 hyp
    · have hyp := q_pos c3 hyp
      refine q_iload_n 0 rfl dX10_getsBy_11 ?_
      refine q_goto (tgt := 31) dX10_getsBy_12 (by decide) ?_
      exact q_iretH rfl rfl dX10_getsBy_31 hyp
theorem dX10_heals_0 : decode cX10_heals 0 = .ok (.aload_n 0, 1) := by decide +kernel
theorem dX10_heals_1 : decode cX10_heals 1 = .ok (.iconst 0, 1) := by decide +kernel
theorem dX10_heals_2 : decode cX10_heals 2 = .ok (.putfield 136, 3) := by decide +kernel
theorem dX10_heals_5 : decode cX10_heals 5 = .ok (.aload_n 0, 1) := by decide +kernel
theorem dX10_heals_6 : decode cX10_heals 6 = .ok (.iload_n 1, 1) := by decide +kernel
theorem dX10_heals_7 : decode cX10_heals 7 = .ok (.invokevirtual 346, 3) := by decide +kernel
theorem dX10_heals_10 : decode cX10_heals 10 = .ok (.ifCond .eq 12, 3) := by decide +kernel
theorem dX10_heals_13 : decode cX10_heals 13 = .ok (.aload_n 0, 1) := by decide +kernel
theorem dX10_heals_14 : decode cX10_heals 14 = .ok (.iload_n 1, 1) := by decide +kernel
theorem dX10_heals_15 : decode cX10_heals 15 = .ok (.iconst 1, 1) := by decide +kernel
theorem dX10_heals_16 : decode cX10_heals 16 = .ok (.invokevirtual 399, 3) := by decide +kernel
theorem dX10_heals_19 : decode cX10_heals 19 = .ok (.goto 4, 3) := by decide +kernel
theorem dX10_heals_22 : decode cX10_heals 22 = .ok (.iconst (-1), 1) := by decide +kernel
theorem dX10_heals_23 : decode cX10_heals 23 = .ok (.ireturn, 1) := by decide +kernel
def fX10_heals (n : Nat) (v0 : Nat) (v1 : Int32) (h : qH) : Option (Int32 × qH) :=
  (isO h v0 10).bind fun _ =>
  (pF h v0 10 0 (.int 0)).bind fun h1 =>
  (fX10_isMatter v0 v1 h1).bind fun p3 =>
  if p3.1 = 0 then
  (some ((-1), p3.2))
  else
  ((fX10_comes n v0 v1 1 p3.2).bind fun p5 =>
  some (p5.1, p5.2))
theorem obX10_heals {n : Nat} {v0 : Nat} {v1 : Int32} {h : qH} {p : Int32 × qH} (hyp : fX10_heals n v0 v1 h = some p) : ∃ fs, h.1 v0 = some (.inr (10, fs)) := by
  unfold fX10_heals at hyp
  exact q_bind hyp (fun _ e _ => isO_some e)
set_option maxHeartbeats 4000000 in
set_option maxRecDepth 100000 in
theorem okX10_heals {l : Launch} {n : Nat} {v0 : Nat} {v1 : Int32} {h : qH} {p : Int32 × qH} (hyp : fX10_heals n v0 v1 h = some p) : q_M l 3 yX10_heals cX10_heals 2 (some .int) [.ref v0, .int v1] h (some (.int p.1)) p.2 := by
  obtain ⟨r, h'⟩ := p
  unfold fX10_heals at hyp
  refine q_bind hyp (fun _ _ hyp => ?_)
  refine q_M.of (by decide) (Nat.le_of_ble_eq_true rfl) ?_
  refine q_to (ls' := [(0, .ref v0), (1, .int v1)]) (st' := []) rfl rfl ?_
  refine q_aload_n 0 rfl dX10_heals_0 ?_
  refine q_iconst (x := 0) rfl dX10_heals_1 ?_
  refine q_bind hyp (fun h1 e2 hyp => ?_)
  refine q_putF kF_X10_136 (fun _ => ⟨rfl, rfl⟩) dX10_heals_2 e2 ?_
  refine q_aload_n 0 rfl dX10_heals_5 ?_
  refine q_iload_n 1 rfl dX10_heals_6 ?_
  refine q_bind hyp (fun p3 e7 hyp => ?_)
  refine q_callV (as := [.int v1]) (st := []) kY_X10_isMatter kL_X10_346 (okX10_isMatter (l := l) e7) (by decide) rfl (obX10_isMatter e7) (Nat.le_of_ble_eq_true rfl) dX10_heals_7 ?_
  refine q_to (ls' := [(0, .ref v0), (1, .int v1)]) (st' := [.int p3.1]) rfl rfl ?_
  refine q_if_eq (tgt := 22) dX10_heals_10 (by decide) (fun c4 => ?_) (fun c4 => ?_)
  · have hyp := q_pos c4 hyp
    refine q_iconst (x := (-1)) rfl dX10_heals_22 ?_
    exact q_iretH rfl rfl dX10_heals_23 hyp
  · have hyp := q_neg c4 hyp
    refine q_aload_n 0 rfl dX10_heals_13 ?_
    refine q_iload_n 1 rfl dX10_heals_14 ?_
    refine q_iconst (x := 1) rfl dX10_heals_15 ?_
    refine q_bind hyp (fun p5 e6 hyp => ?_)
    refine q_callV (as := [.int v1, .int 1]) (st := []) kY_X10_comes kL_X10_399 (okX10_comes (l := l) e6) (by decide) rfl (obX10_comes e6) (Nat.le_of_ble_eq_true rfl) dX10_heals_16 ?_
    refine q_to (ls' := [(0, .ref v0), (1, .int v1)]) (st' := [.int p5.1]) rfl rfl ?_
    refine q_goto (tgt := 23) dX10_heals_19 (by decide) ?_
    exact q_iretH rfl rfl dX10_heals_23 hyp
theorem dX10_usual_0 : decode cX10_usual 0 = .ok (.aload_n 0, 1) := by decide +kernel
theorem dX10_usual_1 : decode cX10_usual 1 = .ok (.getfield 13, 3) := by decide +kernel
theorem dX10_usual_4 : decode cX10_usual 4 = .ok (.iconst 4, 1) := by decide +kernel
theorem dX10_usual_5 : decode cX10_usual 5 = .ok (.iload_n 1, 1) := by decide +kernel
theorem dX10_usual_6 : decode cX10_usual 6 = .ok (.imul, 1) := by decide +kernel
theorem dX10_usual_7 : decode cX10_usual 7 = .ok (.iconst 0, 1) := by decide +kernel
theorem dX10_usual_8 : decode cX10_usual 8 = .ok (.iadd, 1) := by decide +kernel
theorem dX10_usual_9 : decode cX10_usual 9 = .ok (.iconst 0, 1) := by decide +kernel
theorem dX10_usual_10 : decode cX10_usual 10 = .ok (.iastore, 1) := by decide +kernel
theorem dX10_usual_11 : decode cX10_usual 11 = .ok (.aload_n 0, 1) := by decide +kernel
theorem dX10_usual_12 : decode cX10_usual 12 = .ok (.getfield 13, 3) := by decide +kernel
theorem dX10_usual_15 : decode cX10_usual 15 = .ok (.iconst 4, 1) := by decide +kernel
theorem dX10_usual_16 : decode cX10_usual 16 = .ok (.iload_n 1, 1) := by decide +kernel
theorem dX10_usual_17 : decode cX10_usual 17 = .ok (.imul, 1) := by decide +kernel
theorem dX10_usual_18 : decode cX10_usual 18 = .ok (.iconst 1, 1) := by decide +kernel
theorem dX10_usual_19 : decode cX10_usual 19 = .ok (.iadd, 1) := by decide +kernel
theorem dX10_usual_20 : decode cX10_usual 20 = .ok (.iconst 3, 1) := by decide +kernel
theorem dX10_usual_21 : decode cX10_usual 21 = .ok (.iastore, 1) := by decide +kernel
theorem dX10_usual_22 : decode cX10_usual 22 = .ok (.aload_n 0, 1) := by decide +kernel
theorem dX10_usual_23 : decode cX10_usual 23 = .ok (.getfield 13, 3) := by decide +kernel
theorem dX10_usual_26 : decode cX10_usual 26 = .ok (.iconst 4, 1) := by decide +kernel
theorem dX10_usual_27 : decode cX10_usual 27 = .ok (.iload_n 1, 1) := by decide +kernel
theorem dX10_usual_28 : decode cX10_usual 28 = .ok (.imul, 1) := by decide +kernel
theorem dX10_usual_29 : decode cX10_usual 29 = .ok (.iconst 2, 1) := by decide +kernel
theorem dX10_usual_30 : decode cX10_usual 30 = .ok (.iadd, 1) := by decide +kernel
theorem dX10_usual_31 : decode cX10_usual 31 = .ok (.iconst 4, 1) := by decide +kernel
theorem dX10_usual_32 : decode cX10_usual 32 = .ok (.iastore, 1) := by decide +kernel
theorem dX10_usual_33 : decode cX10_usual 33 = .ok (.aload_n 0, 1) := by decide +kernel
theorem dX10_usual_34 : decode cX10_usual 34 = .ok (.getfield 13, 3) := by decide +kernel
theorem dX10_usual_37 : decode cX10_usual 37 = .ok (.iconst 4, 1) := by decide +kernel
theorem dX10_usual_38 : decode cX10_usual 38 = .ok (.iload_n 1, 1) := by decide +kernel
theorem dX10_usual_39 : decode cX10_usual 39 = .ok (.imul, 1) := by decide +kernel
theorem dX10_usual_40 : decode cX10_usual 40 = .ok (.iconst 3, 1) := by decide +kernel
theorem dX10_usual_41 : decode cX10_usual 41 = .ok (.iadd, 1) := by decide +kernel
theorem dX10_usual_42 : decode cX10_usual 42 = .ok (.bipush 50, 2) := by decide +kernel
theorem dX10_usual_44 : decode cX10_usual 44 = .ok (.iastore, 1) := by decide +kernel
theorem dX10_usual_45 : decode cX10_usual 45 = .ok (.return_, 1) := by decide +kernel
def fX10_usual (v0 : Nat) (v1 : Int32) (h : qH) : Option (qH) :=
  (isO h v0 10).bind fun _ =>
  (gR h v0 10 10).bind fun x1 =>
  (sI .int h x1 ((4 * v1) + 0) 0).bind fun h3 =>
  (gR h3 v0 10 10).bind fun x5 =>
  (sI .int h3 x5 ((4 * v1) + 1) 3).bind fun h7 =>
  (gR h7 v0 10 10).bind fun x9 =>
  (sI .int h7 x9 ((4 * v1) + 2) 4).bind fun h11 =>
  (gR h11 v0 10 10).bind fun x13 =>
  (sI .int h11 x13 ((4 * v1) + 3) 50).bind fun h15 =>
  some h15
theorem obX10_usual {v0 : Nat} {v1 : Int32} {h : qH} {p : qH} (hyp : fX10_usual v0 v1 h = some p) : ∃ fs, h.1 v0 = some (.inr (10, fs)) := by
  unfold fX10_usual at hyp
  exact q_bind hyp (fun _ e _ => isO_some e)
set_option maxHeartbeats 4000000 in
set_option maxRecDepth 100000 in
theorem okX10_usual {l : Launch} {v0 : Nat} {v1 : Int32} {h : qH} {h' : qH} (hyp : fX10_usual v0 v1 h = some h') : q_M l 1 yX10_usual cX10_usual 2 none [.ref v0, .int v1] h none h' := by
  unfold fX10_usual at hyp
  refine q_bind hyp (fun _ _ hyp => ?_)
  refine q_M.of (by decide) (Nat.le_of_ble_eq_true rfl) ?_
  refine q_to (ls' := [(0, .ref v0), (1, .int v1)]) (st' := []) rfl rfl ?_
  refine q_aload_n 0 rfl dX10_usual_0 ?_
  refine q_bind hyp (fun x1 e2 hyp => ?_)
  refine q_getR kF_X10_13 dX10_usual_1 e2 ?_
  refine q_iconst (x := 4) rfl dX10_usual_4 ?_
  refine q_iload_n 1 rfl dX10_usual_5 ?_
  refine q_imul dX10_usual_6 ?_
  refine q_iconst (x := 0) rfl dX10_usual_7 ?_
  refine q_iadd dX10_usual_8 ?_
  refine q_iconst (x := 0) rfl dX10_usual_9 ?_
  refine q_bind hyp (fun h3 e4 hyp => ?_)
  refine q_iast dX10_usual_10 e4 ?_
  refine q_aload_n 0 rfl dX10_usual_11 ?_
  refine q_bind hyp (fun x5 e6 hyp => ?_)
  refine q_getR kF_X10_13 dX10_usual_12 e6 ?_
  refine q_iconst (x := 4) rfl dX10_usual_15 ?_
  refine q_iload_n 1 rfl dX10_usual_16 ?_
  refine q_imul dX10_usual_17 ?_
  refine q_iconst (x := 1) rfl dX10_usual_18 ?_
  refine q_iadd dX10_usual_19 ?_
  refine q_iconst (x := 3) rfl dX10_usual_20 ?_
  refine q_bind hyp (fun h7 e8 hyp => ?_)
  refine q_iast dX10_usual_21 e8 ?_
  refine q_aload_n 0 rfl dX10_usual_22 ?_
  refine q_bind hyp (fun x9 e10 hyp => ?_)
  refine q_getR kF_X10_13 dX10_usual_23 e10 ?_
  refine q_iconst (x := 4) rfl dX10_usual_26 ?_
  refine q_iload_n 1 rfl dX10_usual_27 ?_
  refine q_imul dX10_usual_28 ?_
  refine q_iconst (x := 2) rfl dX10_usual_29 ?_
  refine q_iadd dX10_usual_30 ?_
  refine q_iconst (x := 4) rfl dX10_usual_31 ?_
  refine q_bind hyp (fun h11 e12 hyp => ?_)
  refine q_iast dX10_usual_32 e12 ?_
  refine q_aload_n 0 rfl dX10_usual_33 ?_
  refine q_bind hyp (fun x13 e14 hyp => ?_)
  refine q_getR kF_X10_13 dX10_usual_34 e14 ?_
  refine q_iconst (x := 4) rfl dX10_usual_37 ?_
  refine q_iload_n 1 rfl dX10_usual_38 ?_
  refine q_imul dX10_usual_39 ?_
  refine q_iconst (x := 3) rfl dX10_usual_40 ?_
  refine q_iadd dX10_usual_41 ?_
  refine q_bipush (x := 50) (by decide) dX10_usual_42 ?_
  refine q_bind hyp (fun h15 e16 hyp => ?_)
  refine q_iast dX10_usual_44 e16 ?_
  exact q_vretH rfl dX10_usual_45 hyp
theorem dX10_init_0 : decode cX10_init 0 = .ok (.aload_n 0, 1) := by decide +kernel
theorem dX10_init_1 : decode cX10_init 1 = .ok (.invokespecial 1, 3) := by decide +kernel
theorem dX10_init_4 : decode cX10_init 4 = .ok (.aload_n 0, 1) := by decide +kernel
theorem dX10_init_5 : decode cX10_init 5 = .ok (.sipush 1000, 3) := by decide +kernel
theorem dX10_init_8 : decode cX10_init 8 = .ok (.newarray .int, 2) := by decide +kernel
theorem dX10_init_10 : decode cX10_init 10 = .ok (.putfield 7, 3) := by decide +kernel
theorem dX10_init_13 : decode cX10_init 13 = .ok (.aload_n 0, 1) := by decide +kernel
theorem dX10_init_14 : decode cX10_init 14 = .ok (.bipush 8, 2) := by decide +kernel
theorem dX10_init_16 : decode cX10_init 16 = .ok (.newarray .int, 2) := by decide +kernel
theorem dX10_init_18 : decode cX10_init 18 = .ok (.putfield 13, 3) := by decide +kernel
theorem dX10_init_21 : decode cX10_init 21 = .ok (.aload_n 0, 1) := by decide +kernel
theorem dX10_init_22 : decode cX10_init 22 = .ok (.bipush 14, 2) := by decide +kernel
theorem dX10_init_24 : decode cX10_init 24 = .ok (.newarray .long, 2) := by decide +kernel
theorem dX10_init_26 : decode cX10_init 26 = .ok (.putfield 16, 3) := by decide +kernel
theorem dX10_init_29 : decode cX10_init 29 = .ok (.aload_n 0, 1) := by decide +kernel
theorem dX10_init_30 : decode cX10_init 30 = .ok (.bipush 14, 2) := by decide +kernel
theorem dX10_init_32 : decode cX10_init 32 = .ok (.newarray .int, 2) := by decide +kernel
theorem dX10_init_34 : decode cX10_init 34 = .ok (.putfield 20, 3) := by decide +kernel
theorem dX10_init_37 : decode cX10_init 37 = .ok (.aload_n 0, 1) := by decide +kernel
theorem dX10_init_38 : decode cX10_init 38 = .ok (.bipush 14, 2) := by decide +kernel
theorem dX10_init_40 : decode cX10_init 40 = .ok (.newarray .int, 2) := by decide +kernel
theorem dX10_init_42 : decode cX10_init 42 = .ok (.putfield 23, 3) := by decide +kernel
theorem dX10_init_45 : decode cX10_init 45 = .ok (.aload_n 0, 1) := by decide +kernel
theorem dX10_init_46 : decode cX10_init 46 = .ok (.bipush 14, 2) := by decide +kernel
theorem dX10_init_48 : decode cX10_init 48 = .ok (.newarray .int, 2) := by decide +kernel
theorem dX10_init_50 : decode cX10_init 50 = .ok (.putfield 26, 3) := by decide +kernel
theorem dX10_init_53 : decode cX10_init 53 = .ok (.aload_n 0, 1) := by decide +kernel
theorem dX10_init_54 : decode cX10_init 54 = .ok (.bipush 14, 2) := by decide +kernel
theorem dX10_init_56 : decode cX10_init 56 = .ok (.newarray .int, 2) := by decide +kernel
theorem dX10_init_58 : decode cX10_init 58 = .ok (.putfield 29, 3) := by decide +kernel
theorem dX10_init_61 : decode cX10_init 61 = .ok (.aload_n 0, 1) := by decide +kernel
theorem dX10_init_62 : decode cX10_init 62 = .ok (.iconst 2, 1) := by decide +kernel
theorem dX10_init_63 : decode cX10_init 63 = .ok (.newarray .int, 2) := by decide +kernel
theorem dX10_init_65 : decode cX10_init 65 = .ok (.putfield 32, 3) := by decide +kernel
theorem dX10_init_68 : decode cX10_init 68 = .ok (.aload_n 0, 1) := by decide +kernel
theorem dX10_init_69 : decode cX10_init 69 = .ok (.iconst 2, 1) := by decide +kernel
theorem dX10_init_70 : decode cX10_init 70 = .ok (.newarray .int, 2) := by decide +kernel
theorem dX10_init_72 : decode cX10_init 72 = .ok (.putfield 35, 3) := by decide +kernel
theorem dX10_init_75 : decode cX10_init 75 = .ok (.aload_n 0, 1) := by decide +kernel
theorem dX10_init_76 : decode cX10_init 76 = .ok (.sipush 2000, 3) := by decide +kernel
theorem dX10_init_79 : decode cX10_init 79 = .ok (.newarray .int, 2) := by decide +kernel
theorem dX10_init_81 : decode cX10_init 81 = .ok (.putfield 38, 3) := by decide +kernel
theorem dX10_init_84 : decode cX10_init 84 = .ok (.aload_n 0, 1) := by decide +kernel
theorem dX10_init_85 : decode cX10_init 85 = .ok (.bipush 7, 2) := by decide +kernel
theorem dX10_init_87 : decode cX10_init 87 = .ok (.newarray .int, 2) := by decide +kernel
theorem dX10_init_89 : decode cX10_init 89 = .ok (.putfield 41, 3) := by decide +kernel
theorem dX10_init_92 : decode cX10_init 92 = .ok (.aload_n 0, 1) := by decide +kernel
theorem dX10_init_93 : decode cX10_init 93 = .ok (.bipush 7, 2) := by decide +kernel
theorem dX10_init_95 : decode cX10_init 95 = .ok (.newarray .boolean, 2) := by decide +kernel
theorem dX10_init_97 : decode cX10_init 97 = .ok (.putfield 44, 3) := by decide +kernel
theorem dX10_init_100 : decode cX10_init 100 = .ok (.aload_n 0, 1) := by decide +kernel
theorem dX10_init_101 : decode cX10_init 101 = .ok (.bipush 7, 2) := by decide +kernel
theorem dX10_init_103 : decode cX10_init 103 = .ok (.newarray .int, 2) := by decide +kernel
theorem dX10_init_105 : decode cX10_init 105 = .ok (.putfield 48, 3) := by decide +kernel
theorem dX10_init_108 : decode cX10_init 108 = .ok (.aload_n 0, 1) := by decide +kernel
theorem dX10_init_109 : decode cX10_init 109 = .ok (.bipush 7, 2) := by decide +kernel
theorem dX10_init_111 : decode cX10_init 111 = .ok (.newarray .int, 2) := by decide +kernel
theorem dX10_init_113 : decode cX10_init 113 = .ok (.putfield 51, 3) := by decide +kernel
theorem dX10_init_116 : decode cX10_init 116 = .ok (.aload_n 0, 1) := by decide +kernel
theorem dX10_init_117 : decode cX10_init 117 = .ok (.bipush 7, 2) := by decide +kernel
theorem dX10_init_119 : decode cX10_init 119 = .ok (.newarray .int, 2) := by decide +kernel
theorem dX10_init_121 : decode cX10_init 121 = .ok (.putfield 54, 3) := by decide +kernel
theorem dX10_init_124 : decode cX10_init 124 = .ok (.aload_n 0, 1) := by decide +kernel
theorem dX10_init_125 : decode cX10_init 125 = .ok (.bipush 7, 2) := by decide +kernel
theorem dX10_init_127 : decode cX10_init 127 = .ok (.newarray .int, 2) := by decide +kernel
theorem dX10_init_129 : decode cX10_init 129 = .ok (.putfield 57, 3) := by decide +kernel
theorem dX10_init_132 : decode cX10_init 132 = .ok (.aload_n 0, 1) := by decide +kernel
theorem dX10_init_133 : decode cX10_init 133 = .ok (.bipush 7, 2) := by decide +kernel
theorem dX10_init_135 : decode cX10_init 135 = .ok (.newarray .int, 2) := by decide +kernel
theorem dX10_init_137 : decode cX10_init 137 = .ok (.putfield 60, 3) := by decide +kernel
theorem dX10_init_140 : decode cX10_init 140 = .ok (.aload_n 0, 1) := by decide +kernel
theorem dX10_init_141 : decode cX10_init 141 = .ok (.bipush 7, 2) := by decide +kernel
theorem dX10_init_143 : decode cX10_init 143 = .ok (.newarray .int, 2) := by decide +kernel
theorem dX10_init_145 : decode cX10_init 145 = .ok (.putfield 63, 3) := by decide +kernel
theorem dX10_init_148 : decode cX10_init 148 = .ok (.aload_n 0, 1) := by decide +kernel
theorem dX10_init_149 : decode cX10_init 149 = .ok (.bipush 7, 2) := by decide +kernel
theorem dX10_init_151 : decode cX10_init 151 = .ok (.newarray .int, 2) := by decide +kernel
theorem dX10_init_153 : decode cX10_init 153 = .ok (.putfield 66, 3) := by decide +kernel
theorem dX10_init_156 : decode cX10_init 156 = .ok (.aload_n 0, 1) := by decide +kernel
theorem dX10_init_157 : decode cX10_init 157 = .ok (.bipush 7, 2) := by decide +kernel
theorem dX10_init_159 : decode cX10_init 159 = .ok (.newarray .int, 2) := by decide +kernel
theorem dX10_init_161 : decode cX10_init 161 = .ok (.putfield 69, 3) := by decide +kernel
theorem dX10_init_164 : decode cX10_init 164 = .ok (.aload_n 0, 1) := by decide +kernel
theorem dX10_init_165 : decode cX10_init 165 = .ok (.bipush 7, 2) := by decide +kernel
theorem dX10_init_167 : decode cX10_init 167 = .ok (.newarray .int, 2) := by decide +kernel
theorem dX10_init_169 : decode cX10_init 169 = .ok (.putfield 72, 3) := by decide +kernel
theorem dX10_init_172 : decode cX10_init 172 = .ok (.aload_n 0, 1) := by decide +kernel
theorem dX10_init_173 : decode cX10_init 173 = .ok (.bipush 20, 2) := by decide +kernel
theorem dX10_init_175 : decode cX10_init 175 = .ok (.newarray .int, 2) := by decide +kernel
theorem dX10_init_177 : decode cX10_init 177 = .ok (.putfield 75, 3) := by decide +kernel
theorem dX10_init_180 : decode cX10_init 180 = .ok (.aload_n 0, 1) := by decide +kernel
theorem dX10_init_181 : decode cX10_init 181 = .ok (.bipush 6, 2) := by decide +kernel
theorem dX10_init_183 : decode cX10_init 183 = .ok (.newarray .int, 2) := by decide +kernel
theorem dX10_init_185 : decode cX10_init 185 = .ok (.putfield 78, 3) := by decide +kernel
theorem dX10_init_188 : decode cX10_init 188 = .ok (.aload_n 0, 1) := by decide +kernel
theorem dX10_init_189 : decode cX10_init 189 = .ok (.sipush 240, 3) := by decide +kernel
theorem dX10_init_192 : decode cX10_init 192 = .ok (.newarray .int, 2) := by decide +kernel
theorem dX10_init_194 : decode cX10_init 194 = .ok (.putfield 81, 3) := by decide +kernel
theorem dX10_init_197 : decode cX10_init 197 = .ok (.aload_n 0, 1) := by decide +kernel
theorem dX10_init_198 : decode cX10_init 198 = .ok (.sipush 240, 3) := by decide +kernel
theorem dX10_init_201 : decode cX10_init 201 = .ok (.newarray .int, 2) := by decide +kernel
theorem dX10_init_203 : decode cX10_init 203 = .ok (.putfield 84, 3) := by decide +kernel
theorem dX10_init_206 : decode cX10_init 206 = .ok (.aload_n 0, 1) := by decide +kernel
theorem dX10_init_207 : decode cX10_init 207 = .ok (.iconst 5, 1) := by decide +kernel
theorem dX10_init_208 : decode cX10_init 208 = .ok (.newarray .int, 2) := by decide +kernel
theorem dX10_init_210 : decode cX10_init 210 = .ok (.putfield 87, 3) := by decide +kernel
theorem dX10_init_213 : decode cX10_init 213 = .ok (.aload_n 0, 1) := by decide +kernel
theorem dX10_init_214 : decode cX10_init 214 = .ok (.bipush 40, 2) := by decide +kernel
theorem dX10_init_216 : decode cX10_init 216 = .ok (.newarray .int, 2) := by decide +kernel
theorem dX10_init_218 : decode cX10_init 218 = .ok (.putfield 90, 3) := by decide +kernel
theorem dX10_init_221 : decode cX10_init 221 = .ok (.aload_n 0, 1) := by decide +kernel
theorem dX10_init_222 : decode cX10_init 222 = .ok (.bipush 40, 2) := by decide +kernel
theorem dX10_init_224 : decode cX10_init 224 = .ok (.newarray .int, 2) := by decide +kernel
theorem dX10_init_226 : decode cX10_init 226 = .ok (.putfield 93, 3) := by decide +kernel
theorem dX10_init_229 : decode cX10_init 229 = .ok (.aload_n 0, 1) := by decide +kernel
theorem dX10_init_230 : decode cX10_init 230 = .ok (.bipush 40, 2) := by decide +kernel
theorem dX10_init_232 : decode cX10_init 232 = .ok (.newarray .boolean, 2) := by decide +kernel
theorem dX10_init_234 : decode cX10_init 234 = .ok (.putfield 96, 3) := by decide +kernel
theorem dX10_init_237 : decode cX10_init 237 = .ok (.aload_n 0, 1) := by decide +kernel
theorem dX10_init_238 : decode cX10_init 238 = .ok (.bipush 16, 2) := by decide +kernel
theorem dX10_init_240 : decode cX10_init 240 = .ok (.newarray .int, 2) := by decide +kernel
theorem dX10_init_242 : decode cX10_init 242 = .ok (.putfield 99, 3) := by decide +kernel
theorem dX10_init_245 : decode cX10_init 245 = .ok (.aload_n 0, 1) := by decide +kernel
theorem dX10_init_246 : decode cX10_init 246 = .ok (.bipush 16, 2) := by decide +kernel
theorem dX10_init_248 : decode cX10_init 248 = .ok (.newarray .int, 2) := by decide +kernel
theorem dX10_init_250 : decode cX10_init 250 = .ok (.putfield 102, 3) := by decide +kernel
theorem dX10_init_253 : decode cX10_init 253 = .ok (.aload_n 0, 1) := by decide +kernel
theorem dX10_init_254 : decode cX10_init 254 = .ok (.bipush 16, 2) := by decide +kernel
theorem dX10_init_256 : decode cX10_init 256 = .ok (.newarray .int, 2) := by decide +kernel
theorem dX10_init_258 : decode cX10_init 258 = .ok (.putfield 105, 3) := by decide +kernel
theorem dX10_init_261 : decode cX10_init 261 = .ok (.aload_n 0, 1) := by decide +kernel
theorem dX10_init_262 : decode cX10_init 262 = .ok (.bipush 64, 2) := by decide +kernel
theorem dX10_init_264 : decode cX10_init 264 = .ok (.newarray .int, 2) := by decide +kernel
theorem dX10_init_266 : decode cX10_init 266 = .ok (.putfield 108, 3) := by decide +kernel
theorem dX10_init_269 : decode cX10_init 269 = .ok (.aload_n 0, 1) := by decide +kernel
theorem dX10_init_270 : decode cX10_init 270 = .ok (.sipush 256, 3) := by decide +kernel
theorem dX10_init_273 : decode cX10_init 273 = .ok (.newarray .int, 2) := by decide +kernel
theorem dX10_init_275 : decode cX10_init 275 = .ok (.putfield 111, 3) := by decide +kernel
theorem dX10_init_278 : decode cX10_init 278 = .ok (.aload_n 0, 1) := by decide +kernel
theorem dX10_init_279 : decode cX10_init 279 = .ok (.iconst 4, 1) := by decide +kernel
theorem dX10_init_280 : decode cX10_init 280 = .ok (.newarray .boolean, 2) := by decide +kernel
theorem dX10_init_282 : decode cX10_init 282 = .ok (.putfield 114, 3) := by decide +kernel
theorem dX10_init_285 : decode cX10_init 285 = .ok (.aload_n 0, 1) := by decide +kernel
theorem dX10_init_286 : decode cX10_init 286 = .ok (.bipush 7, 2) := by decide +kernel
theorem dX10_init_288 : decode cX10_init 288 = .ok (.newarray .int, 2) := by decide +kernel
theorem dX10_init_290 : decode cX10_init 290 = .ok (.putfield 117, 3) := by decide +kernel
theorem dX10_init_293 : decode cX10_init 293 = .ok (.aload_n 0, 1) := by decide +kernel
theorem dX10_init_294 : decode cX10_init 294 = .ok (.bipush 7, 2) := by decide +kernel
theorem dX10_init_296 : decode cX10_init 296 = .ok (.newarray .int, 2) := by decide +kernel
theorem dX10_init_298 : decode cX10_init 298 = .ok (.putfield 120, 3) := by decide +kernel
theorem dX10_init_301 : decode cX10_init 301 = .ok (.aload_n 0, 1) := by decide +kernel
theorem dX10_init_302 : decode cX10_init 302 = .ok (.bipush 7, 2) := by decide +kernel
theorem dX10_init_304 : decode cX10_init 304 = .ok (.newarray .int, 2) := by decide +kernel
theorem dX10_init_306 : decode cX10_init 306 = .ok (.putfield 123, 3) := by decide +kernel
theorem dX10_init_309 : decode cX10_init 309 = .ok (.aload_n 0, 1) := by decide +kernel
theorem dX10_init_310 : decode cX10_init 310 = .ok (.bipush 70, 2) := by decide +kernel
theorem dX10_init_312 : decode cX10_init 312 = .ok (.newarray .int, 2) := by decide +kernel
theorem dX10_init_314 : decode cX10_init 314 = .ok (.putfield 126, 3) := by decide +kernel
theorem dX10_init_317 : decode cX10_init 317 = .ok (.aload_n 0, 1) := by decide +kernel
theorem dX10_init_318 : decode cX10_init 318 = .ok (.iconst 0, 1) := by decide +kernel
theorem dX10_init_319 : decode cX10_init 319 = .ok (.invokevirtual 129, 3) := by decide +kernel
theorem dX10_init_322 : decode cX10_init 322 = .ok (.aload_n 0, 1) := by decide +kernel
theorem dX10_init_323 : decode cX10_init 323 = .ok (.invokevirtual 133, 3) := by decide +kernel
theorem dX10_init_326 : decode cX10_init 326 = .ok (.return_, 1) := by decide +kernel
def fX10_init (n : Nat) (v0 : Nat) (h : qH) : Option (qH) :=
  (isO h v0 10).bind fun _ =>
  (some (nwE (.inl (.int, 1000, .inl (fun _ => 0))) 1000 h)).bind fun h1 =>
  (pF h1 v0 10 2 (.ref h.2.1)).bind fun h3 =>
  (some (nwE (.inl (.int, 8, .inl (fun _ => 0))) 8 h3)).bind fun h5 =>
  (pF h5 v0 10 10 (.ref h3.2.1)).bind fun h7 =>
  (some (nwE (.inl (.long, 14, .inr (.inl (fun _ => 0)))) 14 h7)).bind fun h9 =>
  (pF h9 v0 10 11 (.ref h7.2.1)).bind fun h11 =>
  (some (nwE (.inl (.int, 14, .inl (fun _ => 0))) 14 h11)).bind fun h13 =>
  (pF h13 v0 10 12 (.ref h11.2.1)).bind fun h15 =>
  (some (nwE (.inl (.int, 14, .inl (fun _ => 0))) 14 h15)).bind fun h17 =>
  (pF h17 v0 10 13 (.ref h15.2.1)).bind fun h19 =>
  (some (nwE (.inl (.int, 14, .inl (fun _ => 0))) 14 h19)).bind fun h21 =>
  (pF h21 v0 10 14 (.ref h19.2.1)).bind fun h23 =>
  (some (nwE (.inl (.int, 14, .inl (fun _ => 0))) 14 h23)).bind fun h25 =>
  (pF h25 v0 10 15 (.ref h23.2.1)).bind fun h27 =>
  (some (nwE (.inl (.int, 2, .inl (fun _ => 0))) 2 h27)).bind fun h29 =>
  (pF h29 v0 10 16 (.ref h27.2.1)).bind fun h31 =>
  (some (nwE (.inl (.int, 2, .inl (fun _ => 0))) 2 h31)).bind fun h33 =>
  (pF h33 v0 10 17 (.ref h31.2.1)).bind fun h35 =>
  (some (nwE (.inl (.int, 2000, .inl (fun _ => 0))) 2000 h35)).bind fun h37 =>
  (pF h37 v0 10 18 (.ref h35.2.1)).bind fun h39 =>
  (some (nwE (.inl (.int, 7, .inl (fun _ => 0))) 7 h39)).bind fun h41 =>
  (pF h41 v0 10 21 (.ref h39.2.1)).bind fun h43 =>
  (some (nwE (.inl (.boolean, 7, .inl (fun _ => 0))) 7 h43)).bind fun h45 =>
  (pF h45 v0 10 22 (.ref h43.2.1)).bind fun h47 =>
  (some (nwE (.inl (.int, 7, .inl (fun _ => 0))) 7 h47)).bind fun h49 =>
  (pF h49 v0 10 23 (.ref h47.2.1)).bind fun h51 =>
  (some (nwE (.inl (.int, 7, .inl (fun _ => 0))) 7 h51)).bind fun h53 =>
  (pF h53 v0 10 24 (.ref h51.2.1)).bind fun h55 =>
  (some (nwE (.inl (.int, 7, .inl (fun _ => 0))) 7 h55)).bind fun h57 =>
  (pF h57 v0 10 25 (.ref h55.2.1)).bind fun h59 =>
  (some (nwE (.inl (.int, 7, .inl (fun _ => 0))) 7 h59)).bind fun h61 =>
  (pF h61 v0 10 26 (.ref h59.2.1)).bind fun h63 =>
  (some (nwE (.inl (.int, 7, .inl (fun _ => 0))) 7 h63)).bind fun h65 =>
  (pF h65 v0 10 27 (.ref h63.2.1)).bind fun h67 =>
  (some (nwE (.inl (.int, 7, .inl (fun _ => 0))) 7 h67)).bind fun h69 =>
  (pF h69 v0 10 28 (.ref h67.2.1)).bind fun h71 =>
  (some (nwE (.inl (.int, 7, .inl (fun _ => 0))) 7 h71)).bind fun h73 =>
  (pF h73 v0 10 29 (.ref h71.2.1)).bind fun h75 =>
  (some (nwE (.inl (.int, 7, .inl (fun _ => 0))) 7 h75)).bind fun h77 =>
  (pF h77 v0 10 30 (.ref h75.2.1)).bind fun h79 =>
  (some (nwE (.inl (.int, 7, .inl (fun _ => 0))) 7 h79)).bind fun h81 =>
  (pF h81 v0 10 31 (.ref h79.2.1)).bind fun h83 =>
  (some (nwE (.inl (.int, 20, .inl (fun _ => 0))) 20 h83)).bind fun h85 =>
  (pF h85 v0 10 32 (.ref h83.2.1)).bind fun h87 =>
  (some (nwE (.inl (.int, 6, .inl (fun _ => 0))) 6 h87)).bind fun h89 =>
  (pF h89 v0 10 34 (.ref h87.2.1)).bind fun h91 =>
  (some (nwE (.inl (.int, 240, .inl (fun _ => 0))) 240 h91)).bind fun h93 =>
  (pF h93 v0 10 35 (.ref h91.2.1)).bind fun h95 =>
  (some (nwE (.inl (.int, 240, .inl (fun _ => 0))) 240 h95)).bind fun h97 =>
  (pF h97 v0 10 36 (.ref h95.2.1)).bind fun h99 =>
  (some (nwE (.inl (.int, 5, .inl (fun _ => 0))) 5 h99)).bind fun h101 =>
  (pF h101 v0 10 37 (.ref h99.2.1)).bind fun h103 =>
  (some (nwE (.inl (.int, 40, .inl (fun _ => 0))) 40 h103)).bind fun h105 =>
  (pF h105 v0 10 38 (.ref h103.2.1)).bind fun h107 =>
  (some (nwE (.inl (.int, 40, .inl (fun _ => 0))) 40 h107)).bind fun h109 =>
  (pF h109 v0 10 39 (.ref h107.2.1)).bind fun h111 =>
  (some (nwE (.inl (.boolean, 40, .inl (fun _ => 0))) 40 h111)).bind fun h113 =>
  (pF h113 v0 10 40 (.ref h111.2.1)).bind fun h115 =>
  (some (nwE (.inl (.int, 16, .inl (fun _ => 0))) 16 h115)).bind fun h117 =>
  (pF h117 v0 10 41 (.ref h115.2.1)).bind fun h119 =>
  (some (nwE (.inl (.int, 16, .inl (fun _ => 0))) 16 h119)).bind fun h121 =>
  (pF h121 v0 10 42 (.ref h119.2.1)).bind fun h123 =>
  (some (nwE (.inl (.int, 16, .inl (fun _ => 0))) 16 h123)).bind fun h125 =>
  (pF h125 v0 10 43 (.ref h123.2.1)).bind fun h127 =>
  (some (nwE (.inl (.int, 64, .inl (fun _ => 0))) 64 h127)).bind fun h129 =>
  (pF h129 v0 10 44 (.ref h127.2.1)).bind fun h131 =>
  (some (nwE (.inl (.int, 256, .inl (fun _ => 0))) 256 h131)).bind fun h133 =>
  (pF h133 v0 10 45 (.ref h131.2.1)).bind fun h135 =>
  (some (nwE (.inl (.boolean, 4, .inl (fun _ => 0))) 4 h135)).bind fun h137 =>
  (pF h137 v0 10 46 (.ref h135.2.1)).bind fun h139 =>
  (some (nwE (.inl (.int, 7, .inl (fun _ => 0))) 7 h139)).bind fun h141 =>
  (pF h141 v0 10 48 (.ref h139.2.1)).bind fun h143 =>
  (some (nwE (.inl (.int, 7, .inl (fun _ => 0))) 7 h143)).bind fun h145 =>
  (pF h145 v0 10 49 (.ref h143.2.1)).bind fun h147 =>
  (some (nwE (.inl (.int, 7, .inl (fun _ => 0))) 7 h147)).bind fun h149 =>
  (pF h149 v0 10 50 (.ref h147.2.1)).bind fun h151 =>
  (some (nwE (.inl (.int, 70, .inl (fun _ => 0))) 70 h151)).bind fun h153 =>
  (pF h153 v0 10 51 (.ref h151.2.1)).bind fun h155 =>
  (fX10_usual v0 0 h155).bind fun h157 =>
  (fX10_fresh0 n v0 h157).bind fun h158 =>
  some h158
theorem obX10_init {n : Nat} {v0 : Nat} {h : qH} {p : qH} (hyp : fX10_init n v0 h = some p) : ∃ fs, h.1 v0 = some (.inr (10, fs)) := by
  unfold fX10_init at hyp
  exact q_bind hyp (fun _ e _ => isO_some e)
set_option maxHeartbeats 4000000 in
set_option maxRecDepth 100000 in
theorem okX10_init {l : Launch} {n : Nat} {v0 : Nat} {h : qH} {h' : qH} (hyp : fX10_init n v0 h = some h') : q_M l 2 yX10_init cX10_init 1 none [.ref v0] h none h' := by
  unfold fX10_init at hyp
  refine q_bind hyp (fun _ _ hyp => ?_)
  refine q_M.of (by decide) (Nat.le_of_ble_eq_true rfl) ?_
  refine q_to (ls' := [(0, .ref v0)]) (st' := []) rfl rfl ?_
  refine q_aload_n 0 rfl dX10_init_0 ?_
  refine q_objInit kL_X10_1 kI_obj kD_obj (by decide) (Nat.le_of_ble_eq_true rfl) dX10_init_1 ?_
  refine q_aload_n 0 rfl dX10_init_4 ?_
  refine q_sipush (x := 1000) (by decide) dX10_init_5 ?_
  refine q_bind hyp (fun h1 e2 hyp => ?_)
  refine q_newa (ty := .int) (N := 1000) (k := .inl (fun _ => 0)) rfl rfl kA_int (fun _ _ => rfl) (fun _ _ h => h) (by decide) (by decide) dX10_init_8 ?_
  rw [Option.some.inj e2]
  refine q_bind hyp (fun h3 e4 hyp => ?_)
  refine q_putZ kF_X10_7 rfl ⟨_, _, rfl⟩ (fun _ => ⟨rfl, rfl⟩) dX10_init_10 e4 ?_
  refine q_aload_n 0 rfl dX10_init_13 ?_
  refine q_bipush (x := 8) (by decide) dX10_init_14 ?_
  refine q_bind hyp (fun h5 e6 hyp => ?_)
  refine q_newa (ty := .int) (N := 8) (k := .inl (fun _ => 0)) rfl rfl kA_int (fun _ _ => rfl) (fun _ _ h => h) (by decide) (by decide) dX10_init_16 ?_
  rw [Option.some.inj e6]
  refine q_bind hyp (fun h7 e8 hyp => ?_)
  refine q_putZ kF_X10_13 rfl ⟨_, _, rfl⟩ (fun _ => ⟨rfl, rfl⟩) dX10_init_18 e8 ?_
  refine q_aload_n 0 rfl dX10_init_21 ?_
  refine q_bipush (x := 14) (by decide) dX10_init_22 ?_
  refine q_bind hyp (fun h9 e10 hyp => ?_)
  refine q_newa (ty := .long) (N := 14) (k := .inr (.inl (fun _ => 0))) rfl rfl kA_long (fun _ _ => rfl) (fun _ _ h => h) (by decide) (by decide) dX10_init_24 ?_
  rw [Option.some.inj e10]
  refine q_bind hyp (fun h11 e12 hyp => ?_)
  refine q_putZ kF_X10_16 rfl ⟨_, _, rfl⟩ (fun _ => ⟨rfl, rfl⟩) dX10_init_26 e12 ?_
  refine q_aload_n 0 rfl dX10_init_29 ?_
  refine q_bipush (x := 14) (by decide) dX10_init_30 ?_
  refine q_bind hyp (fun h13 e14 hyp => ?_)
  refine q_newa (ty := .int) (N := 14) (k := .inl (fun _ => 0)) rfl rfl kA_int (fun _ _ => rfl) (fun _ _ h => h) (by decide) (by decide) dX10_init_32 ?_
  rw [Option.some.inj e14]
  refine q_bind hyp (fun h15 e16 hyp => ?_)
  refine q_putZ kF_X10_20 rfl ⟨_, _, rfl⟩ (fun _ => ⟨rfl, rfl⟩) dX10_init_34 e16 ?_
  refine q_aload_n 0 rfl dX10_init_37 ?_
  refine q_bipush (x := 14) (by decide) dX10_init_38 ?_
  refine q_bind hyp (fun h17 e18 hyp => ?_)
  refine q_newa (ty := .int) (N := 14) (k := .inl (fun _ => 0)) rfl rfl kA_int (fun _ _ => rfl) (fun _ _ h => h) (by decide) (by decide) dX10_init_40 ?_
  rw [Option.some.inj e18]
  refine q_bind hyp (fun h19 e20 hyp => ?_)
  refine q_putZ kF_X10_23 rfl ⟨_, _, rfl⟩ (fun _ => ⟨rfl, rfl⟩) dX10_init_42 e20 ?_
  refine q_aload_n 0 rfl dX10_init_45 ?_
  refine q_bipush (x := 14) (by decide) dX10_init_46 ?_
  refine q_bind hyp (fun h21 e22 hyp => ?_)
  refine q_newa (ty := .int) (N := 14) (k := .inl (fun _ => 0)) rfl rfl kA_int (fun _ _ => rfl) (fun _ _ h => h) (by decide) (by decide) dX10_init_48 ?_
  rw [Option.some.inj e22]
  refine q_bind hyp (fun h23 e24 hyp => ?_)
  refine q_putZ kF_X10_26 rfl ⟨_, _, rfl⟩ (fun _ => ⟨rfl, rfl⟩) dX10_init_50 e24 ?_
  refine q_aload_n 0 rfl dX10_init_53 ?_
  refine q_bipush (x := 14) (by decide) dX10_init_54 ?_
  refine q_bind hyp (fun h25 e26 hyp => ?_)
  refine q_newa (ty := .int) (N := 14) (k := .inl (fun _ => 0)) rfl rfl kA_int (fun _ _ => rfl) (fun _ _ h => h) (by decide) (by decide) dX10_init_56 ?_
  rw [Option.some.inj e26]
  refine q_bind hyp (fun h27 e28 hyp => ?_)
  refine q_putZ kF_X10_29 rfl ⟨_, _, rfl⟩ (fun _ => ⟨rfl, rfl⟩) dX10_init_58 e28 ?_
  refine q_aload_n 0 rfl dX10_init_61 ?_
  refine q_iconst (x := 2) rfl dX10_init_62 ?_
  refine q_bind hyp (fun h29 e30 hyp => ?_)
  refine q_newa (ty := .int) (N := 2) (k := .inl (fun _ => 0)) rfl rfl kA_int (fun _ _ => rfl) (fun _ _ h => h) (by decide) (by decide) dX10_init_63 ?_
  rw [Option.some.inj e30]
  refine q_bind hyp (fun h31 e32 hyp => ?_)
  refine q_putZ kF_X10_32 rfl ⟨_, _, rfl⟩ (fun _ => ⟨rfl, rfl⟩) dX10_init_65 e32 ?_
  refine q_aload_n 0 rfl dX10_init_68 ?_
  refine q_iconst (x := 2) rfl dX10_init_69 ?_
  refine q_bind hyp (fun h33 e34 hyp => ?_)
  refine q_newa (ty := .int) (N := 2) (k := .inl (fun _ => 0)) rfl rfl kA_int (fun _ _ => rfl) (fun _ _ h => h) (by decide) (by decide) dX10_init_70 ?_
  rw [Option.some.inj e34]
  refine q_bind hyp (fun h35 e36 hyp => ?_)
  refine q_putZ kF_X10_35 rfl ⟨_, _, rfl⟩ (fun _ => ⟨rfl, rfl⟩) dX10_init_72 e36 ?_
  refine q_aload_n 0 rfl dX10_init_75 ?_
  refine q_sipush (x := 2000) (by decide) dX10_init_76 ?_
  refine q_bind hyp (fun h37 e38 hyp => ?_)
  refine q_newa (ty := .int) (N := 2000) (k := .inl (fun _ => 0)) rfl rfl kA_int (fun _ _ => rfl) (fun _ _ h => h) (by decide) (by decide) dX10_init_79 ?_
  rw [Option.some.inj e38]
  refine q_bind hyp (fun h39 e40 hyp => ?_)
  refine q_putZ kF_X10_38 rfl ⟨_, _, rfl⟩ (fun _ => ⟨rfl, rfl⟩) dX10_init_81 e40 ?_
  refine q_aload_n 0 rfl dX10_init_84 ?_
  refine q_bipush (x := 7) (by decide) dX10_init_85 ?_
  refine q_bind hyp (fun h41 e42 hyp => ?_)
  refine q_newa (ty := .int) (N := 7) (k := .inl (fun _ => 0)) rfl rfl kA_int (fun _ _ => rfl) (fun _ _ h => h) (by decide) (by decide) dX10_init_87 ?_
  rw [Option.some.inj e42]
  refine q_bind hyp (fun h43 e44 hyp => ?_)
  refine q_putZ kF_X10_41 rfl ⟨_, _, rfl⟩ (fun _ => ⟨rfl, rfl⟩) dX10_init_89 e44 ?_
  refine q_aload_n 0 rfl dX10_init_92 ?_
  refine q_bipush (x := 7) (by decide) dX10_init_93 ?_
  refine q_bind hyp (fun h45 e46 hyp => ?_)
  refine q_newa (ty := .boolean) (N := 7) (k := .inl (fun _ => 0)) rfl rfl kA_boolean (fun _ _ => rfl) (fun _ _ h => h) (by decide) (by decide) dX10_init_95 ?_
  rw [Option.some.inj e46]
  refine q_bind hyp (fun h47 e48 hyp => ?_)
  refine q_putZ kF_X10_44 rfl ⟨_, _, rfl⟩ (fun _ => ⟨rfl, rfl⟩) dX10_init_97 e48 ?_
  refine q_aload_n 0 rfl dX10_init_100 ?_
  refine q_bipush (x := 7) (by decide) dX10_init_101 ?_
  refine q_bind hyp (fun h49 e50 hyp => ?_)
  refine q_newa (ty := .int) (N := 7) (k := .inl (fun _ => 0)) rfl rfl kA_int (fun _ _ => rfl) (fun _ _ h => h) (by decide) (by decide) dX10_init_103 ?_
  rw [Option.some.inj e50]
  refine q_bind hyp (fun h51 e52 hyp => ?_)
  refine q_putZ kF_X10_48 rfl ⟨_, _, rfl⟩ (fun _ => ⟨rfl, rfl⟩) dX10_init_105 e52 ?_
  refine q_aload_n 0 rfl dX10_init_108 ?_
  refine q_bipush (x := 7) (by decide) dX10_init_109 ?_
  refine q_bind hyp (fun h53 e54 hyp => ?_)
  refine q_newa (ty := .int) (N := 7) (k := .inl (fun _ => 0)) rfl rfl kA_int (fun _ _ => rfl) (fun _ _ h => h) (by decide) (by decide) dX10_init_111 ?_
  rw [Option.some.inj e54]
  refine q_bind hyp (fun h55 e56 hyp => ?_)
  refine q_putZ kF_X10_51 rfl ⟨_, _, rfl⟩ (fun _ => ⟨rfl, rfl⟩) dX10_init_113 e56 ?_
  refine q_aload_n 0 rfl dX10_init_116 ?_
  refine q_bipush (x := 7) (by decide) dX10_init_117 ?_
  refine q_bind hyp (fun h57 e58 hyp => ?_)
  refine q_newa (ty := .int) (N := 7) (k := .inl (fun _ => 0)) rfl rfl kA_int (fun _ _ => rfl) (fun _ _ h => h) (by decide) (by decide) dX10_init_119 ?_
  rw [Option.some.inj e58]
  refine q_bind hyp (fun h59 e60 hyp => ?_)
  refine q_putZ kF_X10_54 rfl ⟨_, _, rfl⟩ (fun _ => ⟨rfl, rfl⟩) dX10_init_121 e60 ?_
  refine q_aload_n 0 rfl dX10_init_124 ?_
  refine q_bipush (x := 7) (by decide) dX10_init_125 ?_
  refine q_bind hyp (fun h61 e62 hyp => ?_)
  refine q_newa (ty := .int) (N := 7) (k := .inl (fun _ => 0)) rfl rfl kA_int (fun _ _ => rfl) (fun _ _ h => h) (by decide) (by decide) dX10_init_127 ?_
  rw [Option.some.inj e62]
  refine q_bind hyp (fun h63 e64 hyp => ?_)
  refine q_putZ kF_X10_57 rfl ⟨_, _, rfl⟩ (fun _ => ⟨rfl, rfl⟩) dX10_init_129 e64 ?_
  refine q_aload_n 0 rfl dX10_init_132 ?_
  refine q_bipush (x := 7) (by decide) dX10_init_133 ?_
  refine q_bind hyp (fun h65 e66 hyp => ?_)
  refine q_newa (ty := .int) (N := 7) (k := .inl (fun _ => 0)) rfl rfl kA_int (fun _ _ => rfl) (fun _ _ h => h) (by decide) (by decide) dX10_init_135 ?_
  rw [Option.some.inj e66]
  refine q_bind hyp (fun h67 e68 hyp => ?_)
  refine q_putZ kF_X10_60 rfl ⟨_, _, rfl⟩ (fun _ => ⟨rfl, rfl⟩) dX10_init_137 e68 ?_
  refine q_aload_n 0 rfl dX10_init_140 ?_
  refine q_bipush (x := 7) (by decide) dX10_init_141 ?_
  refine q_bind hyp (fun h69 e70 hyp => ?_)
  refine q_newa (ty := .int) (N := 7) (k := .inl (fun _ => 0)) rfl rfl kA_int (fun _ _ => rfl) (fun _ _ h => h) (by decide) (by decide) dX10_init_143 ?_
  rw [Option.some.inj e70]
  refine q_bind hyp (fun h71 e72 hyp => ?_)
  refine q_putZ kF_X10_63 rfl ⟨_, _, rfl⟩ (fun _ => ⟨rfl, rfl⟩) dX10_init_145 e72 ?_
  refine q_aload_n 0 rfl dX10_init_148 ?_
  refine q_bipush (x := 7) (by decide) dX10_init_149 ?_
  refine q_bind hyp (fun h73 e74 hyp => ?_)
  refine q_newa (ty := .int) (N := 7) (k := .inl (fun _ => 0)) rfl rfl kA_int (fun _ _ => rfl) (fun _ _ h => h) (by decide) (by decide) dX10_init_151 ?_
  rw [Option.some.inj e74]
  refine q_bind hyp (fun h75 e76 hyp => ?_)
  refine q_putZ kF_X10_66 rfl ⟨_, _, rfl⟩ (fun _ => ⟨rfl, rfl⟩) dX10_init_153 e76 ?_
  refine q_aload_n 0 rfl dX10_init_156 ?_
  refine q_bipush (x := 7) (by decide) dX10_init_157 ?_
  refine q_bind hyp (fun h77 e78 hyp => ?_)
  refine q_newa (ty := .int) (N := 7) (k := .inl (fun _ => 0)) rfl rfl kA_int (fun _ _ => rfl) (fun _ _ h => h) (by decide) (by decide) dX10_init_159 ?_
  rw [Option.some.inj e78]
  refine q_bind hyp (fun h79 e80 hyp => ?_)
  refine q_putZ kF_X10_69 rfl ⟨_, _, rfl⟩ (fun _ => ⟨rfl, rfl⟩) dX10_init_161 e80 ?_
  refine q_aload_n 0 rfl dX10_init_164 ?_
  refine q_bipush (x := 7) (by decide) dX10_init_165 ?_
  refine q_bind hyp (fun h81 e82 hyp => ?_)
  refine q_newa (ty := .int) (N := 7) (k := .inl (fun _ => 0)) rfl rfl kA_int (fun _ _ => rfl) (fun _ _ h => h) (by decide) (by decide) dX10_init_167 ?_
  rw [Option.some.inj e82]
  refine q_bind hyp (fun h83 e84 hyp => ?_)
  refine q_putZ kF_X10_72 rfl ⟨_, _, rfl⟩ (fun _ => ⟨rfl, rfl⟩) dX10_init_169 e84 ?_
  refine q_aload_n 0 rfl dX10_init_172 ?_
  refine q_bipush (x := 20) (by decide) dX10_init_173 ?_
  refine q_bind hyp (fun h85 e86 hyp => ?_)
  refine q_newa (ty := .int) (N := 20) (k := .inl (fun _ => 0)) rfl rfl kA_int (fun _ _ => rfl) (fun _ _ h => h) (by decide) (by decide) dX10_init_175 ?_
  rw [Option.some.inj e86]
  refine q_bind hyp (fun h87 e88 hyp => ?_)
  refine q_putZ kF_X10_75 rfl ⟨_, _, rfl⟩ (fun _ => ⟨rfl, rfl⟩) dX10_init_177 e88 ?_
  refine q_aload_n 0 rfl dX10_init_180 ?_
  refine q_bipush (x := 6) (by decide) dX10_init_181 ?_
  refine q_bind hyp (fun h89 e90 hyp => ?_)
  refine q_newa (ty := .int) (N := 6) (k := .inl (fun _ => 0)) rfl rfl kA_int (fun _ _ => rfl) (fun _ _ h => h) (by decide) (by decide) dX10_init_183 ?_
  rw [Option.some.inj e90]
  refine q_bind hyp (fun h91 e92 hyp => ?_)
  refine q_putZ kF_X10_78 rfl ⟨_, _, rfl⟩ (fun _ => ⟨rfl, rfl⟩) dX10_init_185 e92 ?_
  refine q_aload_n 0 rfl dX10_init_188 ?_
  refine q_sipush (x := 240) (by decide) dX10_init_189 ?_
  refine q_bind hyp (fun h93 e94 hyp => ?_)
  refine q_newa (ty := .int) (N := 240) (k := .inl (fun _ => 0)) rfl rfl kA_int (fun _ _ => rfl) (fun _ _ h => h) (by decide) (by decide) dX10_init_192 ?_
  rw [Option.some.inj e94]
  refine q_bind hyp (fun h95 e96 hyp => ?_)
  refine q_putZ kF_X10_81 rfl ⟨_, _, rfl⟩ (fun _ => ⟨rfl, rfl⟩) dX10_init_194 e96 ?_
  refine q_aload_n 0 rfl dX10_init_197 ?_
  refine q_sipush (x := 240) (by decide) dX10_init_198 ?_
  refine q_bind hyp (fun h97 e98 hyp => ?_)
  refine q_newa (ty := .int) (N := 240) (k := .inl (fun _ => 0)) rfl rfl kA_int (fun _ _ => rfl) (fun _ _ h => h) (by decide) (by decide) dX10_init_201 ?_
  rw [Option.some.inj e98]
  refine q_bind hyp (fun h99 e100 hyp => ?_)
  refine q_putZ kF_X10_84 rfl ⟨_, _, rfl⟩ (fun _ => ⟨rfl, rfl⟩) dX10_init_203 e100 ?_
  refine q_aload_n 0 rfl dX10_init_206 ?_
  refine q_iconst (x := 5) rfl dX10_init_207 ?_
  refine q_bind hyp (fun h101 e102 hyp => ?_)
  refine q_newa (ty := .int) (N := 5) (k := .inl (fun _ => 0)) rfl rfl kA_int (fun _ _ => rfl) (fun _ _ h => h) (by decide) (by decide) dX10_init_208 ?_
  rw [Option.some.inj e102]
  refine q_bind hyp (fun h103 e104 hyp => ?_)
  refine q_putZ kF_X10_87 rfl ⟨_, _, rfl⟩ (fun _ => ⟨rfl, rfl⟩) dX10_init_210 e104 ?_
  refine q_aload_n 0 rfl dX10_init_213 ?_
  refine q_bipush (x := 40) (by decide) dX10_init_214 ?_
  refine q_bind hyp (fun h105 e106 hyp => ?_)
  refine q_newa (ty := .int) (N := 40) (k := .inl (fun _ => 0)) rfl rfl kA_int (fun _ _ => rfl) (fun _ _ h => h) (by decide) (by decide) dX10_init_216 ?_
  rw [Option.some.inj e106]
  refine q_bind hyp (fun h107 e108 hyp => ?_)
  refine q_putZ kF_X10_90 rfl ⟨_, _, rfl⟩ (fun _ => ⟨rfl, rfl⟩) dX10_init_218 e108 ?_
  refine q_aload_n 0 rfl dX10_init_221 ?_
  refine q_bipush (x := 40) (by decide) dX10_init_222 ?_
  refine q_bind hyp (fun h109 e110 hyp => ?_)
  refine q_newa (ty := .int) (N := 40) (k := .inl (fun _ => 0)) rfl rfl kA_int (fun _ _ => rfl) (fun _ _ h => h) (by decide) (by decide) dX10_init_224 ?_
  rw [Option.some.inj e110]
  refine q_bind hyp (fun h111 e112 hyp => ?_)
  refine q_putZ kF_X10_93 rfl ⟨_, _, rfl⟩ (fun _ => ⟨rfl, rfl⟩) dX10_init_226 e112 ?_
  refine q_aload_n 0 rfl dX10_init_229 ?_
  refine q_bipush (x := 40) (by decide) dX10_init_230 ?_
  refine q_bind hyp (fun h113 e114 hyp => ?_)
  refine q_newa (ty := .boolean) (N := 40) (k := .inl (fun _ => 0)) rfl rfl kA_boolean (fun _ _ => rfl) (fun _ _ h => h) (by decide) (by decide) dX10_init_232 ?_
  rw [Option.some.inj e114]
  refine q_bind hyp (fun h115 e116 hyp => ?_)
  refine q_putZ kF_X10_96 rfl ⟨_, _, rfl⟩ (fun _ => ⟨rfl, rfl⟩) dX10_init_234 e116 ?_
  refine q_aload_n 0 rfl dX10_init_237 ?_
  refine q_bipush (x := 16) (by decide) dX10_init_238 ?_
  refine q_bind hyp (fun h117 e118 hyp => ?_)
  refine q_newa (ty := .int) (N := 16) (k := .inl (fun _ => 0)) rfl rfl kA_int (fun _ _ => rfl) (fun _ _ h => h) (by decide) (by decide) dX10_init_240 ?_
  rw [Option.some.inj e118]
  refine q_bind hyp (fun h119 e120 hyp => ?_)
  refine q_putZ kF_X10_99 rfl ⟨_, _, rfl⟩ (fun _ => ⟨rfl, rfl⟩) dX10_init_242 e120 ?_
  refine q_aload_n 0 rfl dX10_init_245 ?_
  refine q_bipush (x := 16) (by decide) dX10_init_246 ?_
  refine q_bind hyp (fun h121 e122 hyp => ?_)
  refine q_newa (ty := .int) (N := 16) (k := .inl (fun _ => 0)) rfl rfl kA_int (fun _ _ => rfl) (fun _ _ h => h) (by decide) (by decide) dX10_init_248 ?_
  rw [Option.some.inj e122]
  refine q_bind hyp (fun h123 e124 hyp => ?_)
  refine q_putZ kF_X10_102 rfl ⟨_, _, rfl⟩ (fun _ => ⟨rfl, rfl⟩) dX10_init_250 e124 ?_
  refine q_aload_n 0 rfl dX10_init_253 ?_
  refine q_bipush (x := 16) (by decide) dX10_init_254 ?_
  refine q_bind hyp (fun h125 e126 hyp => ?_)
  refine q_newa (ty := .int) (N := 16) (k := .inl (fun _ => 0)) rfl rfl kA_int (fun _ _ => rfl) (fun _ _ h => h) (by decide) (by decide) dX10_init_256 ?_
  rw [Option.some.inj e126]
  refine q_bind hyp (fun h127 e128 hyp => ?_)
  refine q_putZ kF_X10_105 rfl ⟨_, _, rfl⟩ (fun _ => ⟨rfl, rfl⟩) dX10_init_258 e128 ?_
  refine q_aload_n 0 rfl dX10_init_261 ?_
  refine q_bipush (x := 64) (by decide) dX10_init_262 ?_
  refine q_bind hyp (fun h129 e130 hyp => ?_)
  refine q_newa (ty := .int) (N := 64) (k := .inl (fun _ => 0)) rfl rfl kA_int (fun _ _ => rfl) (fun _ _ h => h) (by decide) (by decide) dX10_init_264 ?_
  rw [Option.some.inj e130]
  refine q_bind hyp (fun h131 e132 hyp => ?_)
  refine q_putZ kF_X10_108 rfl ⟨_, _, rfl⟩ (fun _ => ⟨rfl, rfl⟩) dX10_init_266 e132 ?_
  refine q_aload_n 0 rfl dX10_init_269 ?_
  refine q_sipush (x := 256) (by decide) dX10_init_270 ?_
  refine q_bind hyp (fun h133 e134 hyp => ?_)
  refine q_newa (ty := .int) (N := 256) (k := .inl (fun _ => 0)) rfl rfl kA_int (fun _ _ => rfl) (fun _ _ h => h) (by decide) (by decide) dX10_init_273 ?_
  rw [Option.some.inj e134]
  refine q_bind hyp (fun h135 e136 hyp => ?_)
  refine q_putZ kF_X10_111 rfl ⟨_, _, rfl⟩ (fun _ => ⟨rfl, rfl⟩) dX10_init_275 e136 ?_
  refine q_aload_n 0 rfl dX10_init_278 ?_
  refine q_iconst (x := 4) rfl dX10_init_279 ?_
  refine q_bind hyp (fun h137 e138 hyp => ?_)
  refine q_newa (ty := .boolean) (N := 4) (k := .inl (fun _ => 0)) rfl rfl kA_boolean (fun _ _ => rfl) (fun _ _ h => h) (by decide) (by decide) dX10_init_280 ?_
  rw [Option.some.inj e138]
  refine q_bind hyp (fun h139 e140 hyp => ?_)
  refine q_putZ kF_X10_114 rfl ⟨_, _, rfl⟩ (fun _ => ⟨rfl, rfl⟩) dX10_init_282 e140 ?_
  refine q_aload_n 0 rfl dX10_init_285 ?_
  refine q_bipush (x := 7) (by decide) dX10_init_286 ?_
  refine q_bind hyp (fun h141 e142 hyp => ?_)
  refine q_newa (ty := .int) (N := 7) (k := .inl (fun _ => 0)) rfl rfl kA_int (fun _ _ => rfl) (fun _ _ h => h) (by decide) (by decide) dX10_init_288 ?_
  rw [Option.some.inj e142]
  refine q_bind hyp (fun h143 e144 hyp => ?_)
  refine q_putZ kF_X10_117 rfl ⟨_, _, rfl⟩ (fun _ => ⟨rfl, rfl⟩) dX10_init_290 e144 ?_
  refine q_aload_n 0 rfl dX10_init_293 ?_
  refine q_bipush (x := 7) (by decide) dX10_init_294 ?_
  refine q_bind hyp (fun h145 e146 hyp => ?_)
  refine q_newa (ty := .int) (N := 7) (k := .inl (fun _ => 0)) rfl rfl kA_int (fun _ _ => rfl) (fun _ _ h => h) (by decide) (by decide) dX10_init_296 ?_
  rw [Option.some.inj e146]
  refine q_bind hyp (fun h147 e148 hyp => ?_)
  refine q_putZ kF_X10_120 rfl ⟨_, _, rfl⟩ (fun _ => ⟨rfl, rfl⟩) dX10_init_298 e148 ?_
  refine q_aload_n 0 rfl dX10_init_301 ?_
  refine q_bipush (x := 7) (by decide) dX10_init_302 ?_
  refine q_bind hyp (fun h149 e150 hyp => ?_)
  refine q_newa (ty := .int) (N := 7) (k := .inl (fun _ => 0)) rfl rfl kA_int (fun _ _ => rfl) (fun _ _ h => h) (by decide) (by decide) dX10_init_304 ?_
  rw [Option.some.inj e150]
  refine q_bind hyp (fun h151 e152 hyp => ?_)
  refine q_putZ kF_X10_123 rfl ⟨_, _, rfl⟩ (fun _ => ⟨rfl, rfl⟩) dX10_init_306 e152 ?_
  refine q_aload_n 0 rfl dX10_init_309 ?_
  refine q_bipush (x := 70) (by decide) dX10_init_310 ?_
  refine q_bind hyp (fun h153 e154 hyp => ?_)
  refine q_newa (ty := .int) (N := 70) (k := .inl (fun _ => 0)) rfl rfl kA_int (fun _ _ => rfl) (fun _ _ h => h) (by decide) (by decide) dX10_init_312 ?_
  rw [Option.some.inj e154]
  refine q_bind hyp (fun h155 e156 hyp => ?_)
  refine q_putZ kF_X10_126 rfl ⟨_, _, rfl⟩ (fun _ => ⟨rfl, rfl⟩) dX10_init_314 e156 ?_
  refine q_aload_n 0 rfl dX10_init_317 ?_
  refine q_iconst (x := 0) rfl dX10_init_318 ?_
  refine q_bind hyp (fun h157 e160 hyp => ?_)
  refine q_callV (as := [.int 0]) (st := []) kY_X10_usual kL_X10_129 (okX10_usual (l := l) e160) (by decide) rfl (obX10_usual e160) (Nat.le_of_ble_eq_true rfl) dX10_init_319 ?_
  refine q_to (ls' := [(0, .ref v0)]) (st' := []) rfl rfl ?_
  refine q_aload_n 0 rfl dX10_init_322 ?_
  refine q_bind hyp (fun h158 e159 hyp => ?_)
  refine q_callV (as := []) (st := []) kY_X10_fresh0 kL_X10_133 (okX10_fresh0 (l := l) e159) (by decide) rfl (obX10_fresh0 e159) (Nat.le_of_ble_eq_true rfl) dX10_init_323 ?_
  refine q_to (ls' := [(0, .ref v0)]) (st' := []) rfl rfl ?_
  exact q_vretH rfl dX10_init_326 hyp
theorem dX10_isAsSeen_0 : decode cX10_isAsSeen 0 = .ok (.iconst 0, 1) := by decide +kernel
theorem dX10_isAsSeen_1 : decode cX10_isAsSeen 1 = .ok (.istore_n 2, 1) := by decide +kernel
theorem dX10_isAsSeen_2 : decode cX10_isAsSeen 2 = .ok (.iload_n 2, 1) := by decide +kernel
theorem dX10_isAsSeen_3 : decode cX10_isAsSeen 3 = .ok (.aload_n 0, 1) := by decide +kernel
theorem dX10_isAsSeen_4 : decode cX10_isAsSeen 4 = .ok (.getfield 87, 3) := by decide +kernel
theorem dX10_isAsSeen_7 : decode cX10_isAsSeen 7 = .ok (.iconst 0, 1) := by decide +kernel
theorem dX10_isAsSeen_8 : decode cX10_isAsSeen 8 = .ok (.iaload, 1) := by decide +kernel
theorem dX10_isAsSeen_9 : decode cX10_isAsSeen 9 = .ok (.if_icmp .ge 50, 3) := by decide +kernel
theorem dX10_isAsSeen_12 : decode cX10_isAsSeen 12 = .ok (.aload_n 0, 1) := by decide +kernel
theorem dX10_isAsSeen_13 : decode cX10_isAsSeen 13 = .ok (.getfield 126, 3) := by decide +kernel
theorem dX10_isAsSeen_16 : decode cX10_isAsSeen 16 = .ok (.bipush 10, 2) := by decide +kernel
theorem dX10_isAsSeen_18 : decode cX10_isAsSeen 18 = .ok (.iload_n 1, 1) := by decide +kernel
theorem dX10_isAsSeen_19 : decode cX10_isAsSeen 19 = .ok (.imul, 1) := by decide +kernel
theorem dX10_isAsSeen_20 : decode cX10_isAsSeen 20 = .ok (.aload_n 0, 1) := by decide +kernel
theorem dX10_isAsSeen_21 : decode cX10_isAsSeen 21 = .ok (.getfield 90, 3) := by decide +kernel
theorem dX10_isAsSeen_24 : decode cX10_isAsSeen 24 = .ok (.iload_n 2, 1) := by decide +kernel
theorem dX10_isAsSeen_25 : decode cX10_isAsSeen 25 = .ok (.iaload, 1) := by decide +kernel
theorem dX10_isAsSeen_26 : decode cX10_isAsSeen 26 = .ok (.iadd, 1) := by decide +kernel
theorem dX10_isAsSeen_27 : decode cX10_isAsSeen 27 = .ok (.iaload, 1) := by decide +kernel
theorem dX10_isAsSeen_28 : decode cX10_isAsSeen 28 = .ok (.aload_n 0, 1) := by decide +kernel
theorem dX10_isAsSeen_29 : decode cX10_isAsSeen 29 = .ok (.getfield 93, 3) := by decide +kernel
theorem dX10_isAsSeen_32 : decode cX10_isAsSeen 32 = .ok (.iload_n 2, 1) := by decide +kernel
theorem dX10_isAsSeen_33 : decode cX10_isAsSeen 33 = .ok (.iaload, 1) := by decide +kernel
theorem dX10_isAsSeen_34 : decode cX10_isAsSeen 34 = .ok (.if_icmp .gt 7, 3) := by decide +kernel
theorem dX10_isAsSeen_37 : decode cX10_isAsSeen 37 = .ok (.iconst 1, 1) := by decide +kernel
theorem dX10_isAsSeen_38 : decode cX10_isAsSeen 38 = .ok (.goto 4, 3) := by decide +kernel
theorem dX10_isAsSeen_41 : decode cX10_isAsSeen 41 = .ok (.iconst 0, 1) := by decide +kernel
theorem dX10_isAsSeen_42 : decode cX10_isAsSeen 42 = .ok (.aload_n 0, 1) := by decide +kernel
theorem dX10_isAsSeen_43 : decode cX10_isAsSeen 43 = .ok (.getfield 96, 3) := by decide +kernel
theorem dX10_isAsSeen_46 : decode cX10_isAsSeen 46 = .ok (.iload_n 2, 1) := by decide +kernel
theorem dX10_isAsSeen_47 : decode cX10_isAsSeen 47 = .ok (.baload, 1) := by decide +kernel
theorem dX10_isAsSeen_48 : decode cX10_isAsSeen 48 = .ok (.if_icmp .eq 5, 3) := by decide +kernel
theorem dX10_isAsSeen_51 : decode cX10_isAsSeen 51 = .ok (.iconst 0, 1) := by decide +kernel
theorem dX10_isAsSeen_52 : decode cX10_isAsSeen 52 = .ok (.ireturn, 1) := by decide +kernel
theorem dX10_isAsSeen_53 : decode cX10_isAsSeen 53 = .ok (.iinc 2 1, 3) := by decide +kernel
theorem dX10_isAsSeen_56 : decode cX10_isAsSeen 56 = .ok (.goto (-54), 3) := by decide +kernel
theorem dX10_isAsSeen_59 : decode cX10_isAsSeen 59 = .ok (.iconst 1, 1) := by decide +kernel
theorem dX10_isAsSeen_60 : decode cX10_isAsSeen 60 = .ok (.ireturn, 1) := by decide +kernel
def fX10_isAsSeen_b42 (n : Nat) (K2 : Nat → Int32 → Int32 → qH → Option (Int32 × qH)) (v0 : Nat) (v1 : Int32) (v2 : Int32) (s0 : Int32) (h : qH) : Option (Int32 × qH) :=
  (gR h v0 10 40).bind fun x1 =>
  (aI .boolean h x1 v2).bind fun x3 =>
  if s0 = x3 then
  (K2 v0 v1 (v2 + 1) h)
  else
  (some (0, h))
set_option maxHeartbeats 4000000 in
set_option maxRecDepth 100000 in
theorem okX10_isAsSeen_b42 {l : Launch} {n : Nat} {K2 : Nat → Int32 → Int32 → qH → Option (Int32 × qH)} {v0 : Nat} {v1 : Int32} {v2 : Int32} {s0 : Int32} {h : qH} {r : Int32} {h' : qH} (hK2 : ∀ (v0 : Nat) (v1 : Int32) (v2 : Int32) (h : qH), K2 v0 v1 v2 h = some (r, h') → q_W l 1 yX10_isAsSeen cX10_isAsSeen 3 (some .boolean) (some (.int r)) h' 2 [(0, .ref v0), (1, .int v1), (2, .int v2)] [] h) (hyp : fX10_isAsSeen_b42 n K2 v0 v1 v2 s0 h = some (r, h')) : q_W l 1 yX10_isAsSeen cX10_isAsSeen 3 (some .boolean) (some (.int r)) h' 42 [(0, .ref v0), (1, .int v1), (2, .int v2)] [.int s0] h := by
  unfold fX10_isAsSeen_b42 at hyp
  refine q_aload_n 0 rfl dX10_isAsSeen_42 ?_
  refine q_bind hyp (fun x1 e2 hyp => ?_)
  refine q_getR kF_X10_96 dX10_isAsSeen_43 e2 ?_
  refine q_iload_n 2 rfl dX10_isAsSeen_46 ?_
  refine q_bind hyp (fun x3 e4 hyp => ?_)
  refine q_zald dX10_isAsSeen_47 e4 ?_
  refine q_icmp_eq (tgt := 53) dX10_isAsSeen_48 (by decide) (fun c5 => ?_) (fun c5 => ?_)
  · have hyp := q_pos c5 hyp
    refine q_iinc (ls' := [(2, .int (v2 + 1)), (0, .ref v0), (1, .int v1)]) 2 rfl rfl (by decide) rfl dX10_isAsSeen_53 ?_
    refine q_goto (tgt := 2) dX10_isAsSeen_56 (by decide) ?_
    exact q_sub [1, 2, 0] rfl (hK2 v0 v1 (v2 + 1) h hyp)
  · have hyp := q_neg c5 hyp
    refine q_iconst (x := 0) rfl dX10_isAsSeen_51 ?_
    exact q_iretH rfl rfl dX10_isAsSeen_52 hyp
def fX10_isAsSeen_b2 (n : Nat) : Nat → Nat → Int32 → Int32 → qH → Option (Int32 × qH)
  | 0, _, _, _, _ => none
  | w + 1, v0, v1, v2, h =>
    (gR h v0 10 37).bind fun x1 =>
    (aI .int h x1 0).bind fun x3 =>
    if x3 ≤ v2 then
    (some (1, h))
    else
    ((gR h v0 10 51).bind fun x6 =>
    (gR h v0 10 38).bind fun x8 =>
    (aI .int h x8 v2).bind fun x10 =>
    (aI .int h x6 ((10 * v1) + x10)).bind fun x12 =>
    (gR h v0 10 39).bind fun x14 =>
    (aI .int h x14 v2).bind fun x16 =>
    if x16 < x12 then
    (fX10_isAsSeen_b42 n (fX10_isAsSeen_b2 n w) v0 v1 v2 0 h)
    else
    (fX10_isAsSeen_b42 n (fX10_isAsSeen_b2 n w) v0 v1 v2 1 h))
set_option maxHeartbeats 4000000 in
set_option maxRecDepth 100000 in
theorem okX10_isAsSeen_b2 {l : Launch} {n : Nat} {r : Int32} {h' : qH} : ∀ (w : Nat) (v0 : Nat) (v1 : Int32) (v2 : Int32) (h : qH), fX10_isAsSeen_b2 n w v0 v1 v2 h = some (r, h') → q_W l 1 yX10_isAsSeen cX10_isAsSeen 3 (some .boolean) (some (.int r)) h' 2 [(0, .ref v0), (1, .int v1), (2, .int v2)] [] h := by
  intro w
  induction w with
  | zero => intro v0 v1 v2 h hyp; cases hyp
  | succ w ih =>
    intro v0 v1 v2 h hyp
    unfold fX10_isAsSeen_b2 at hyp
    refine q_iload_n 2 rfl dX10_isAsSeen_2 ?_
    refine q_aload_n 0 rfl dX10_isAsSeen_3 ?_
    refine q_bind hyp (fun x1 e2 hyp => ?_)
    refine q_getR kF_X10_87 dX10_isAsSeen_4 e2 ?_
    refine q_iconst (x := 0) rfl dX10_isAsSeen_7 ?_
    refine q_bind hyp (fun x3 e4 hyp => ?_)
    refine q_iald dX10_isAsSeen_8 e4 ?_
    refine q_icmp_ge (tgt := 59) dX10_isAsSeen_9 (by decide) (fun c5 => ?_) (fun c5 => ?_)
    · have hyp := q_pos c5 hyp
      refine q_iconst (x := 1) rfl dX10_isAsSeen_59 ?_
      exact q_iretH rfl rfl dX10_isAsSeen_60 hyp
    · have hyp := q_neg c5 hyp
      refine q_aload_n 0 rfl dX10_isAsSeen_12 ?_
      refine q_bind hyp (fun x6 e7 hyp => ?_)
      refine q_getR kF_X10_126 dX10_isAsSeen_13 e7 ?_
      refine q_bipush (x := 10) (by decide) dX10_isAsSeen_16 ?_
      refine q_iload_n 1 rfl dX10_isAsSeen_18 ?_
      refine q_imul dX10_isAsSeen_19 ?_
      refine q_aload_n 0 rfl dX10_isAsSeen_20 ?_
      refine q_bind hyp (fun x8 e9 hyp => ?_)
      refine q_getR kF_X10_90 dX10_isAsSeen_21 e9 ?_
      refine q_iload_n 2 rfl dX10_isAsSeen_24 ?_
      refine q_bind hyp (fun x10 e11 hyp => ?_)
      refine q_iald dX10_isAsSeen_25 e11 ?_
      refine q_iadd dX10_isAsSeen_26 ?_
      refine q_bind hyp (fun x12 e13 hyp => ?_)
      refine q_iald dX10_isAsSeen_27 e13 ?_
      refine q_aload_n 0 rfl dX10_isAsSeen_28 ?_
      refine q_bind hyp (fun x14 e15 hyp => ?_)
      refine q_getR kF_X10_93 dX10_isAsSeen_29 e15 ?_
      refine q_iload_n 2 rfl dX10_isAsSeen_32 ?_
      refine q_bind hyp (fun x16 e17 hyp => ?_)
      refine q_iald dX10_isAsSeen_33 e17 ?_
      refine q_icmp_gt (tgt := 41) dX10_isAsSeen_34 (by decide) (fun c18 => ?_) (fun c18 => ?_)
      · have hyp := q_pos c18 hyp
        refine q_iconst (x := 0) rfl dX10_isAsSeen_41 ?_
        exact q_sub [0, 1, 2] rfl (okX10_isAsSeen_b42 ih hyp)
      · have hyp := q_neg c18 hyp
        refine q_iconst (x := 1) rfl dX10_isAsSeen_37 ?_
        refine q_goto (tgt := 42) dX10_isAsSeen_38 (by decide) ?_
        exact q_sub [0, 1, 2] rfl (okX10_isAsSeen_b42 ih hyp)
def fX10_isAsSeen (n : Nat) (v0 : Nat) (v1 : Int32) (h : qH) : Option (Int32 × qH) :=
  (isO h v0 10).bind fun _ =>
  fX10_isAsSeen_b2 n n v0 v1 0 h
theorem obX10_isAsSeen {n : Nat} {v0 : Nat} {v1 : Int32} {h : qH} {p : Int32 × qH} (hyp : fX10_isAsSeen n v0 v1 h = some p) : ∃ fs, h.1 v0 = some (.inr (10, fs)) := by
  unfold fX10_isAsSeen at hyp
  exact q_bind hyp (fun _ e _ => isO_some e)
set_option maxHeartbeats 4000000 in
set_option maxRecDepth 100000 in
theorem okX10_isAsSeen {l : Launch} {n : Nat} {v0 : Nat} {v1 : Int32} {h : qH} {p : Int32 × qH} (hyp : fX10_isAsSeen n v0 v1 h = some p) : q_M l 1 yX10_isAsSeen cX10_isAsSeen 3 (some .boolean) [.ref v0, .int v1] h (some (.int p.1)) p.2 := by
  obtain ⟨r, h'⟩ := p
  unfold fX10_isAsSeen at hyp
  refine q_bind hyp (fun _ _ hyp => ?_)
  refine q_M.of (by decide) (Nat.le_of_ble_eq_true rfl) ?_
  refine q_to (ls' := [(0, .ref v0), (1, .int v1)]) (st' := []) rfl rfl ?_
  refine q_iconst (x := 0) rfl dX10_isAsSeen_0 ?_
  refine q_istore_n (ls' := [(2, .int 0), (0, .ref v0), (1, .int v1)]) (by decide) rfl dX10_isAsSeen_1 ?_
  exact q_sub [1, 2, 0] rfl (okX10_isAsSeen_b2 _ v0 v1 0 h hyp)
theorem dX10_isDone_0 : decode cX10_isDone 0 = .ok (.aload_n 0, 1) := by decide +kernel
theorem dX10_isDone_1 : decode cX10_isDone 1 = .ok (.getfield 84, 3) := by decide +kernel
theorem dX10_isDone_4 : decode cX10_isDone 4 = .ok (.iload_n 1, 1) := by decide +kernel
theorem dX10_isDone_5 : decode cX10_isDone 5 = .ok (.iaload, 1) := by decide +kernel
theorem dX10_isDone_6 : decode cX10_isDone 6 = .ok (.istore_n 2, 1) := by decide +kernel
theorem dX10_isDone_7 : decode cX10_isDone 7 = .ok (.aload_n 0, 1) := by decide +kernel
theorem dX10_isDone_8 : decode cX10_isDone 8 = .ok (.getfield 81, 3) := by decide +kernel
theorem dX10_isDone_11 : decode cX10_isDone 11 = .ok (.iload_n 1, 1) := by decide +kernel
theorem dX10_isDone_12 : decode cX10_isDone 12 = .ok (.iaload, 1) := by decide +kernel
theorem dX10_isDone_13 : decode cX10_isDone 13 = .ok (.iconst 2, 1) := by decide +kernel
theorem dX10_isDone_14 : decode cX10_isDone 14 = .ok (.if_icmp .ne 10, 3) := by decide +kernel
theorem dX10_isDone_17 : decode cX10_isDone 17 = .ok (.aload_n 0, 1) := by decide +kernel
theorem dX10_isDone_18 : decode cX10_isDone 18 = .ok (.invokevirtual 368, 3) := by decide +kernel
theorem dX10_isDone_21 : decode cX10_isDone 21 = .ok (.goto 55, 3) := by decide +kernel
theorem dX10_isDone_24 : decode cX10_isDone 24 = .ok (.aload_n 0, 1) := by decide +kernel
theorem dX10_isDone_25 : decode cX10_isDone 25 = .ok (.getfield 81, 3) := by decide +kernel
theorem dX10_isDone_28 : decode cX10_isDone 28 = .ok (.iload_n 1, 1) := by decide +kernel
theorem dX10_isDone_29 : decode cX10_isDone 29 = .ok (.iaload, 1) := by decide +kernel
theorem dX10_isDone_30 : decode cX10_isDone 30 = .ok (.ifCond .ne 27, 3) := by decide +kernel
theorem dX10_isDone_33 : decode cX10_isDone 33 = .ok (.aload_n 0, 1) := by decide +kernel
theorem dX10_isDone_34 : decode cX10_isDone 34 = .ok (.getfield 99, 3) := by decide +kernel
theorem dX10_isDone_37 : decode cX10_isDone 37 = .ok (.iconst 1, 1) := by decide +kernel
theorem dX10_isDone_38 : decode cX10_isDone 38 = .ok (.iaload, 1) := by decide +kernel
theorem dX10_isDone_39 : decode cX10_isDone 39 = .ok (.aload_n 0, 1) := by decide +kernel
theorem dX10_isDone_40 : decode cX10_isDone 40 = .ok (.iload_n 2, 1) := by decide +kernel
theorem dX10_isDone_41 : decode cX10_isDone 41 = .ok (.invokevirtual 331, 3) := by decide +kernel
theorem dX10_isDone_44 : decode cX10_isDone 44 = .ok (.if_icmp .ge 5, 3) := by decide +kernel
theorem dX10_isDone_47 : decode cX10_isDone 47 = .ok (.iconst 0, 1) := by decide +kernel
theorem dX10_isDone_48 : decode cX10_isDone 48 = .ok (.ireturn, 1) := by decide +kernel
theorem dX10_isDone_49 : decode cX10_isDone 49 = .ok (.aload_n 0, 1) := by decide +kernel
theorem dX10_isDone_50 : decode cX10_isDone 50 = .ok (.iload_n 2, 1) := by decide +kernel
theorem dX10_isDone_51 : decode cX10_isDone 51 = .ok (.invokevirtual 362, 3) := by decide +kernel
theorem dX10_isDone_54 : decode cX10_isDone 54 = .ok (.goto 22, 3) := by decide +kernel
theorem dX10_isDone_57 : decode cX10_isDone 57 = .ok (.aload_n 0, 1) := by decide +kernel
theorem dX10_isDone_58 : decode cX10_isDone 58 = .ok (.getfield 99, 3) := by decide +kernel
theorem dX10_isDone_61 : decode cX10_isDone 61 = .ok (.bipush 9, 2) := by decide +kernel
theorem dX10_isDone_63 : decode cX10_isDone 63 = .ok (.iload_n 2, 1) := by decide +kernel
theorem dX10_isDone_64 : decode cX10_isDone 64 = .ok (.iadd, 1) := by decide +kernel
theorem dX10_isDone_65 : decode cX10_isDone 65 = .ok (.iaload, 1) := by decide +kernel
theorem dX10_isDone_66 : decode cX10_isDone 66 = .ok (.ifCond .ne 5, 3) := by decide +kernel
theorem dX10_isDone_69 : decode cX10_isDone 69 = .ok (.iconst 0, 1) := by decide +kernel
theorem dX10_isDone_70 : decode cX10_isDone 70 = .ok (.ireturn, 1) := by decide +kernel
theorem dX10_isDone_71 : decode cX10_isDone 71 = .ok (.aload_n 0, 1) := by decide +kernel
theorem dX10_isDone_72 : decode cX10_isDone 72 = .ok (.iload_n 2, 1) := by decide +kernel
theorem dX10_isDone_73 : decode cX10_isDone 73 = .ok (.invokevirtual 365, 3) := by decide +kernel
theorem dX10_isDone_76 : decode cX10_isDone 76 = .ok (.iconst 1, 1) := by decide +kernel
theorem dX10_isDone_77 : decode cX10_isDone 77 = .ok (.ireturn, 1) := by decide +kernel
def fX10_isDone (n : Nat) (v0 : Nat) (v1 : Int32) (h : qH) : Option (Int32 × qH) :=
  (isO h v0 10).bind fun _ =>
  (gR h v0 10 36).bind fun x1 =>
  (aI .int h x1 v1).bind fun x3 =>
  (gR h v0 10 35).bind fun x5 =>
  (aI .int h x5 v1).bind fun x7 =>
  if x7 = 2 then
  ((fX10_passes n v0 h).bind fun h31 =>
  some (1, h31))
  else
  ((gR h v0 10 35).bind fun x10 =>
  (aI .int h x10 v1).bind fun x12 =>
  if x12 = 0 then
  ((gR h v0 10 41).bind fun x22 =>
  (aI .int h x22 1).bind fun x24 =>
  (fX10_priceOf v0 x3 h).bind fun p26 =>
  if p26.1 ≤ x24 then
  ((fX10_coats n v0 x3 p26.2).bind fun h28 =>
  some (1, h28))
  else
  (some (0, p26.2)))
  else
  ((gR h v0 10 41).bind fun x15 =>
  (aI .int h x15 (9 + x3)).bind fun x17 =>
  if x17 = 0 then
  (some (0, h))
  else
  ((fX10_eaten v0 x3 h).bind fun h20 =>
  some (1, h20))))
theorem obX10_isDone {n : Nat} {v0 : Nat} {v1 : Int32} {h : qH} {p : Int32 × qH} (hyp : fX10_isDone n v0 v1 h = some p) : ∃ fs, h.1 v0 = some (.inr (10, fs)) := by
  unfold fX10_isDone at hyp
  exact q_bind hyp (fun _ e _ => isO_some e)
set_option maxHeartbeats 4000000 in
set_option maxRecDepth 100000 in
theorem okX10_isDone {l : Launch} {n : Nat} {v0 : Nat} {v1 : Int32} {h : qH} {p : Int32 × qH} (hyp : fX10_isDone n v0 v1 h = some p) : q_M l 6 yX10_isDone cX10_isDone 3 (some .boolean) [.ref v0, .int v1] h (some (.int p.1)) p.2 := by
  obtain ⟨r, h'⟩ := p
  unfold fX10_isDone at hyp
  refine q_bind hyp (fun _ _ hyp => ?_)
  refine q_M.of (by decide) (Nat.le_of_ble_eq_true rfl) ?_
  refine q_to (ls' := [(0, .ref v0), (1, .int v1)]) (st' := []) rfl rfl ?_
  refine q_aload_n 0 rfl dX10_isDone_0 ?_
  refine q_bind hyp (fun x1 e2 hyp => ?_)
  refine q_getR kF_X10_84 dX10_isDone_1 e2 ?_
  refine q_iload_n 1 rfl dX10_isDone_4 ?_
  refine q_bind hyp (fun x3 e4 hyp => ?_)
  refine q_iald dX10_isDone_5 e4 ?_
  refine q_istore_n (ls' := [(2, .int x3), (0, .ref v0), (1, .int v1)]) (by decide) rfl dX10_isDone_6 ?_
  refine q_aload_n 1 rfl dX10_isDone_7 ?_
  refine q_bind hyp (fun x5 e6 hyp => ?_)
  refine q_getR kF_X10_81 dX10_isDone_8 e6 ?_
  refine q_iload_n 2 rfl dX10_isDone_11 ?_
  refine q_bind hyp (fun x7 e8 hyp => ?_)
  refine q_iald dX10_isDone_12 e8 ?_
  refine q_iconst (x := 2) rfl dX10_isDone_13 ?_
  refine q_icmp_ne (tgt := 24) dX10_isDone_14 (by decide) (fun c9 => ?_) (fun c9 => ?_)
  · have hyp := q_neg c9 hyp
    refine q_aload_n 1 rfl dX10_isDone_24 ?_
    refine q_bind hyp (fun x10 e11 hyp => ?_)
    refine q_getR kF_X10_81 dX10_isDone_25 e11 ?_
    refine q_iload_n 2 rfl dX10_isDone_28 ?_
    refine q_bind hyp (fun x12 e13 hyp => ?_)
    refine q_iald dX10_isDone_29 e13 ?_
    refine q_if_ne (tgt := 57) dX10_isDone_30 (by decide) (fun c14 => ?_) (fun c14 => ?_)
    · have hyp := q_neg c14 hyp
      refine q_aload_n 1 rfl dX10_isDone_57 ?_
      refine q_bind hyp (fun x15 e16 hyp => ?_)
      refine q_getR kF_X10_99 dX10_isDone_58 e16 ?_
      refine q_bipush (x := 9) (by decide) dX10_isDone_61 ?_
      refine q_iload_n 0 rfl dX10_isDone_63 ?_
      refine q_iadd dX10_isDone_64 ?_
      refine q_bind hyp (fun x17 e18 hyp => ?_)
      refine q_iald dX10_isDone_65 e18 ?_
      refine q_if_ne (tgt := 71) dX10_isDone_66 (by decide) (fun c19 => ?_) (fun c19 => ?_)
      · have hyp := q_neg c19 hyp
        refine q_aload_n 1 rfl dX10_isDone_71 ?_
        refine q_iload_n 0 rfl dX10_isDone_72 ?_
        refine q_bind hyp (fun h20 e21 hyp => ?_)
        refine q_callV (as := [.int x3]) (st := []) kY_X10_eaten kL_X10_365 (okX10_eaten (l := l) e21) (by decide) rfl (obX10_eaten e21) (Nat.le_of_ble_eq_true rfl) dX10_isDone_73 ?_
        refine q_to (ls' := [(2, .int x3), (0, .ref v0), (1, .int v1)]) (st' := []) rfl rfl ?_
        refine q_iconst (x := 1) rfl dX10_isDone_76 ?_
        exact q_iretH rfl rfl dX10_isDone_77 hyp
      · have hyp := q_pos c19 hyp
        refine q_iconst (x := 0) rfl dX10_isDone_69 ?_
        exact q_iretH rfl rfl dX10_isDone_70 hyp
    · have hyp := q_pos c14 hyp
      refine q_aload_n 1 rfl dX10_isDone_33 ?_
      refine q_bind hyp (fun x22 e23 hyp => ?_)
      refine q_getR kF_X10_99 dX10_isDone_34 e23 ?_
      refine q_iconst (x := 1) rfl dX10_isDone_37 ?_
      refine q_bind hyp (fun x24 e25 hyp => ?_)
      refine q_iald dX10_isDone_38 e25 ?_
      refine q_aload_n 1 rfl dX10_isDone_39 ?_
      refine q_iload_n 0 rfl dX10_isDone_40 ?_
      refine q_bind hyp (fun p26 e30 hyp => ?_)
      refine q_callV (as := [.int x3]) (st := [.int x24]) kY_X10_priceOf kL_X10_331 (okX10_priceOf (l := l) e30) (by decide) rfl (obX10_priceOf e30) (Nat.le_of_ble_eq_true rfl) dX10_isDone_41 ?_
      refine q_to (ls' := [(2, .int x3), (0, .ref v0), (1, .int v1)]) (st' := [.int p26.1, .int x24]) rfl rfl ?_
      refine q_icmp_ge (tgt := 49) dX10_isDone_44 (by decide) (fun c27 => ?_) (fun c27 => ?_)
      · have hyp := q_pos c27 hyp
        refine q_aload_n 1 rfl dX10_isDone_49 ?_
        refine q_iload_n 0 rfl dX10_isDone_50 ?_
        refine q_bind hyp (fun h28 e29 hyp => ?_)
        refine q_callV (as := [.int x3]) (st := []) kY_X10_coats kL_X10_362 (okX10_coats (l := l) e29) (by decide) rfl (obX10_coats e29) (Nat.le_of_ble_eq_true rfl) dX10_isDone_51 ?_
        refine q_to (ls' := [(2, .int x3), (0, .ref v0), (1, .int v1)]) (st' := []) rfl rfl ?_
        refine q_goto (tgt := 76) dX10_isDone_54 (by decide) ?_
        refine q_iconst (x := 1) rfl dX10_isDone_76 ?_
        exact q_iretH rfl rfl dX10_isDone_77 hyp
      · have hyp := q_neg c27 hyp
        refine q_iconst (x := 0) rfl dX10_isDone_47 ?_
        exact q_iretH rfl rfl dX10_isDone_48 hyp
  · have hyp := q_pos c9 hyp
    refine q_aload_n 1 rfl dX10_isDone_17 ?_
    refine q_bind hyp (fun h31 e32 hyp => ?_)
    refine q_callV (as := []) (st := []) kY_X10_passes kL_X10_368 (okX10_passes (l := l) e32) (by decide) rfl (obX10_passes e32) (Nat.le_of_ble_eq_true rfl) dX10_isDone_18 ?_
    refine q_to (ls' := [(2, .int x3), (0, .ref v0), (1, .int v1)]) (st' := []) rfl rfl ?_
    refine q_goto (tgt := 76) dX10_isDone_21 (by decide) ?_
    refine q_iconst (x := 1) rfl dX10_isDone_76 ?_
    exact q_iretH rfl rfl dX10_isDone_77 hyp
theorem dX10_isKept_0 : decode cX10_isKept 0 = .ok (.aload_n 0, 1) := by decide +kernel
theorem dX10_isKept_1 : decode cX10_isKept 1 = .ok (.getfield 161, 3) := by decide +kernel
theorem dX10_isKept_4 : decode cX10_isKept 4 = .ok (.iconst 1, 1) := by decide +kernel
theorem dX10_isKept_5 : decode cX10_isKept 5 = .ok (.if_icmp .eq 5, 3) := by decide +kernel
theorem dX10_isKept_8 : decode cX10_isKept 8 = .ok (.iconst 1, 1) := by decide +kernel
theorem dX10_isKept_9 : decode cX10_isKept 9 = .ok (.ireturn, 1) := by decide +kernel
theorem dX10_isKept_10 : decode cX10_isKept 10 = .ok (.aload_n 0, 1) := by decide +kernel
theorem dX10_isKept_11 : decode cX10_isKept 11 = .ok (.getfield 154, 3) := by decide +kernel
theorem dX10_isKept_14 : decode cX10_isKept 14 = .ok (.ldc2_w 222, 3) := by decide +kernel
theorem dX10_isKept_17 : decode cX10_isKept 17 = .ok (.lcmp, 1) := by decide +kernel
theorem dX10_isKept_18 : decode cX10_isKept 18 = .ok (.ifCond .eq 190, 3) := by decide +kernel
theorem dX10_isKept_21 : decode cX10_isKept 21 = .ok (.aload_n 0, 1) := by decide +kernel
theorem dX10_isKept_22 : decode cX10_isKept 22 = .ok (.getfield 154, 3) := by decide +kernel
theorem dX10_isKept_25 : decode cX10_isKept 25 = .ok (.ldc2_w 224, 3) := by decide +kernel
theorem dX10_isKept_28 : decode cX10_isKept 28 = .ok (.lcmp, 1) := by decide +kernel
theorem dX10_isKept_29 : decode cX10_isKept 29 = .ok (.ifCond .eq 179, 3) := by decide +kernel
theorem dX10_isKept_32 : decode cX10_isKept 32 = .ok (.aload_n 0, 1) := by decide +kernel
theorem dX10_isKept_33 : decode cX10_isKept 33 = .ok (.getfield 154, 3) := by decide +kernel
theorem dX10_isKept_36 : decode cX10_isKept 36 = .ok (.ldc2_w 226, 3) := by decide +kernel
theorem dX10_isKept_39 : decode cX10_isKept 39 = .ok (.lcmp, 1) := by decide +kernel
theorem dX10_isKept_40 : decode cX10_isKept 40 = .ok (.ifCond .eq 168, 3) := by decide +kernel
theorem dX10_isKept_43 : decode cX10_isKept 43 = .ok (.aload_n 0, 1) := by decide +kernel
theorem dX10_isKept_44 : decode cX10_isKept 44 = .ok (.getfield 154, 3) := by decide +kernel
theorem dX10_isKept_47 : decode cX10_isKept 47 = .ok (.ldc2_w 228, 3) := by decide +kernel
theorem dX10_isKept_50 : decode cX10_isKept 50 = .ok (.lcmp, 1) := by decide +kernel
theorem dX10_isKept_51 : decode cX10_isKept 51 = .ok (.ifCond .eq 157, 3) := by decide +kernel
theorem dX10_isKept_54 : decode cX10_isKept 54 = .ok (.aload_n 0, 1) := by decide +kernel
theorem dX10_isKept_55 : decode cX10_isKept 55 = .ok (.getfield 154, 3) := by decide +kernel
theorem dX10_isKept_58 : decode cX10_isKept 58 = .ok (.ldc2_w 230, 3) := by decide +kernel
theorem dX10_isKept_61 : decode cX10_isKept 61 = .ok (.lcmp, 1) := by decide +kernel
theorem dX10_isKept_62 : decode cX10_isKept 62 = .ok (.ifCond .eq 146, 3) := by decide +kernel
theorem dX10_isKept_65 : decode cX10_isKept 65 = .ok (.aload_n 0, 1) := by decide +kernel
theorem dX10_isKept_66 : decode cX10_isKept 66 = .ok (.getfield 154, 3) := by decide +kernel
theorem dX10_isKept_69 : decode cX10_isKept 69 = .ok (.ldc2_w 232, 3) := by decide +kernel
theorem dX10_isKept_72 : decode cX10_isKept 72 = .ok (.lcmp, 1) := by decide +kernel
theorem dX10_isKept_73 : decode cX10_isKept 73 = .ok (.ifCond .eq 135, 3) := by decide +kernel
theorem dX10_isKept_76 : decode cX10_isKept 76 = .ok (.aload_n 0, 1) := by decide +kernel
theorem dX10_isKept_77 : decode cX10_isKept 77 = .ok (.getfield 154, 3) := by decide +kernel
theorem dX10_isKept_80 : decode cX10_isKept 80 = .ok (.ldc2_w 234, 3) := by decide +kernel
theorem dX10_isKept_83 : decode cX10_isKept 83 = .ok (.lcmp, 1) := by decide +kernel
theorem dX10_isKept_84 : decode cX10_isKept 84 = .ok (.ifCond .eq 124, 3) := by decide +kernel
theorem dX10_isKept_87 : decode cX10_isKept 87 = .ok (.aload_n 0, 1) := by decide +kernel
theorem dX10_isKept_88 : decode cX10_isKept 88 = .ok (.getfield 154, 3) := by decide +kernel
theorem dX10_isKept_91 : decode cX10_isKept 91 = .ok (.ldc2_w 236, 3) := by decide +kernel
theorem dX10_isKept_94 : decode cX10_isKept 94 = .ok (.lcmp, 1) := by decide +kernel
theorem dX10_isKept_95 : decode cX10_isKept 95 = .ok (.ifCond .eq 113, 3) := by decide +kernel
theorem dX10_isKept_98 : decode cX10_isKept 98 = .ok (.aload_n 0, 1) := by decide +kernel
theorem dX10_isKept_99 : decode cX10_isKept 99 = .ok (.getfield 154, 3) := by decide +kernel
theorem dX10_isKept_102 : decode cX10_isKept 102 = .ok (.ldc2_w 238, 3) := by decide +kernel
theorem dX10_isKept_105 : decode cX10_isKept 105 = .ok (.lcmp, 1) := by decide +kernel
theorem dX10_isKept_106 : decode cX10_isKept 106 = .ok (.ifCond .eq 102, 3) := by decide +kernel
theorem dX10_isKept_109 : decode cX10_isKept 109 = .ok (.aload_n 0, 1) := by decide +kernel
theorem dX10_isKept_110 : decode cX10_isKept 110 = .ok (.getfield 154, 3) := by decide +kernel
theorem dX10_isKept_113 : decode cX10_isKept 113 = .ok (.ldc2_w 240, 3) := by decide +kernel
theorem dX10_isKept_116 : decode cX10_isKept 116 = .ok (.lcmp, 1) := by decide +kernel
theorem dX10_isKept_117 : decode cX10_isKept 117 = .ok (.ifCond .eq 91, 3) := by decide +kernel
theorem dX10_isKept_120 : decode cX10_isKept 120 = .ok (.aload_n 0, 1) := by decide +kernel
theorem dX10_isKept_121 : decode cX10_isKept 121 = .ok (.getfield 154, 3) := by decide +kernel
theorem dX10_isKept_124 : decode cX10_isKept 124 = .ok (.ldc2_w 242, 3) := by decide +kernel
theorem dX10_isKept_127 : decode cX10_isKept 127 = .ok (.lcmp, 1) := by decide +kernel
theorem dX10_isKept_128 : decode cX10_isKept 128 = .ok (.ifCond .eq 80, 3) := by decide +kernel
theorem dX10_isKept_131 : decode cX10_isKept 131 = .ok (.aload_n 0, 1) := by decide +kernel
theorem dX10_isKept_132 : decode cX10_isKept 132 = .ok (.getfield 154, 3) := by decide +kernel
theorem dX10_isKept_135 : decode cX10_isKept 135 = .ok (.ldc2_w 244, 3) := by decide +kernel
theorem dX10_isKept_138 : decode cX10_isKept 138 = .ok (.lcmp, 1) := by decide +kernel
theorem dX10_isKept_139 : decode cX10_isKept 139 = .ok (.ifCond .eq 69, 3) := by decide +kernel
theorem dX10_isKept_142 : decode cX10_isKept 142 = .ok (.aload_n 0, 1) := by decide +kernel
theorem dX10_isKept_143 : decode cX10_isKept 143 = .ok (.getfield 154, 3) := by decide +kernel
theorem dX10_isKept_146 : decode cX10_isKept 146 = .ok (.ldc2_w 246, 3) := by decide +kernel
theorem dX10_isKept_149 : decode cX10_isKept 149 = .ok (.lcmp, 1) := by decide +kernel
theorem dX10_isKept_150 : decode cX10_isKept 150 = .ok (.ifCond .eq 58, 3) := by decide +kernel
theorem dX10_isKept_153 : decode cX10_isKept 153 = .ok (.aload_n 0, 1) := by decide +kernel
theorem dX10_isKept_154 : decode cX10_isKept 154 = .ok (.getfield 154, 3) := by decide +kernel
theorem dX10_isKept_157 : decode cX10_isKept 157 = .ok (.ldc2_w 248, 3) := by decide +kernel
theorem dX10_isKept_160 : decode cX10_isKept 160 = .ok (.lcmp, 1) := by decide +kernel
theorem dX10_isKept_161 : decode cX10_isKept 161 = .ok (.ifCond .eq 47, 3) := by decide +kernel
theorem dX10_isKept_164 : decode cX10_isKept 164 = .ok (.aload_n 0, 1) := by decide +kernel
theorem dX10_isKept_165 : decode cX10_isKept 165 = .ok (.getfield 154, 3) := by decide +kernel
theorem dX10_isKept_168 : decode cX10_isKept 168 = .ok (.ldc2_w 250, 3) := by decide +kernel
theorem dX10_isKept_171 : decode cX10_isKept 171 = .ok (.lcmp, 1) := by decide +kernel
theorem dX10_isKept_172 : decode cX10_isKept 172 = .ok (.ifCond .eq 36, 3) := by decide +kernel
theorem dX10_isKept_175 : decode cX10_isKept 175 = .ok (.aload_n 0, 1) := by decide +kernel
theorem dX10_isKept_176 : decode cX10_isKept 176 = .ok (.getfield 154, 3) := by decide +kernel
theorem dX10_isKept_179 : decode cX10_isKept 179 = .ok (.ldc2_w 190, 3) := by decide +kernel
theorem dX10_isKept_182 : decode cX10_isKept 182 = .ok (.lcmp, 1) := by decide +kernel
theorem dX10_isKept_183 : decode cX10_isKept 183 = .ok (.ifCond .eq 25, 3) := by decide +kernel
theorem dX10_isKept_186 : decode cX10_isKept 186 = .ok (.aload_n 0, 1) := by decide +kernel
theorem dX10_isKept_187 : decode cX10_isKept 187 = .ok (.getfield 154, 3) := by decide +kernel
theorem dX10_isKept_190 : decode cX10_isKept 190 = .ok (.ldc2_w 209, 3) := by decide +kernel
theorem dX10_isKept_193 : decode cX10_isKept 193 = .ok (.lcmp, 1) := by decide +kernel
theorem dX10_isKept_194 : decode cX10_isKept 194 = .ok (.ifCond .eq 14, 3) := by decide +kernel
theorem dX10_isKept_197 : decode cX10_isKept 197 = .ok (.aload_n 0, 1) := by decide +kernel
theorem dX10_isKept_198 : decode cX10_isKept 198 = .ok (.getfield 154, 3) := by decide +kernel
theorem dX10_isKept_201 : decode cX10_isKept 201 = .ok (.ldc2_w 211, 3) := by decide +kernel
theorem dX10_isKept_204 : decode cX10_isKept 204 = .ok (.lcmp, 1) := by decide +kernel
theorem dX10_isKept_205 : decode cX10_isKept 205 = .ok (.ifCond .ne 7, 3) := by decide +kernel
theorem dX10_isKept_208 : decode cX10_isKept 208 = .ok (.iconst 1, 1) := by decide +kernel
theorem dX10_isKept_209 : decode cX10_isKept 209 = .ok (.goto 4, 3) := by decide +kernel
theorem dX10_isKept_212 : decode cX10_isKept 212 = .ok (.iconst 0, 1) := by decide +kernel
theorem dX10_isKept_213 : decode cX10_isKept 213 = .ok (.ireturn, 1) := by decide +kernel
def fX10_isKept (v0 : Nat) (h : qH) : Option (Int32 × qH) :=
  (isO h v0 10).bind fun _ =>
  (gI h v0 10 6).bind fun x1 =>
  if x1 = 1 then
  ((gL h v0 10 7).bind fun x4 =>
  if (lg_cmp x4 187475625) = 0 then
  (some (1, h))
  else
  ((gL h v0 10 7).bind fun x7 =>
  if (lg_cmp x7 257) = 0 then
  (some (1, h))
  else
  ((gL h v0 10 7).bind fun x10 =>
  if (lg_cmp x10 385497) = 0 then
  (some (1, h))
  else
  ((gL h v0 10 7).bind fun x13 =>
  if (lg_cmp x13 8887) = 0 then
  (some (1, h))
  else
  ((gL h v0 10 7).bind fun x16 =>
  if (lg_cmp x16 6128141) = 0 then
  (some (1, h))
  else
  ((gL h v0 10 7).bind fun x19 =>
  if (lg_cmp x19 12089) = 0 then
  (some (1, h))
  else
  ((gL h v0 10 7).bind fun x22 =>
  if (lg_cmp x22 22726) = 0 then
  (some (1, h))
  else
  ((gL h v0 10 7).bind fun x25 =>
  if (lg_cmp x25 10656676) = 0 then
  (some (1, h))
  else
  ((gL h v0 10 7).bind fun x28 =>
  if (lg_cmp x28 281490259) = 0 then
  (some (1, h))
  else
  ((gL h v0 10 7).bind fun x31 =>
  if (lg_cmp x31 3692) = 0 then
  (some (1, h))
  else
  ((gL h v0 10 7).bind fun x34 =>
  if (lg_cmp x34 495765) = 0 then
  (some (1, h))
  else
  ((gL h v0 10 7).bind fun x37 =>
  if (lg_cmp x37 8740238) = 0 then
  (some (1, h))
  else
  ((gL h v0 10 7).bind fun x40 =>
  if (lg_cmp x40 29637824) = 0 then
  (some (1, h))
  else
  ((gL h v0 10 7).bind fun x43 =>
  if (lg_cmp x43 8984627224) = 0 then
  (some (1, h))
  else
  ((gL h v0 10 7).bind fun x46 =>
  if (lg_cmp x46 335098125) = 0 then
  (some (1, h))
  else
  ((gL h v0 10 7).bind fun x49 =>
  if (lg_cmp x49 10631) = 0 then
  (some (1, h))
  else
  ((gL h v0 10 7).bind fun x52 =>
  if (lg_cmp x52 1111) = 0 then
  (some (1, h))
  else
  ((gL h v0 10 7).bind fun x55 =>
  if (lg_cmp x55 423) = 0 then
  (some (1, h))
  else
  (some (0, h))))))))))))))))))))
  else
  (some (1, h))
theorem obX10_isKept {v0 : Nat} {h : qH} {p : Int32 × qH} (hyp : fX10_isKept v0 h = some p) : ∃ fs, h.1 v0 = some (.inr (10, fs)) := by
  unfold fX10_isKept at hyp
  exact q_bind hyp (fun _ e _ => isO_some e)
set_option maxHeartbeats 4000000 in
set_option maxRecDepth 100000 in
theorem okX10_isKept {l : Launch} {v0 : Nat} {h : qH} {p : Int32 × qH} (hyp : fX10_isKept v0 h = some p) : q_M l 1 yX10_isKept cX10_isKept 1 (some .boolean) [.ref v0] h (some (.int p.1)) p.2 := by
  obtain ⟨r, h'⟩ := p
  unfold fX10_isKept at hyp
  refine q_bind hyp (fun _ _ hyp => ?_)
  refine q_M.of (by decide) (Nat.le_of_ble_eq_true rfl) ?_
  refine q_to (ls' := [(0, .ref v0)]) (st' := []) rfl rfl ?_
  refine q_aload_n 0 rfl dX10_isKept_0 ?_
  refine q_bind hyp (fun x1 e2 hyp => ?_)
  refine q_getI kF_X10_161 dX10_isKept_1 e2 ?_
  refine q_iconst (x := 1) rfl dX10_isKept_4 ?_
  refine q_icmp_eq (tgt := 10) dX10_isKept_5 (by decide) (fun c3 => ?_) (fun c3 => ?_)
  · have hyp := q_pos c3 hyp
    refine q_aload_n 0 rfl dX10_isKept_10 ?_
    refine q_bind hyp (fun x4 e5 hyp => ?_)
    refine q_getL kF_X10_154 dX10_isKept_11 e5 ?_
    refine q_ldc2 kK_X10_222 dX10_isKept_14 ?_
    refine q_lcmp dX10_isKept_17 ?_
    refine q_if_eq (tgt := 208) dX10_isKept_18 (by decide) (fun c6 => ?_) (fun c6 => ?_)
    · have hyp := q_pos c6 hyp
      refine q_iconst (x := 1) rfl dX10_isKept_208 ?_
      refine q_goto (tgt := 213) dX10_isKept_209 (by decide) ?_
      exact q_iretH rfl rfl dX10_isKept_213 hyp
    · have hyp := q_neg c6 hyp
      refine q_aload_n 0 rfl dX10_isKept_21 ?_
      refine q_bind hyp (fun x7 e8 hyp => ?_)
      refine q_getL kF_X10_154 dX10_isKept_22 e8 ?_
      refine q_ldc2 kK_X10_224 dX10_isKept_25 ?_
      refine q_lcmp dX10_isKept_28 ?_
      refine q_if_eq (tgt := 208) dX10_isKept_29 (by decide) (fun c9 => ?_) (fun c9 => ?_)
      · have hyp := q_pos c9 hyp
        refine q_iconst (x := 1) rfl dX10_isKept_208 ?_
        refine q_goto (tgt := 213) dX10_isKept_209 (by decide) ?_
        exact q_iretH rfl rfl dX10_isKept_213 hyp
      · have hyp := q_neg c9 hyp
        refine q_aload_n 0 rfl dX10_isKept_32 ?_
        refine q_bind hyp (fun x10 e11 hyp => ?_)
        refine q_getL kF_X10_154 dX10_isKept_33 e11 ?_
        refine q_ldc2 kK_X10_226 dX10_isKept_36 ?_
        refine q_lcmp dX10_isKept_39 ?_
        refine q_if_eq (tgt := 208) dX10_isKept_40 (by decide) (fun c12 => ?_) (fun c12 => ?_)
        · have hyp := q_pos c12 hyp
          refine q_iconst (x := 1) rfl dX10_isKept_208 ?_
          refine q_goto (tgt := 213) dX10_isKept_209 (by decide) ?_
          exact q_iretH rfl rfl dX10_isKept_213 hyp
        · have hyp := q_neg c12 hyp
          refine q_aload_n 0 rfl dX10_isKept_43 ?_
          refine q_bind hyp (fun x13 e14 hyp => ?_)
          refine q_getL kF_X10_154 dX10_isKept_44 e14 ?_
          refine q_ldc2 kK_X10_228 dX10_isKept_47 ?_
          refine q_lcmp dX10_isKept_50 ?_
          refine q_if_eq (tgt := 208) dX10_isKept_51 (by decide) (fun c15 => ?_) (fun c15 => ?_)
          · have hyp := q_pos c15 hyp
            refine q_iconst (x := 1) rfl dX10_isKept_208 ?_
            refine q_goto (tgt := 213) dX10_isKept_209 (by decide) ?_
            exact q_iretH rfl rfl dX10_isKept_213 hyp
          · have hyp := q_neg c15 hyp
            refine q_aload_n 0 rfl dX10_isKept_54 ?_
            refine q_bind hyp (fun x16 e17 hyp => ?_)
            refine q_getL kF_X10_154 dX10_isKept_55 e17 ?_
            refine q_ldc2 kK_X10_230 dX10_isKept_58 ?_
            refine q_lcmp dX10_isKept_61 ?_
            refine q_if_eq (tgt := 208) dX10_isKept_62 (by decide) (fun c18 => ?_) (fun c18 => ?_)
            · have hyp := q_pos c18 hyp
              refine q_iconst (x := 1) rfl dX10_isKept_208 ?_
              refine q_goto (tgt := 213) dX10_isKept_209 (by decide) ?_
              exact q_iretH rfl rfl dX10_isKept_213 hyp
            · have hyp := q_neg c18 hyp
              refine q_aload_n 0 rfl dX10_isKept_65 ?_
              refine q_bind hyp (fun x19 e20 hyp => ?_)
              refine q_getL kF_X10_154 dX10_isKept_66 e20 ?_
              refine q_ldc2 kK_X10_232 dX10_isKept_69 ?_
              refine q_lcmp dX10_isKept_72 ?_
              refine q_if_eq (tgt := 208) dX10_isKept_73 (by decide) (fun c21 => ?_) (fun c21 => ?_)
              · have hyp := q_pos c21 hyp
                refine q_iconst (x := 1) rfl dX10_isKept_208 ?_
                refine q_goto (tgt := 213) dX10_isKept_209 (by decide) ?_
                exact q_iretH rfl rfl dX10_isKept_213 hyp
              · have hyp := q_neg c21 hyp
                refine q_aload_n 0 rfl dX10_isKept_76 ?_
                refine q_bind hyp (fun x22 e23 hyp => ?_)
                refine q_getL kF_X10_154 dX10_isKept_77 e23 ?_
                refine q_ldc2 kK_X10_234 dX10_isKept_80 ?_
                refine q_lcmp dX10_isKept_83 ?_
                refine q_if_eq (tgt := 208) dX10_isKept_84 (by decide) (fun c24 => ?_) (fun c24 => ?_)
                · have hyp := q_pos c24 hyp
                  refine q_iconst (x := 1) rfl dX10_isKept_208 ?_
                  refine q_goto (tgt := 213) dX10_isKept_209 (by decide) ?_
                  exact q_iretH rfl rfl dX10_isKept_213 hyp
                · have hyp := q_neg c24 hyp
                  refine q_aload_n 0 rfl dX10_isKept_87 ?_
                  refine q_bind hyp (fun x25 e26 hyp => ?_)
                  refine q_getL kF_X10_154 dX10_isKept_88 e26 ?_
                  refine q_ldc2 kK_X10_236 dX10_isKept_91 ?_
                  refine q_lcmp dX10_isKept_94 ?_
                  refine q_if_eq (tgt := 208) dX10_isKept_95 (by decide) (fun c27 => ?_) (fun c27 => ?_)
                  · have hyp := q_pos c27 hyp
                    refine q_iconst (x := 1) rfl dX10_isKept_208 ?_
                    refine q_goto (tgt := 213) dX10_isKept_209 (by decide) ?_
                    exact q_iretH rfl rfl dX10_isKept_213 hyp
                  · have hyp := q_neg c27 hyp
                    refine q_aload_n 0 rfl dX10_isKept_98 ?_
                    refine q_bind hyp (fun x28 e29 hyp => ?_)
                    refine q_getL kF_X10_154 dX10_isKept_99 e29 ?_
                    refine q_ldc2 kK_X10_238 dX10_isKept_102 ?_
                    refine q_lcmp dX10_isKept_105 ?_
                    refine q_if_eq (tgt := 208) dX10_isKept_106 (by decide) (fun c30 => ?_) (fun c30 => ?_)
                    · have hyp := q_pos c30 hyp
                      refine q_iconst (x := 1) rfl dX10_isKept_208 ?_
                      refine q_goto (tgt := 213) dX10_isKept_209 (by decide) ?_
                      exact q_iretH rfl rfl dX10_isKept_213 hyp
                    · have hyp := q_neg c30 hyp
                      refine q_aload_n 0 rfl dX10_isKept_109 ?_
                      refine q_bind hyp (fun x31 e32 hyp => ?_)
                      refine q_getL kF_X10_154 dX10_isKept_110 e32 ?_
                      refine q_ldc2 kK_X10_240 dX10_isKept_113 ?_
                      refine q_lcmp dX10_isKept_116 ?_
                      refine q_if_eq (tgt := 208) dX10_isKept_117 (by decide) (fun c33 => ?_) (fun c33 => ?_)
                      · have hyp := q_pos c33 hyp
                        refine q_iconst (x := 1) rfl dX10_isKept_208 ?_
                        refine q_goto (tgt := 213) dX10_isKept_209 (by decide) ?_
                        exact q_iretH rfl rfl dX10_isKept_213 hyp
                      · have hyp := q_neg c33 hyp
                        refine q_aload_n 0 rfl dX10_isKept_120 ?_
                        refine q_bind hyp (fun x34 e35 hyp => ?_)
                        refine q_getL kF_X10_154 dX10_isKept_121 e35 ?_
                        refine q_ldc2 kK_X10_242 dX10_isKept_124 ?_
                        refine q_lcmp dX10_isKept_127 ?_
                        refine q_if_eq (tgt := 208) dX10_isKept_128 (by decide) (fun c36 => ?_) (fun c36 => ?_)
                        · have hyp := q_pos c36 hyp
                          refine q_iconst (x := 1) rfl dX10_isKept_208 ?_
                          refine q_goto (tgt := 213) dX10_isKept_209 (by decide) ?_
                          exact q_iretH rfl rfl dX10_isKept_213 hyp
                        · have hyp := q_neg c36 hyp
                          refine q_aload_n 0 rfl dX10_isKept_131 ?_
                          refine q_bind hyp (fun x37 e38 hyp => ?_)
                          refine q_getL kF_X10_154 dX10_isKept_132 e38 ?_
                          refine q_ldc2 kK_X10_244 dX10_isKept_135 ?_
                          refine q_lcmp dX10_isKept_138 ?_
                          refine q_if_eq (tgt := 208) dX10_isKept_139 (by decide) (fun c39 => ?_) (fun c39 => ?_)
                          · have hyp := q_pos c39 hyp
                            refine q_iconst (x := 1) rfl dX10_isKept_208 ?_
                            refine q_goto (tgt := 213) dX10_isKept_209 (by decide) ?_
                            exact q_iretH rfl rfl dX10_isKept_213 hyp
                          · have hyp := q_neg c39 hyp
                            refine q_aload_n 0 rfl dX10_isKept_142 ?_
                            refine q_bind hyp (fun x40 e41 hyp => ?_)
                            refine q_getL kF_X10_154 dX10_isKept_143 e41 ?_
                            refine q_ldc2 kK_X10_246 dX10_isKept_146 ?_
                            refine q_lcmp dX10_isKept_149 ?_
                            refine q_if_eq (tgt := 208) dX10_isKept_150 (by decide) (fun c42 => ?_) (fun c42 => ?_)
                            · have hyp := q_pos c42 hyp
                              refine q_iconst (x := 1) rfl dX10_isKept_208 ?_
                              refine q_goto (tgt := 213) dX10_isKept_209 (by decide) ?_
                              exact q_iretH rfl rfl dX10_isKept_213 hyp
                            · have hyp := q_neg c42 hyp
                              refine q_aload_n 0 rfl dX10_isKept_153 ?_
                              refine q_bind hyp (fun x43 e44 hyp => ?_)
                              refine q_getL kF_X10_154 dX10_isKept_154 e44 ?_
                              refine q_ldc2 kK_X10_248 dX10_isKept_157 ?_
                              refine q_lcmp dX10_isKept_160 ?_
                              refine q_if_eq (tgt := 208) dX10_isKept_161 (by decide) (fun c45 => ?_) (fun c45 => ?_)
                              · have hyp := q_pos c45 hyp
                                refine q_iconst (x := 1) rfl dX10_isKept_208 ?_
                                refine q_goto (tgt := 213) dX10_isKept_209 (by decide) ?_
                                exact q_iretH rfl rfl dX10_isKept_213 hyp
                              · have hyp := q_neg c45 hyp
                                refine q_aload_n 0 rfl dX10_isKept_164 ?_
                                refine q_bind hyp (fun x46 e47 hyp => ?_)
                                refine q_getL kF_X10_154 dX10_isKept_165 e47 ?_
                                refine q_ldc2 kK_X10_250 dX10_isKept_168 ?_
                                refine q_lcmp dX10_isKept_171 ?_
                                refine q_if_eq (tgt := 208) dX10_isKept_172 (by decide) (fun c48 => ?_) (fun c48 => ?_)
                                · have hyp := q_pos c48 hyp
                                  refine q_iconst (x := 1) rfl dX10_isKept_208 ?_
                                  refine q_goto (tgt := 213) dX10_isKept_209 (by decide) ?_
                                  exact q_iretH rfl rfl dX10_isKept_213 hyp
                                · have hyp := q_neg c48 hyp
                                  refine q_aload_n 0 rfl dX10_isKept_175 ?_
                                  refine q_bind hyp (fun x49 e50 hyp => ?_)
                                  refine q_getL kF_X10_154 dX10_isKept_176 e50 ?_
                                  refine q_ldc2 kK_X10_190 dX10_isKept_179 ?_
                                  refine q_lcmp dX10_isKept_182 ?_
                                  refine q_if_eq (tgt := 208) dX10_isKept_183 (by decide) (fun c51 => ?_) (fun c51 => ?_)
                                  · have hyp := q_pos c51 hyp
                                    refine q_iconst (x := 1) rfl dX10_isKept_208 ?_
                                    refine q_goto (tgt := 213) dX10_isKept_209 (by decide) ?_
                                    exact q_iretH rfl rfl dX10_isKept_213 hyp
                                  · have hyp := q_neg c51 hyp
                                    refine q_aload_n 0 rfl dX10_isKept_186 ?_
                                    refine q_bind hyp (fun x52 e53 hyp => ?_)
                                    refine q_getL kF_X10_154 dX10_isKept_187 e53 ?_
                                    refine q_ldc2 kK_X10_209 dX10_isKept_190 ?_
                                    refine q_lcmp dX10_isKept_193 ?_
                                    refine q_if_eq (tgt := 208) dX10_isKept_194 (by decide) (fun c54 => ?_) (fun c54 => ?_)
                                    · have hyp := q_pos c54 hyp
                                      refine q_iconst (x := 1) rfl dX10_isKept_208 ?_
                                      refine q_goto (tgt := 213) dX10_isKept_209 (by decide) ?_
                                      exact q_iretH rfl rfl dX10_isKept_213 hyp
                                    · have hyp := q_neg c54 hyp
                                      refine q_aload_n 0 rfl dX10_isKept_197 ?_
                                      refine q_bind hyp (fun x55 e56 hyp => ?_)
                                      refine q_getL kF_X10_154 dX10_isKept_198 e56 ?_
                                      refine q_ldc2 kK_X10_211 dX10_isKept_201 ?_
                                      refine q_lcmp dX10_isKept_204 ?_
                                      refine q_if_ne (tgt := 212) dX10_isKept_205 (by decide) (fun c57 => ?_) (fun c57 => ?_)
                                      · have hyp := q_neg c57 hyp
                                        refine q_iconst (x := 0) rfl dX10_isKept_212 ?_
                                        exact q_iretH rfl rfl dX10_isKept_213 hyp
                                      · have hyp := q_pos c57 hyp
                                        refine q_iconst (x := 1) rfl dX10_isKept_208 ?_
                                        refine q_goto (tgt := 213) dX10_isKept_209 (by decide) ?_
                                        exact q_iretH rfl rfl dX10_isKept_213 hyp
  · have hyp := q_neg c3 hyp
    refine q_iconst (x := 1) rfl dX10_isKept_8 ?_
    exact q_iretH rfl rfl dX10_isKept_9 hyp
theorem dX10_isWord_0 : decode cX10_isWord 0 = .ok (.aload_n 0, 1) := by decide +kernel
theorem dX10_isWord_1 : decode cX10_isWord 1 = .ok (.getfield 161, 3) := by decide +kernel
theorem dX10_isWord_4 : decode cX10_isWord 4 = .ok (.iconst 1, 1) := by decide +kernel
theorem dX10_isWord_5 : decode cX10_isWord 5 = .ok (.if_icmp .ne 16, 3) := by decide +kernel
theorem dX10_isWord_8 : decode cX10_isWord 8 = .ok (.aload_n 0, 1) := by decide +kernel
theorem dX10_isWord_9 : decode cX10_isWord 9 = .ok (.getfield 154, 3) := by decide +kernel
theorem dX10_isWord_12 : decode cX10_isWord 12 = .ok (.lload_n 1, 1) := by decide +kernel
theorem dX10_isWord_13 : decode cX10_isWord 13 = .ok (.lcmp, 1) := by decide +kernel
theorem dX10_isWord_14 : decode cX10_isWord 14 = .ok (.ifCond .ne 7, 3) := by decide +kernel
theorem dX10_isWord_17 : decode cX10_isWord 17 = .ok (.iconst 1, 1) := by decide +kernel
theorem dX10_isWord_18 : decode cX10_isWord 18 = .ok (.goto 4, 3) := by decide +kernel
theorem dX10_isWord_21 : decode cX10_isWord 21 = .ok (.iconst 0, 1) := by decide +kernel
theorem dX10_isWord_22 : decode cX10_isWord 22 = .ok (.ireturn, 1) := by decide +kernel
def fX10_isWord (v0 : Nat) (v1 : Int64) (h : qH) : Option (Int32 × qH) :=
  (isO h v0 10).bind fun _ =>
  (gI h v0 10 6).bind fun x1 =>
  if x1 = 1 then
  ((gL h v0 10 7).bind fun x4 =>
  if (lg_cmp x4 v1) = 0 then
  (some (1, h))
  else
  (some (0, h)))
  else
  (some (0, h))
theorem obX10_isWord {v0 : Nat} {v1 : Int64} {h : qH} {p : Int32 × qH} (hyp : fX10_isWord v0 v1 h = some p) : ∃ fs, h.1 v0 = some (.inr (10, fs)) := by
  unfold fX10_isWord at hyp
  exact q_bind hyp (fun _ e _ => isO_some e)
set_option maxHeartbeats 4000000 in
set_option maxRecDepth 100000 in
theorem okX10_isWord {l : Launch} {v0 : Nat} {v1 : Int64} {h : qH} {p : Int32 × qH} (hyp : fX10_isWord v0 v1 h = some p) : q_M l 1 yX10_isWord cX10_isWord 3 (some .boolean) [.ref v0, .long v1] h (some (.int p.1)) p.2 := by
  obtain ⟨r, h'⟩ := p
  unfold fX10_isWord at hyp
  refine q_bind hyp (fun _ _ hyp => ?_)
  refine q_M.of (by decide) (Nat.le_of_ble_eq_true rfl) ?_
  refine q_to (ls' := [(0, .ref v0), (1, .long v1)]) (st' := []) rfl rfl ?_
  refine q_aload_n 0 rfl dX10_isWord_0 ?_
  refine q_bind hyp (fun x1 e2 hyp => ?_)
  refine q_getI kF_X10_161 dX10_isWord_1 e2 ?_
  refine q_iconst (x := 1) rfl dX10_isWord_4 ?_
  refine q_icmp_ne (tgt := 21) dX10_isWord_5 (by decide) (fun c3 => ?_) (fun c3 => ?_)
  · have hyp := q_neg c3 hyp
    refine q_iconst (x := 0) rfl dX10_isWord_21 ?_
    exact q_iretH rfl rfl dX10_isWord_22 hyp
  · have hyp := q_pos c3 hyp
    refine q_aload_n 0 rfl dX10_isWord_8 ?_
    refine q_bind hyp (fun x4 e5 hyp => ?_)
    refine q_getL kF_X10_154 dX10_isWord_9 e5 ?_
    refine q_lload_n 1 rfl dX10_isWord_12 ?_
    refine q_lcmp dX10_isWord_13 ?_
    refine q_if_ne (tgt := 21) dX10_isWord_14 (by decide) (fun c6 => ?_) (fun c6 => ?_)
    · have hyp := q_neg c6 hyp
      refine q_iconst (x := 0) rfl dX10_isWord_21 ?_
      exact q_iretH rfl rfl dX10_isWord_22 hyp
    · have hyp := q_pos c6 hyp
      refine q_iconst (x := 1) rfl dX10_isWord_17 ?_
      refine q_goto (tgt := 22) dX10_isWord_18 (by decide) ?_
      exact q_iretH rfl rfl dX10_isWord_22 hyp
theorem dX10_judged_0 : decode cX10_judged 0 = .ok (.aload_n 0, 1) := by decide +kernel
theorem dX10_judged_1 : decode cX10_judged 1 = .ok (.iconst 0, 1) := by decide +kernel
theorem dX10_judged_2 : decode cX10_judged 2 = .ok (.putfield 136, 3) := by decide +kernel
theorem dX10_judged_5 : decode cX10_judged 5 = .ok (.iload_n 1, 1) := by decide +kernel
theorem dX10_judged_6 : decode cX10_judged 6 = .ok (.iconst 0, 1) := by decide +kernel
theorem dX10_judged_7 : decode cX10_judged 7 = .ok (.iconst 2, 1) := by decide +kernel
theorem dX10_judged_8 : decode cX10_judged 8 = .ok (.invokestatic 252, 3) := by decide +kernel
theorem dX10_judged_11 : decode cX10_judged 11 = .ok (.ifCond .ne 6, 3) := by decide +kernel
theorem dX10_judged_14 : decode cX10_judged 14 = .ok (.bipush (-2), 2) := by decide +kernel
theorem dX10_judged_16 : decode cX10_judged 16 = .ok (.ireturn, 1) := by decide +kernel
theorem dX10_judged_17 : decode cX10_judged 17 = .ok (.aload_n 0, 1) := by decide +kernel
theorem dX10_judged_18 : decode cX10_judged 18 = .ok (.getfield 99, 3) := by decide +kernel
theorem dX10_judged_21 : decode cX10_judged 21 = .ok (.iconst 0, 1) := by decide +kernel
theorem dX10_judged_22 : decode cX10_judged 22 = .ok (.aload_n 0, 1) := by decide +kernel
theorem dX10_judged_23 : decode cX10_judged 23 = .ok (.getfield 102, 3) := by decide +kernel
theorem dX10_judged_26 : decode cX10_judged 26 = .ok (.iconst 0, 1) := by decide +kernel
theorem dX10_judged_27 : decode cX10_judged 27 = .ok (.invokestatic 355, 3) := by decide +kernel
theorem dX10_judged_30 : decode cX10_judged 30 = .ok (.aload_n 0, 1) := by decide +kernel
theorem dX10_judged_31 : decode cX10_judged 31 = .ok (.invokevirtual 133, 3) := by decide +kernel
theorem dX10_judged_34 : decode cX10_judged 34 = .ok (.iconst (-1), 1) := by decide +kernel
theorem dX10_judged_35 : decode cX10_judged 35 = .ok (.istore_n 2, 1) := by decide +kernel
theorem dX10_judged_36 : decode cX10_judged 36 = .ok (.iconst (-1), 1) := by decide +kernel
theorem dX10_judged_37 : decode cX10_judged 37 = .ok (.istore_n 3, 1) := by decide +kernel
theorem dX10_judged_38 : decode cX10_judged 38 = .ok (.iconst 0, 1) := by decide +kernel
theorem dX10_judged_39 : decode cX10_judged 39 = .ok (.istore 4, 2) := by decide +kernel
theorem dX10_judged_41 : decode cX10_judged 41 = .ok (.iload 4, 2) := by decide +kernel
theorem dX10_judged_43 : decode cX10_judged 43 = .ok (.aload_n 0, 1) := by decide +kernel
theorem dX10_judged_44 : decode cX10_judged 44 = .ok (.getfield 78, 3) := by decide +kernel
theorem dX10_judged_47 : decode cX10_judged 47 = .ok (.iconst 0, 1) := by decide +kernel
theorem dX10_judged_48 : decode cX10_judged 48 = .ok (.iaload, 1) := by decide +kernel
theorem dX10_judged_49 : decode cX10_judged 49 = .ok (.if_icmp .ge 47, 3) := by decide +kernel
theorem dX10_judged_52 : decode cX10_judged 52 = .ok (.aload_n 0, 1) := by decide +kernel
theorem dX10_judged_53 : decode cX10_judged 53 = .ok (.iload 4, 2) := by decide +kernel
theorem dX10_judged_55 : decode cX10_judged 55 = .ok (.invokevirtual 374, 3) := by decide +kernel
theorem dX10_judged_58 : decode cX10_judged 58 = .ok (.ifCond .ne 10, 3) := by decide +kernel
theorem dX10_judged_61 : decode cX10_judged 61 = .ok (.iload_n 2, 1) := by decide +kernel
theorem dX10_judged_62 : decode cX10_judged 62 = .ok (.ifCond .ge 6, 3) := by decide +kernel
theorem dX10_judged_65 : decode cX10_judged 65 = .ok (.iload 4, 2) := by decide +kernel
theorem dX10_judged_67 : decode cX10_judged 67 = .ok (.istore_n 2, 1) := by decide +kernel
theorem dX10_judged_68 : decode cX10_judged 68 = .ok (.aload_n 0, 1) := by decide +kernel
theorem dX10_judged_69 : decode cX10_judged 69 = .ok (.aload_n 0, 1) := by decide +kernel
theorem dX10_judged_70 : decode cX10_judged 70 = .ok (.invokevirtual 349, 3) := by decide +kernel
theorem dX10_judged_73 : decode cX10_judged 73 = .ok (.invokevirtual 352, 3) := by decide +kernel
theorem dX10_judged_76 : decode cX10_judged 76 = .ok (.aload_n 0, 1) := by decide +kernel
theorem dX10_judged_77 : decode cX10_judged 77 = .ok (.invokevirtual 377, 3) := by decide +kernel
theorem dX10_judged_80 : decode cX10_judged 80 = .ok (.if_icmp .ne 10, 3) := by decide +kernel
theorem dX10_judged_83 : decode cX10_judged 83 = .ok (.iload_n 3, 1) := by decide +kernel
theorem dX10_judged_84 : decode cX10_judged 84 = .ok (.ifCond .ge 6, 3) := by decide +kernel
theorem dX10_judged_87 : decode cX10_judged 87 = .ok (.iload 4, 2) := by decide +kernel
theorem dX10_judged_89 : decode cX10_judged 89 = .ok (.istore_n 3, 1) := by decide +kernel
theorem dX10_judged_90 : decode cX10_judged 90 = .ok (.iinc 4 1, 3) := by decide +kernel
theorem dX10_judged_93 : decode cX10_judged 93 = .ok (.goto (-52), 3) := by decide +kernel
theorem dX10_judged_96 : decode cX10_judged 96 = .ok (.aload_n 0, 1) := by decide +kernel
theorem dX10_judged_97 : decode cX10_judged 97 = .ok (.invokevirtual 349, 3) := by decide +kernel
theorem dX10_judged_100 : decode cX10_judged 100 = .ok (.invokestatic 371, 3) := by decide +kernel
theorem dX10_judged_103 : decode cX10_judged 103 = .ok (.istore 4, 2) := by decide +kernel
theorem dX10_judged_105 : decode cX10_judged 105 = .ok (.aload_n 0, 1) := by decide +kernel
theorem dX10_judged_106 : decode cX10_judged 106 = .ok (.getfield 102, 3) := by decide +kernel
theorem dX10_judged_109 : decode cX10_judged 109 = .ok (.iconst 0, 1) := by decide +kernel
theorem dX10_judged_110 : decode cX10_judged 110 = .ok (.aload_n 0, 1) := by decide +kernel
theorem dX10_judged_111 : decode cX10_judged 111 = .ok (.getfield 99, 3) := by decide +kernel
theorem dX10_judged_114 : decode cX10_judged 114 = .ok (.iconst 0, 1) := by decide +kernel
theorem dX10_judged_115 : decode cX10_judged 115 = .ok (.invokestatic 355, 3) := by decide +kernel
theorem dX10_judged_118 : decode cX10_judged 118 = .ok (.iload_n 1, 1) := by decide +kernel
theorem dX10_judged_119 : decode cX10_judged 119 = .ok (.ifCond .ne 7, 3) := by decide +kernel
theorem dX10_judged_122 : decode cX10_judged 122 = .ok (.iload_n 2, 1) := by decide +kernel
theorem dX10_judged_123 : decode cX10_judged 123 = .ok (.goto 14, 3) := by decide +kernel
theorem dX10_judged_126 : decode cX10_judged 126 = .ok (.iload_n 1, 1) := by decide +kernel
theorem dX10_judged_127 : decode cX10_judged 127 = .ok (.iconst 1, 1) := by decide +kernel
theorem dX10_judged_128 : decode cX10_judged 128 = .ok (.if_icmp .ne 7, 3) := by decide +kernel
theorem dX10_judged_131 : decode cX10_judged 131 = .ok (.iload_n 3, 1) := by decide +kernel
theorem dX10_judged_132 : decode cX10_judged 132 = .ok (.goto 5, 3) := by decide +kernel
theorem dX10_judged_135 : decode cX10_judged 135 = .ok (.iload 4, 2) := by decide +kernel
theorem dX10_judged_137 : decode cX10_judged 137 = .ok (.ireturn, 1) := by decide +kernel
def fX10_judged_b68 (n : Nat) (K41 : Nat → Int32 → Int32 → Int32 → Int32 → qH → Option (Int32 × qH)) (v0 : Nat) (v1 : Int32) (v2 : Int32) (v3 : Int32) (v4 : Int32) (h : qH) : Option (Int32 × qH) :=
  (fX10_meantNow n v0 h).bind fun p1 =>
  (fX10_rightBy n v0 p1.1 p1.2).bind fun p2 =>
  (fX10_every v0 p2.2).bind fun p3 =>
  if p2.1 = p3.1 then
  (if 0 ≤ v3 then
  (K41 v0 v1 v2 v3 (v4 + 1) p3.2)
  else
  (K41 v0 v1 v2 v4 (v4 + 1) p3.2))
  else
  (K41 v0 v1 v2 v3 (v4 + 1) p3.2)
set_option maxHeartbeats 4000000 in
set_option maxRecDepth 100000 in
theorem okX10_judged_b68 {l : Launch} {n : Nat} {K41 : Nat → Int32 → Int32 → Int32 → Int32 → qH → Option (Int32 × qH)} {v0 : Nat} {v1 : Int32} {v2 : Int32} {v3 : Int32} {v4 : Int32} {h : qH} {r : Int32} {h' : qH} (hK41 : ∀ (v0 : Nat) (v1 : Int32) (v2 : Int32) (v3 : Int32) (v4 : Int32) (h : qH), K41 v0 v1 v2 v3 v4 h = some (r, h') → q_W l 7 yX10_judged cX10_judged 5 (some .int) (some (.int r)) h' 41 [(0, .ref v0), (1, .int v1), (2, .int v2), (3, .int v3), (4, .int v4)] [] h) (hyp : fX10_judged_b68 n K41 v0 v1 v2 v3 v4 h = some (r, h')) : q_W l 7 yX10_judged cX10_judged 5 (some .int) (some (.int r)) h' 68 [(0, .ref v0), (1, .int v1), (2, .int v2), (3, .int v3), (4, .int v4)] [] h := by
  unfold fX10_judged_b68 at hyp
  refine q_aload_n 0 rfl dX10_judged_68 ?_
  refine q_aload_n 0 rfl dX10_judged_69 ?_
  refine q_bind hyp (fun p1 e8 hyp => ?_)
  refine q_callV (as := []) (st := [.ref v0]) kY_X10_meantNow kL_X10_349 (okX10_meantNow (l := l) e8) (by decide) rfl (obX10_meantNow e8) (Nat.le_of_ble_eq_true rfl) dX10_judged_70 ?_
  refine q_to (ls' := [(0, .ref v0), (1, .int v1), (2, .int v2), (3, .int v3), (4, .int v4)]) (st' := [.int p1.1, .ref v0]) rfl rfl ?_
  refine q_bind hyp (fun p2 e7 hyp => ?_)
  refine q_callV (as := [.int p1.1]) (st := []) kY_X10_rightBy kL_X10_352 (okX10_rightBy (l := l) e7) (by decide) rfl (obX10_rightBy e7) (Nat.le_of_ble_eq_true rfl) dX10_judged_73 ?_
  refine q_to (ls' := [(0, .ref v0), (1, .int v1), (2, .int v2), (3, .int v3), (4, .int v4)]) (st' := [.int p2.1]) rfl rfl ?_
  refine q_aload_n 0 rfl dX10_judged_76 ?_
  refine q_bind hyp (fun p3 e6 hyp => ?_)
  refine q_callV (as := []) (st := [.int p2.1]) kY_X10_every kL_X10_377 (okX10_every (l := l) e6) (by decide) rfl (obX10_every e6) (Nat.le_of_ble_eq_true rfl) dX10_judged_77 ?_
  refine q_to (ls' := [(0, .ref v0), (1, .int v1), (2, .int v2), (3, .int v3), (4, .int v4)]) (st' := [.int p3.1, .int p2.1]) rfl rfl ?_
  refine q_icmp_ne (tgt := 90) dX10_judged_80 (by decide) (fun c4 => ?_) (fun c4 => ?_)
  · have hyp := q_neg c4 hyp
    refine q_iinc (ls' := [(4, .int (v4 + 1)), (0, .ref v0), (1, .int v1), (2, .int v2), (3, .int v3)]) 4 rfl rfl (by decide) rfl dX10_judged_90 ?_
    refine q_goto (tgt := 41) dX10_judged_93 (by decide) ?_
    exact q_sub [1, 2, 3, 4, 0] rfl (hK41 v0 v1 v2 v3 (v4 + 1) p3.2 hyp)
  · have hyp := q_pos c4 hyp
    refine q_iload_n 3 rfl dX10_judged_83 ?_
    refine q_if_ge (tgt := 90) dX10_judged_84 (by decide) (fun c5 => ?_) (fun c5 => ?_)
    · have hyp := q_pos c5 hyp
      refine q_iinc (ls' := [(4, .int (v4 + 1)), (0, .ref v0), (1, .int v1), (2, .int v2), (3, .int v3)]) 4 rfl rfl (by decide) rfl dX10_judged_90 ?_
      refine q_goto (tgt := 41) dX10_judged_93 (by decide) ?_
      exact q_sub [1, 2, 3, 4, 0] rfl (hK41 v0 v1 v2 v3 (v4 + 1) p3.2 hyp)
    · have hyp := q_neg c5 hyp
      refine q_iload 4 rfl dX10_judged_87 ?_
      refine q_istore_n (ls' := [(3, .int v4), (0, .ref v0), (1, .int v1), (2, .int v2), (4, .int v4)]) (by decide) rfl dX10_judged_89 ?_
      refine q_iinc (ls' := [(4, .int (v4 + 1)), (3, .int v4), (0, .ref v0), (1, .int v1), (2, .int v2)]) 4 rfl rfl (by decide) rfl dX10_judged_90 ?_
      refine q_goto (tgt := 41) dX10_judged_93 (by decide) ?_
      exact q_sub [2, 3, 4, 1, 0] rfl (hK41 v0 v1 v2 v4 (v4 + 1) p3.2 hyp)
def fX10_judged_b41 (n : Nat) : Nat → Nat → Int32 → Int32 → Int32 → Int32 → qH → Option (Int32 × qH)
  | 0, _, _, _, _, _, _ => none
  | w + 1, v0, v1, v2, v3, v4, h =>
    (gR h v0 10 34).bind fun x1 =>
    (aI .int h x1 0).bind fun x3 =>
    if x3 ≤ v4 then
    ((fX10_meantNow n v0 h).bind fun p6 =>
    (fX10_bits n p6.1 p6.2).bind fun p7 =>
    (gR p7.2 v0 10 42).bind fun x8 =>
    (gR p7.2 v0 10 41).bind fun x10 =>
    (fX10_copies n x8 0 x10 0 p7.2).bind fun h12 =>
    if v1 = 0 then
    (some (v2, h12))
    else
    (if v1 = 1 then
    (some (v3, h12))
    else
    (some (p7.1, h12))))
    else
    ((fX10_isDone n v0 v4 h).bind fun p18 =>
    if p18.1 = 0 then
    (if 0 ≤ v2 then
    (fX10_judged_b68 n (fX10_judged_b41 n w) v0 v1 v2 v3 v4 p18.2)
    else
    (fX10_judged_b68 n (fX10_judged_b41 n w) v0 v1 v4 v3 v4 p18.2))
    else
    (fX10_judged_b68 n (fX10_judged_b41 n w) v0 v1 v2 v3 v4 p18.2))
set_option maxHeartbeats 4000000 in
set_option maxRecDepth 100000 in
theorem okX10_judged_b41 {l : Launch} {n : Nat} {r : Int32} {h' : qH} : ∀ (w : Nat) (v0 : Nat) (v1 : Int32) (v2 : Int32) (v3 : Int32) (v4 : Int32) (h : qH), fX10_judged_b41 n w v0 v1 v2 v3 v4 h = some (r, h') → q_W l 7 yX10_judged cX10_judged 5 (some .int) (some (.int r)) h' 41 [(0, .ref v0), (1, .int v1), (2, .int v2), (3, .int v3), (4, .int v4)] [] h := by
  intro w
  induction w with
  | zero => intro v0 v1 v2 v3 v4 h hyp; cases hyp
  | succ w ih =>
    intro v0 v1 v2 v3 v4 h hyp
    unfold fX10_judged_b41 at hyp
    refine q_iload 4 rfl dX10_judged_41 ?_
    refine q_aload_n 0 rfl dX10_judged_43 ?_
    refine q_bind hyp (fun x1 e2 hyp => ?_)
    refine q_getR kF_X10_78 dX10_judged_44 e2 ?_
    refine q_iconst (x := 0) rfl dX10_judged_47 ?_
    refine q_bind hyp (fun x3 e4 hyp => ?_)
    refine q_iald dX10_judged_48 e4 ?_
    refine q_icmp_ge (tgt := 96) dX10_judged_49 (by decide) (fun c5 => ?_) (fun c5 => ?_)
    · have hyp := q_pos c5 hyp
      refine q_aload_n 0 rfl dX10_judged_96 ?_
      refine q_bind hyp (fun p6 e17 hyp => ?_)
      refine q_callV (as := []) (st := []) kY_X10_meantNow kL_X10_349 (okX10_meantNow (l := l) e17) (by decide) rfl (obX10_meantNow e17) (Nat.le_of_ble_eq_true rfl) dX10_judged_97 ?_
      refine q_to (ls' := [(0, .ref v0), (1, .int v1), (2, .int v2), (3, .int v3), (4, .int v4)]) (st' := [.int p6.1]) rfl rfl ?_
      refine q_bind hyp (fun p7 e16 hyp => ?_)
      refine q_callS (as := [.int p6.1]) (st := []) kY_X10_bits kS_X10_bits kL_X10_371 (okX10_bits (l := l) e16) (by decide) rfl (Nat.le_of_ble_eq_true rfl) dX10_judged_100 ?_
      refine q_to (ls' := [(0, .ref v0), (1, .int v1), (2, .int v2), (3, .int v3), (4, .int v4)]) (st' := [.int p7.1]) rfl rfl ?_
      refine q_istore (ls' := [(4, .int p7.1), (0, .ref v0), (1, .int v1), (2, .int v2), (3, .int v3)]) (by decide) rfl dX10_judged_103 ?_
      refine q_aload_n 1 rfl dX10_judged_105 ?_
      refine q_bind hyp (fun x8 e9 hyp => ?_)
      refine q_getR kF_X10_102 dX10_judged_106 e9 ?_
      refine q_iconst (x := 0) rfl dX10_judged_109 ?_
      refine q_aload_n 1 rfl dX10_judged_110 ?_
      refine q_bind hyp (fun x10 e11 hyp => ?_)
      refine q_getR kF_X10_99 dX10_judged_111 e11 ?_
      refine q_iconst (x := 0) rfl dX10_judged_114 ?_
      refine q_bind hyp (fun h12 e15 hyp => ?_)
      refine q_callS (as := [.ref x8, .int 0, .ref x10, .int 0]) (st := []) kY_X10_copies kS_X10_copies kL_X10_355 (okX10_copies (l := l) e15) (by decide) rfl (Nat.le_of_ble_eq_true rfl) dX10_judged_115 ?_
      refine q_to (ls' := [(4, .int p7.1), (0, .ref v0), (1, .int v1), (2, .int v2), (3, .int v3)]) (st' := []) rfl rfl ?_
      refine q_iload_n 2 rfl dX10_judged_118 ?_
      refine q_if_ne (tgt := 126) dX10_judged_119 (by decide) (fun c13 => ?_) (fun c13 => ?_)
      · have hyp := q_neg c13 hyp
        refine q_iload_n 2 rfl dX10_judged_126 ?_
        refine q_iconst (x := 1) rfl dX10_judged_127 ?_
        refine q_icmp_ne (tgt := 135) dX10_judged_128 (by decide) (fun c14 => ?_) (fun c14 => ?_)
        · have hyp := q_neg c14 hyp
          refine q_iload 0 rfl dX10_judged_135 ?_
          exact q_iretH rfl rfl dX10_judged_137 hyp
        · have hyp := q_pos c14 hyp
          refine q_iload_n 4 rfl dX10_judged_131 ?_
          refine q_goto (tgt := 137) dX10_judged_132 (by decide) ?_
          exact q_iretH rfl rfl dX10_judged_137 hyp
      · have hyp := q_pos c13 hyp
        refine q_iload_n 3 rfl dX10_judged_122 ?_
        refine q_goto (tgt := 137) dX10_judged_123 (by decide) ?_
        exact q_iretH rfl rfl dX10_judged_137 hyp
    · have hyp := q_neg c5 hyp
      refine q_aload_n 0 rfl dX10_judged_52 ?_
      refine q_iload 4 rfl dX10_judged_53 ?_
      refine q_bind hyp (fun p18 e21 hyp => ?_)
      refine q_callV (as := [.int v4]) (st := []) kY_X10_isDone kL_X10_374 (okX10_isDone (l := l) e21) (by decide) rfl (obX10_isDone e21) (Nat.le_of_ble_eq_true rfl) dX10_judged_55 ?_
      refine q_to (ls' := [(0, .ref v0), (1, .int v1), (2, .int v2), (3, .int v3), (4, .int v4)]) (st' := [.int p18.1]) rfl rfl ?_
      refine q_if_ne (tgt := 68) dX10_judged_58 (by decide) (fun c19 => ?_) (fun c19 => ?_)
      · have hyp := q_neg c19 hyp
        exact q_sub [0, 1, 2, 3, 4] rfl (okX10_judged_b68 ih hyp)
      · have hyp := q_pos c19 hyp
        refine q_iload_n 2 rfl dX10_judged_61 ?_
        refine q_if_ge (tgt := 68) dX10_judged_62 (by decide) (fun c20 => ?_) (fun c20 => ?_)
        · have hyp := q_pos c20 hyp
          exact q_sub [0, 1, 2, 3, 4] rfl (okX10_judged_b68 ih hyp)
        · have hyp := q_neg c20 hyp
          refine q_iload 4 rfl dX10_judged_65 ?_
          refine q_istore_n (ls' := [(2, .int v4), (0, .ref v0), (1, .int v1), (3, .int v3), (4, .int v4)]) (by decide) rfl dX10_judged_67 ?_
          exact q_sub [1, 2, 0, 3, 4] rfl (okX10_judged_b68 ih hyp)
def fX10_judged (n : Nat) (v0 : Nat) (v1 : Int32) (h : qH) : Option (Int32 × qH) :=
  (isO h v0 10).bind fun _ =>
  (pF h v0 10 0 (.int 0)).bind fun h1 =>
  (fX10_within v1 0 2 h1).bind fun p3 =>
  if p3.1 = 0 then
  (some ((-2), p3.2))
  else
  ((gR p3.2 v0 10 41).bind fun x5 =>
  (gR p3.2 v0 10 42).bind fun x7 =>
  (fX10_copies n x5 0 x7 0 p3.2).bind fun h9 =>
  (fX10_fresh0 n v0 h9).bind fun h10 =>
  fX10_judged_b41 n n v0 v1 ((-1)) ((-1)) 0 h10)
theorem obX10_judged {n : Nat} {v0 : Nat} {v1 : Int32} {h : qH} {p : Int32 × qH} (hyp : fX10_judged n v0 v1 h = some p) : ∃ fs, h.1 v0 = some (.inr (10, fs)) := by
  unfold fX10_judged at hyp
  exact q_bind hyp (fun _ e _ => isO_some e)
set_option maxHeartbeats 4000000 in
set_option maxRecDepth 100000 in
theorem okX10_judged {l : Launch} {n : Nat} {v0 : Nat} {v1 : Int32} {h : qH} {p : Int32 × qH} (hyp : fX10_judged n v0 v1 h = some p) : q_M l 7 yX10_judged cX10_judged 5 (some .int) [.ref v0, .int v1] h (some (.int p.1)) p.2 := by
  obtain ⟨r, h'⟩ := p
  unfold fX10_judged at hyp
  refine q_bind hyp (fun _ _ hyp => ?_)
  refine q_M.of (by decide) (Nat.le_of_ble_eq_true rfl) ?_
  refine q_to (ls' := [(0, .ref v0), (1, .int v1)]) (st' := []) rfl rfl ?_
  refine q_aload_n 0 rfl dX10_judged_0 ?_
  refine q_iconst (x := 0) rfl dX10_judged_1 ?_
  refine q_bind hyp (fun h1 e2 hyp => ?_)
  refine q_putF kF_X10_136 (fun _ => ⟨rfl, rfl⟩) dX10_judged_2 e2 ?_
  refine q_iload_n 1 rfl dX10_judged_5 ?_
  refine q_iconst (x := 0) rfl dX10_judged_6 ?_
  refine q_iconst (x := 2) rfl dX10_judged_7 ?_
  refine q_bind hyp (fun p3 e13 hyp => ?_)
  refine q_callS (as := [.int v1, .int 0, .int 2]) (st := []) kY_X10_within kS_X10_within kL_X10_252 (okX10_within (l := l) e13) (by decide) rfl (Nat.le_of_ble_eq_true rfl) dX10_judged_8 ?_
  refine q_to (ls' := [(0, .ref v0), (1, .int v1)]) (st' := [.int p3.1]) rfl rfl ?_
  refine q_if_ne (tgt := 17) dX10_judged_11 (by decide) (fun c4 => ?_) (fun c4 => ?_)
  · have hyp := q_neg c4 hyp
    refine q_aload_n 0 rfl dX10_judged_17 ?_
    refine q_bind hyp (fun x5 e6 hyp => ?_)
    refine q_getR kF_X10_99 dX10_judged_18 e6 ?_
    refine q_iconst (x := 0) rfl dX10_judged_21 ?_
    refine q_aload_n 0 rfl dX10_judged_22 ?_
    refine q_bind hyp (fun x7 e8 hyp => ?_)
    refine q_getR kF_X10_102 dX10_judged_23 e8 ?_
    refine q_iconst (x := 0) rfl dX10_judged_26 ?_
    refine q_bind hyp (fun h9 e12 hyp => ?_)
    refine q_callS (as := [.ref x5, .int 0, .ref x7, .int 0]) (st := []) kY_X10_copies kS_X10_copies kL_X10_355 (okX10_copies (l := l) e12) (by decide) rfl (Nat.le_of_ble_eq_true rfl) dX10_judged_27 ?_
    refine q_to (ls' := [(0, .ref v0), (1, .int v1)]) (st' := []) rfl rfl ?_
    refine q_aload_n 0 rfl dX10_judged_30 ?_
    refine q_bind hyp (fun h10 e11 hyp => ?_)
    refine q_callV (as := []) (st := []) kY_X10_fresh0 kL_X10_133 (okX10_fresh0 (l := l) e11) (by decide) rfl (obX10_fresh0 e11) (Nat.le_of_ble_eq_true rfl) dX10_judged_31 ?_
    refine q_to (ls' := [(0, .ref v0), (1, .int v1)]) (st' := []) rfl rfl ?_
    refine q_iconst (x := (-1)) rfl dX10_judged_34 ?_
    refine q_istore_n (ls' := [(2, .int ((-1))), (0, .ref v0), (1, .int v1)]) (by decide) rfl dX10_judged_35 ?_
    refine q_iconst (x := (-1)) rfl dX10_judged_36 ?_
    refine q_istore_n (ls' := [(3, .int ((-1))), (2, .int ((-1))), (0, .ref v0), (1, .int v1)]) (by decide) rfl dX10_judged_37 ?_
    refine q_iconst (x := 0) rfl dX10_judged_38 ?_
    refine q_istore (ls' := [(4, .int 0), (3, .int ((-1))), (2, .int ((-1))), (0, .ref v0), (1, .int v1)]) (by decide) rfl dX10_judged_39 ?_
    exact q_sub [3, 4, 2, 1, 0] rfl (okX10_judged_b41 _ v0 v1 ((-1)) ((-1)) 0 h10 hyp)
  · have hyp := q_pos c4 hyp
    refine q_bipush (x := (-2)) (by decide) dX10_judged_14 ?_
    exact q_iretH rfl rfl dX10_judged_16 hyp
