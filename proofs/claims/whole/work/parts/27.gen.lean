/-! Functions over the abstract heap, and that the machine computes them (written by gen.py). -/
theorem dX10_lost_0 : decode cX10_lost 0 = .ok (.aload_n 0, 1) := by decide +kernel
theorem dX10_lost_1 : decode cX10_lost 1 = .ok (.iconst 0, 1) := by decide +kernel
theorem dX10_lost_2 : decode cX10_lost 2 = .ok (.putfield 136, 3) := by decide +kernel
theorem dX10_lost_5 : decode cX10_lost 5 = .ok (.iconst 0, 1) := by decide +kernel
theorem dX10_lost_6 : decode cX10_lost 6 = .ok (.istore_n 1, 1) := by decide +kernel
theorem dX10_lost_7 : decode cX10_lost 7 = .ok (.iconst 0, 1) := by decide +kernel
theorem dX10_lost_8 : decode cX10_lost 8 = .ok (.istore_n 2, 1) := by decide +kernel
theorem dX10_lost_9 : decode cX10_lost 9 = .ok (.iload_n 2, 1) := by decide +kernel
theorem dX10_lost_10 : decode cX10_lost 10 = .ok (.aload_n 0, 1) := by decide +kernel
theorem dX10_lost_11 : decode cX10_lost 11 = .ok (.getfield 13, 3) := by decide +kernel
theorem dX10_lost_14 : decode cX10_lost 14 = .ok (.iconst 0, 1) := by decide +kernel
theorem dX10_lost_15 : decode cX10_lost 15 = .ok (.iaload, 1) := by decide +kernel
theorem dX10_lost_16 : decode cX10_lost 16 = .ok (.if_icmp .ge 27, 3) := by decide +kernel
theorem dX10_lost_19 : decode cX10_lost 19 = .ok (.iload_n 1, 1) := by decide +kernel
theorem dX10_lost_20 : decode cX10_lost 20 = .ok (.aload_n 0, 1) := by decide +kernel
theorem dX10_lost_21 : decode cX10_lost 21 = .ok (.iload_n 2, 1) := by decide +kernel
theorem dX10_lost_22 : decode cX10_lost 22 = .ok (.invokevirtual 387, 3) := by decide +kernel
theorem dX10_lost_25 : decode cX10_lost 25 = .ok (.ifCond .ge 9, 3) := by decide +kernel
theorem dX10_lost_28 : decode cX10_lost 28 = .ok (.iconst 1, 1) := by decide +kernel
theorem dX10_lost_29 : decode cX10_lost 29 = .ok (.iload_n 2, 1) := by decide +kernel
theorem dX10_lost_30 : decode cX10_lost 30 = .ok (.ishl, 1) := by decide +kernel
theorem dX10_lost_31 : decode cX10_lost 31 = .ok (.goto 4, 3) := by decide +kernel
theorem dX10_lost_34 : decode cX10_lost 34 = .ok (.iconst 0, 1) := by decide +kernel
theorem dX10_lost_35 : decode cX10_lost 35 = .ok (.ior, 1) := by decide +kernel
theorem dX10_lost_36 : decode cX10_lost 36 = .ok (.istore_n 1, 1) := by decide +kernel
theorem dX10_lost_37 : decode cX10_lost 37 = .ok (.iinc 2 1, 3) := by decide +kernel
theorem dX10_lost_40 : decode cX10_lost 40 = .ok (.goto (-31), 3) := by decide +kernel
theorem dX10_lost_43 : decode cX10_lost 43 = .ok (.iload_n 1, 1) := by decide +kernel
theorem dX10_lost_44 : decode cX10_lost 44 = .ok (.ireturn, 1) := by decide +kernel
def fX10_lost_b9 (n : Nat) : Nat → Nat → Int32 → Int32 → qH → Option (Int32 × qH)
  | 0, _, _, _, _ => none
  | w + 1, v0, v1, v2, h =>
    (gR h v0 10 10).bind fun x1 =>
    (aI .int h x1 0).bind fun x3 =>
    if x3 ≤ v2 then
    (some (v1, h))
    else
    ((fX10_cheapBy n v0 v2 h).bind fun p6 =>
    if 0 ≤ p6.1 then
    (fX10_lost_b9 n w v0 (v1 ||| 0) (v2 + 1) p6.2)
    else
    (fX10_lost_b9 n w v0 (v1 ||| ((1 : Int32) <<< (v2 &&& 31))) (v2 + 1) p6.2))
set_option maxHeartbeats 4000000 in
set_option maxRecDepth 100000 in
theorem okX10_lost_b9 {l : Launch} {n : Nat} {r : Int32} {h' : qH} : ∀ (w : Nat) (v0 : Nat) (v1 : Int32) (v2 : Int32) (h : qH), fX10_lost_b9 n w v0 v1 v2 h = some (r, h') → q_W l 8 yX10_lost cX10_lost 3 (some .int) (some (.int r)) h' 9 [(0, .ref v0), (1, .int v1), (2, .int v2)] [] h := by
  intro w
  induction w with
  | zero => intro v0 v1 v2 h hyp; cases hyp
  | succ w ih =>
    intro v0 v1 v2 h hyp
    unfold fX10_lost_b9 at hyp
    refine q_iload_n 2 rfl dX10_lost_9 ?_
    refine q_aload_n 0 rfl dX10_lost_10 ?_
    refine q_bind hyp (fun x1 e2 hyp => ?_)
    refine q_getR kF_X10_13 dX10_lost_11 e2 ?_
    refine q_iconst (x := 0) rfl dX10_lost_14 ?_
    refine q_bind hyp (fun x3 e4 hyp => ?_)
    refine q_iald dX10_lost_15 e4 ?_
    refine q_icmp_ge (tgt := 43) dX10_lost_16 (by decide) (fun c5 => ?_) (fun c5 => ?_)
    · have hyp := q_pos c5 hyp
      refine q_iload_n 1 rfl dX10_lost_43 ?_
      exact q_iretH rfl rfl dX10_lost_44 hyp
    · have hyp := q_neg c5 hyp
      refine q_iload_n 1 rfl dX10_lost_19 ?_
      refine q_aload_n 0 rfl dX10_lost_20 ?_
      refine q_iload_n 2 rfl dX10_lost_21 ?_
      refine q_bind hyp (fun p6 e8 hyp => ?_)
      refine q_callV (as := [.int v2]) (st := [.int v1]) kY_X10_cheapBy kL_X10_387 (okX10_cheapBy (l := l) e8) (by decide) rfl (obX10_cheapBy e8) (Nat.le_of_ble_eq_true rfl) dX10_lost_22 ?_
      refine q_to (ls' := [(0, .ref v0), (1, .int v1), (2, .int v2)]) (st' := [.int p6.1, .int v1]) rfl rfl ?_
      refine q_if_ge (tgt := 34) dX10_lost_25 (by decide) (fun c7 => ?_) (fun c7 => ?_)
      · have hyp := q_pos c7 hyp
        refine q_iconst (x := 0) rfl dX10_lost_34 ?_
        refine q_ior dX10_lost_35 ?_
        refine q_istore_n (ls' := [(1, .int (v1 ||| 0)), (0, .ref v0), (2, .int v2)]) (by decide) rfl dX10_lost_36 ?_
        refine q_iinc (ls' := [(2, .int (v2 + 1)), (1, .int (v1 ||| 0)), (0, .ref v0)]) 2 rfl rfl (by decide) rfl dX10_lost_37 ?_
        refine q_goto (tgt := 9) dX10_lost_40 (by decide) ?_
        exact q_sub [2, 1, 0] rfl (ih v0 (v1 ||| 0) (v2 + 1) p6.2 hyp)
      · have hyp := q_neg c7 hyp
        refine q_iconst (x := 1) rfl dX10_lost_28 ?_
        refine q_iload_n 2 rfl dX10_lost_29 ?_
        refine q_ishl dX10_lost_30 ?_
        refine q_goto (tgt := 35) dX10_lost_31 (by decide) ?_
        refine q_ior dX10_lost_35 ?_
        refine q_istore_n (ls' := [(1, .int (v1 ||| ((1 : Int32) <<< (v2 &&& 31)))), (0, .ref v0), (2, .int v2)]) (by decide) rfl dX10_lost_36 ?_
        refine q_iinc (ls' := [(2, .int (v2 + 1)), (1, .int (v1 ||| ((1 : Int32) <<< (v2 &&& 31)))), (0, .ref v0)]) 2 rfl rfl (by decide) rfl dX10_lost_37 ?_
        refine q_goto (tgt := 9) dX10_lost_40 (by decide) ?_
        exact q_sub [2, 1, 0] rfl (ih v0 (v1 ||| ((1 : Int32) <<< (v2 &&& 31))) (v2 + 1) p6.2 hyp)
def fX10_lost (n : Nat) (v0 : Nat) (h : qH) : Option (Int32 × qH) :=
  (isO h v0 10).bind fun _ =>
  (pF h v0 10 0 (.int 0)).bind fun h1 =>
  fX10_lost_b9 n n v0 0 0 h1
theorem obX10_lost {n : Nat} {v0 : Nat} {h : qH} {p : Int32 × qH} (hyp : fX10_lost n v0 h = some p) : ∃ fs, h.1 v0 = some (.inr (10, fs)) := by
  unfold fX10_lost at hyp
  exact q_bind hyp (fun _ e _ => isO_some e)
set_option maxHeartbeats 4000000 in
set_option maxRecDepth 100000 in
theorem okX10_lost {l : Launch} {n : Nat} {v0 : Nat} {h : qH} {p : Int32 × qH} (hyp : fX10_lost n v0 h = some p) : q_M l 8 yX10_lost cX10_lost 3 (some .int) [.ref v0] h (some (.int p.1)) p.2 := by
  obtain ⟨r, h'⟩ := p
  unfold fX10_lost at hyp
  refine q_bind hyp (fun _ _ hyp => ?_)
  refine q_M.of (by decide) (Nat.le_of_ble_eq_true rfl) ?_
  refine q_to (ls' := [(0, .ref v0)]) (st' := []) rfl rfl ?_
  refine q_aload_n 0 rfl dX10_lost_0 ?_
  refine q_iconst (x := 0) rfl dX10_lost_1 ?_
  refine q_bind hyp (fun h1 e2 hyp => ?_)
  refine q_putF kF_X10_136 (fun _ => ⟨rfl, rfl⟩) dX10_lost_2 e2 ?_
  refine q_iconst (x := 0) rfl dX10_lost_5 ?_
  refine q_istore_n (ls' := [(1, .int 0), (0, .ref v0)]) (by decide) rfl dX10_lost_6 ?_
  refine q_iconst (x := 0) rfl dX10_lost_7 ?_
  refine q_istore_n (ls' := [(2, .int 0), (1, .int 0), (0, .ref v0)]) (by decide) rfl dX10_lost_8 ?_
  exact q_sub [2, 1, 0] rfl (okX10_lost_b9 _ v0 0 0 h1 hyp)
theorem dX10_mark_0 : decode cX10_mark 0 = .ok (.aload_n 0, 1) := by decide +kernel
theorem dX10_mark_1 : decode cX10_mark 1 = .ok (.iconst 0, 1) := by decide +kernel
theorem dX10_mark_2 : decode cX10_mark 2 = .ok (.putfield 136, 3) := by decide +kernel
theorem dX10_mark_5 : decode cX10_mark 5 = .ok (.iload_n 1, 1) := by decide +kernel
theorem dX10_mark_6 : decode cX10_mark 6 = .ok (.iconst 0, 1) := by decide +kernel
theorem dX10_mark_7 : decode cX10_mark 7 = .ok (.iconst 3, 1) := by decide +kernel
theorem dX10_mark_8 : decode cX10_mark 8 = .ok (.invokestatic 252, 3) := by decide +kernel
theorem dX10_mark_11 : decode cX10_mark 11 = .ok (.ifCond .eq 16, 3) := by decide +kernel
theorem dX10_mark_14 : decode cX10_mark 14 = .ok (.iload_n 2, 1) := by decide +kernel
theorem dX10_mark_15 : decode cX10_mark 15 = .ok (.ifCond .eq 14, 3) := by decide +kernel
theorem dX10_mark_18 : decode cX10_mark 18 = .ok (.aload_n 0, 1) := by decide +kernel
theorem dX10_mark_19 : decode cX10_mark 19 = .ok (.getfield 114, 3) := by decide +kernel
theorem dX10_mark_22 : decode cX10_mark 22 = .ok (.iload_n 1, 1) := by decide +kernel
theorem dX10_mark_23 : decode cX10_mark 23 = .ok (.baload, 1) := by decide +kernel
theorem dX10_mark_24 : decode cX10_mark 24 = .ok (.ifCond .ne 5, 3) := by decide +kernel
theorem dX10_mark_27 : decode cX10_mark 27 = .ok (.iconst 0, 1) := by decide +kernel
theorem dX10_mark_28 : decode cX10_mark 28 = .ok (.ireturn, 1) := by decide +kernel
theorem dX10_mark_29 : decode cX10_mark 29 = .ok (.aload_n 0, 1) := by decide +kernel
theorem dX10_mark_30 : decode cX10_mark 30 = .ok (.getfield 114, 3) := by decide +kernel
theorem dX10_mark_33 : decode cX10_mark 33 = .ok (.iload_n 1, 1) := by decide +kernel
theorem dX10_mark_34 : decode cX10_mark 34 = .ok (.iconst 1, 1) := by decide +kernel
theorem dX10_mark_35 : decode cX10_mark 35 = .ok (.bastore, 1) := by decide +kernel
theorem dX10_mark_36 : decode cX10_mark 36 = .ok (.iload_n 2, 1) := by decide +kernel
theorem dX10_mark_37 : decode cX10_mark 37 = .ok (.ifCond .eq 9, 3) := by decide +kernel
theorem dX10_mark_40 : decode cX10_mark 40 = .ok (.iconst 1, 1) := by decide +kernel
theorem dX10_mark_41 : decode cX10_mark 41 = .ok (.iload_n 1, 1) := by decide +kernel
theorem dX10_mark_42 : decode cX10_mark 42 = .ok (.iadd, 1) := by decide +kernel
theorem dX10_mark_43 : decode cX10_mark 43 = .ok (.goto 4, 3) := by decide +kernel
theorem dX10_mark_46 : decode cX10_mark 46 = .ok (.iconst 0, 1) := by decide +kernel
theorem dX10_mark_47 : decode cX10_mark 47 = .ok (.istore_n 3, 1) := by decide +kernel
theorem dX10_mark_48 : decode cX10_mark 48 = .ok (.iload_n 2, 1) := by decide +kernel
theorem dX10_mark_49 : decode cX10_mark 49 = .ok (.ifCond .eq 7, 3) := by decide +kernel
theorem dX10_mark_52 : decode cX10_mark 52 = .ok (.iconst 0, 1) := by decide +kernel
theorem dX10_mark_53 : decode cX10_mark 53 = .ok (.goto 6, 3) := by decide +kernel
theorem dX10_mark_56 : decode cX10_mark 56 = .ok (.iconst 1, 1) := by decide +kernel
theorem dX10_mark_57 : decode cX10_mark 57 = .ok (.iload_n 1, 1) := by decide +kernel
theorem dX10_mark_58 : decode cX10_mark 58 = .ok (.iadd, 1) := by decide +kernel
theorem dX10_mark_59 : decode cX10_mark 59 = .ok (.istore 4, 2) := by decide +kernel
theorem dX10_mark_61 : decode cX10_mark 61 = .ok (.aload_n 0, 1) := by decide +kernel
theorem dX10_mark_62 : decode cX10_mark 62 = .ok (.iload_n 3, 1) := by decide +kernel
theorem dX10_mark_63 : decode cX10_mark 63 = .ok (.iload 4, 2) := by decide +kernel
theorem dX10_mark_65 : decode cX10_mark 65 = .ok (.invokevirtual 320, 3) := by decide +kernel
theorem dX10_mark_68 : decode cX10_mark 68 = .ok (.aload_n 0, 1) := by decide +kernel
theorem dX10_mark_69 : decode cX10_mark 69 = .ok (.iload_n 3, 1) := by decide +kernel
theorem dX10_mark_70 : decode cX10_mark 70 = .ok (.iload 4, 2) := by decide +kernel
theorem dX10_mark_72 : decode cX10_mark 72 = .ok (.invokevirtual 443, 3) := by decide +kernel
theorem dX10_mark_75 : decode cX10_mark 75 = .ok (.iload_n 2, 1) := by decide +kernel
theorem dX10_mark_76 : decode cX10_mark 76 = .ok (.ifCond .eq 27, 3) := by decide +kernel
theorem dX10_mark_79 : decode cX10_mark 79 = .ok (.aload_n 0, 1) := by decide +kernel
theorem dX10_mark_80 : decode cX10_mark 80 = .ok (.getfield 108, 3) := by decide +kernel
theorem dX10_mark_83 : decode cX10_mark 83 = .ok (.bipush 16, 2) := by decide +kernel
theorem dX10_mark_85 : decode cX10_mark 85 = .ok (.iload_n 1, 1) := by decide +kernel
theorem dX10_mark_86 : decode cX10_mark 86 = .ok (.imul, 1) := by decide +kernel
theorem dX10_mark_87 : decode cX10_mark 87 = .ok (.aload_n 0, 1) := by decide +kernel
theorem dX10_mark_88 : decode cX10_mark 88 = .ok (.getfield 99, 3) := by decide +kernel
theorem dX10_mark_91 : decode cX10_mark 91 = .ok (.iconst 0, 1) := by decide +kernel
theorem dX10_mark_92 : decode cX10_mark 92 = .ok (.invokestatic 355, 3) := by decide +kernel
theorem dX10_mark_95 : decode cX10_mark 95 = .ok (.aload_n 0, 1) := by decide +kernel
theorem dX10_mark_96 : decode cX10_mark 96 = .ok (.iconst 0, 1) := by decide +kernel
theorem dX10_mark_97 : decode cX10_mark 97 = .ok (.putfield 314, 3) := by decide +kernel
theorem dX10_mark_100 : decode cX10_mark 100 = .ok (.goto 19, 3) := by decide +kernel
theorem dX10_mark_103 : decode cX10_mark 103 = .ok (.aload_n 0, 1) := by decide +kernel
theorem dX10_mark_104 : decode cX10_mark 104 = .ok (.getfield 99, 3) := by decide +kernel
theorem dX10_mark_107 : decode cX10_mark 107 = .ok (.iconst 0, 1) := by decide +kernel
theorem dX10_mark_108 : decode cX10_mark 108 = .ok (.aload_n 0, 1) := by decide +kernel
theorem dX10_mark_109 : decode cX10_mark 109 = .ok (.getfield 108, 3) := by decide +kernel
theorem dX10_mark_112 : decode cX10_mark 112 = .ok (.bipush 16, 2) := by decide +kernel
theorem dX10_mark_114 : decode cX10_mark 114 = .ok (.iload_n 1, 1) := by decide +kernel
theorem dX10_mark_115 : decode cX10_mark 115 = .ok (.imul, 1) := by decide +kernel
theorem dX10_mark_116 : decode cX10_mark 116 = .ok (.invokestatic 355, 3) := by decide +kernel
theorem dX10_mark_119 : decode cX10_mark 119 = .ok (.iconst 1, 1) := by decide +kernel
theorem dX10_mark_120 : decode cX10_mark 120 = .ok (.ireturn, 1) := by decide +kernel
def fX10_mark_b59 (n : Nat) (v0 : Nat) (v1 : Int32) (v2 : Int32) (v3 : Int32) (s0 : Int32) (h : qH) : Option (Int32 × qH) :=
  (fX10_laysLines n v0 v3 s0 h).bind fun h1 =>
  (fX10_laysSeen n v0 v3 s0 h1).bind fun h2 =>
  if v2 = 0 then
  ((gR h2 v0 10 41).bind fun x4 =>
  (gR h2 v0 10 44).bind fun x6 =>
  (fX10_copies n x4 0 x6 (16 * v1) h2).bind fun h8 =>
  some (1, h8))
  else
  ((gR h2 v0 10 44).bind fun x10 =>
  (gR h2 v0 10 41).bind fun x12 =>
  (fX10_copies n x10 (16 * v1) x12 0 h2).bind fun h14 =>
  (pF h14 v0 10 47 (.int 0)).bind fun h15 =>
  some (1, h15))
set_option maxHeartbeats 4000000 in
set_option maxRecDepth 100000 in
theorem okX10_mark_b59 {l : Launch} {n : Nat} {v0 : Nat} {v1 : Int32} {v2 : Int32} {v3 : Int32} {s0 : Int32} {h : qH} {r : Int32} {h' : qH} (hyp : fX10_mark_b59 n v0 v1 v2 v3 s0 h = some (r, h')) : q_W l 2 yX10_mark cX10_mark 5 (some .boolean) (some (.int r)) h' 59 [(0, .ref v0), (1, .int v1), (2, .int v2), (3, .int v3)] [.int s0] h := by
  unfold fX10_mark_b59 at hyp
  refine q_istore (ls' := [(4, .int s0), (0, .ref v0), (1, .int v1), (2, .int v2), (3, .int v3)]) (by decide) rfl dX10_mark_59 ?_
  refine q_aload_n 1 rfl dX10_mark_61 ?_
  refine q_iload_n 4 rfl dX10_mark_62 ?_
  refine q_iload 0 rfl dX10_mark_63 ?_
  refine q_bind hyp (fun h1 e19 hyp => ?_)
  refine q_callV (as := [.int v3, .int s0]) (st := []) kY_X10_laysLines kL_X10_320 (okX10_laysLines (l := l) e19) (by decide) rfl (obX10_laysLines e19) (Nat.le_of_ble_eq_true rfl) dX10_mark_65 ?_
  refine q_to (ls' := [(4, .int s0), (0, .ref v0), (1, .int v1), (2, .int v2), (3, .int v3)]) (st' := []) rfl rfl ?_
  refine q_aload_n 1 rfl dX10_mark_68 ?_
  refine q_iload_n 4 rfl dX10_mark_69 ?_
  refine q_iload 0 rfl dX10_mark_70 ?_
  refine q_bind hyp (fun h2 e18 hyp => ?_)
  refine q_callV (as := [.int v3, .int s0]) (st := []) kY_X10_laysSeen kL_X10_443 (okX10_laysSeen (l := l) e18) (by decide) rfl (obX10_laysSeen e18) (Nat.le_of_ble_eq_true rfl) dX10_mark_72 ?_
  refine q_to (ls' := [(4, .int s0), (0, .ref v0), (1, .int v1), (2, .int v2), (3, .int v3)]) (st' := []) rfl rfl ?_
  refine q_iload_n 3 rfl dX10_mark_75 ?_
  refine q_if_eq (tgt := 103) dX10_mark_76 (by decide) (fun c3 => ?_) (fun c3 => ?_)
  · have hyp := q_pos c3 hyp
    refine q_aload_n 1 rfl dX10_mark_103 ?_
    refine q_bind hyp (fun x4 e5 hyp => ?_)
    refine q_getR kF_X10_99 dX10_mark_104 e5 ?_
    refine q_iconst (x := 0) rfl dX10_mark_107 ?_
    refine q_aload_n 1 rfl dX10_mark_108 ?_
    refine q_bind hyp (fun x6 e7 hyp => ?_)
    refine q_getR kF_X10_108 dX10_mark_109 e7 ?_
    refine q_bipush (x := 16) (by decide) dX10_mark_112 ?_
    refine q_iload_n 2 rfl dX10_mark_114 ?_
    refine q_imul dX10_mark_115 ?_
    refine q_bind hyp (fun h8 e9 hyp => ?_)
    refine q_callS (as := [.ref x4, .int 0, .ref x6, .int (16 * v1)]) (st := []) kY_X10_copies kS_X10_copies kL_X10_355 (okX10_copies (l := l) e9) (by decide) rfl (Nat.le_of_ble_eq_true rfl) dX10_mark_116 ?_
    refine q_to (ls' := [(4, .int s0), (0, .ref v0), (1, .int v1), (2, .int v2), (3, .int v3)]) (st' := []) rfl rfl ?_
    refine q_iconst (x := 1) rfl dX10_mark_119 ?_
    exact q_iretH rfl rfl dX10_mark_120 hyp
  · have hyp := q_neg c3 hyp
    refine q_aload_n 1 rfl dX10_mark_79 ?_
    refine q_bind hyp (fun x10 e11 hyp => ?_)
    refine q_getR kF_X10_108 dX10_mark_80 e11 ?_
    refine q_bipush (x := 16) (by decide) dX10_mark_83 ?_
    refine q_iload_n 2 rfl dX10_mark_85 ?_
    refine q_imul dX10_mark_86 ?_
    refine q_aload_n 1 rfl dX10_mark_87 ?_
    refine q_bind hyp (fun x12 e13 hyp => ?_)
    refine q_getR kF_X10_99 dX10_mark_88 e13 ?_
    refine q_iconst (x := 0) rfl dX10_mark_91 ?_
    refine q_bind hyp (fun h14 e17 hyp => ?_)
    refine q_callS (as := [.ref x10, .int (16 * v1), .ref x12, .int 0]) (st := []) kY_X10_copies kS_X10_copies kL_X10_355 (okX10_copies (l := l) e17) (by decide) rfl (Nat.le_of_ble_eq_true rfl) dX10_mark_92 ?_
    refine q_to (ls' := [(4, .int s0), (0, .ref v0), (1, .int v1), (2, .int v2), (3, .int v3)]) (st' := []) rfl rfl ?_
    refine q_aload_n 1 rfl dX10_mark_95 ?_
    refine q_iconst (x := 0) rfl dX10_mark_96 ?_
    refine q_bind hyp (fun h15 e16 hyp => ?_)
    refine q_putF kF_X10_314 (fun _ => ⟨rfl, rfl⟩) dX10_mark_97 e16 ?_
    refine q_goto (tgt := 119) dX10_mark_100 (by decide) ?_
    refine q_iconst (x := 1) rfl dX10_mark_119 ?_
    exact q_iretH rfl rfl dX10_mark_120 hyp
def fX10_mark_b47 (n : Nat) (v0 : Nat) (v1 : Int32) (v2 : Int32) (s0 : Int32) (h : qH) : Option (Int32 × qH) :=
  if v2 = 0 then
  (fX10_mark_b59 n v0 v1 v2 s0 (1 + v1) h)
  else
  (fX10_mark_b59 n v0 v1 v2 s0 0 h)
set_option maxHeartbeats 4000000 in
set_option maxRecDepth 100000 in
theorem okX10_mark_b47 {l : Launch} {n : Nat} {v0 : Nat} {v1 : Int32} {v2 : Int32} {s0 : Int32} {h : qH} {r : Int32} {h' : qH} (hyp : fX10_mark_b47 n v0 v1 v2 s0 h = some (r, h')) : q_W l 2 yX10_mark cX10_mark 5 (some .boolean) (some (.int r)) h' 47 [(0, .ref v0), (1, .int v1), (2, .int v2)] [.int s0] h := by
  unfold fX10_mark_b47 at hyp
  refine q_istore_n (ls' := [(3, .int s0), (0, .ref v0), (1, .int v1), (2, .int v2)]) (by decide) rfl dX10_mark_47 ?_
  refine q_iload_n 3 rfl dX10_mark_48 ?_
  refine q_if_eq (tgt := 56) dX10_mark_49 (by decide) (fun c1 => ?_) (fun c1 => ?_)
  · have hyp := q_pos c1 hyp
    refine q_iconst (x := 1) rfl dX10_mark_56 ?_
    refine q_iload_n 2 rfl dX10_mark_57 ?_
    refine q_iadd dX10_mark_58 ?_
    exact q_sub [1, 2, 3, 0] rfl (okX10_mark_b59 hyp)
  · have hyp := q_neg c1 hyp
    refine q_iconst (x := 0) rfl dX10_mark_52 ?_
    refine q_goto (tgt := 59) dX10_mark_53 (by decide) ?_
    exact q_sub [1, 2, 3, 0] rfl (okX10_mark_b59 hyp)
def fX10_mark_b29 (n : Nat) (v0 : Nat) (v1 : Int32) (v2 : Int32) (h : qH) : Option (Int32 × qH) :=
  (gR h v0 10 46).bind fun x1 =>
  (sI .boolean h x1 v1 1).bind fun h3 =>
  if v2 = 0 then
  (fX10_mark_b47 n v0 v1 v2 0 h3)
  else
  (fX10_mark_b47 n v0 v1 v2 (1 + v1) h3)
set_option maxHeartbeats 4000000 in
set_option maxRecDepth 100000 in
theorem okX10_mark_b29 {l : Launch} {n : Nat} {v0 : Nat} {v1 : Int32} {v2 : Int32} {h : qH} {r : Int32} {h' : qH} (hyp : fX10_mark_b29 n v0 v1 v2 h = some (r, h')) : q_W l 2 yX10_mark cX10_mark 5 (some .boolean) (some (.int r)) h' 29 [(0, .ref v0), (1, .int v1), (2, .int v2)] [] h := by
  unfold fX10_mark_b29 at hyp
  refine q_aload_n 0 rfl dX10_mark_29 ?_
  refine q_bind hyp (fun x1 e2 hyp => ?_)
  refine q_getR kF_X10_114 dX10_mark_30 e2 ?_
  refine q_iload_n 1 rfl dX10_mark_33 ?_
  refine q_iconst (x := 1) rfl dX10_mark_34 ?_
  refine q_bind hyp (fun h3 e4 hyp => ?_)
  refine q_zast dX10_mark_35 e4 ?_
  refine q_iload_n 2 rfl dX10_mark_36 ?_
  refine q_if_eq (tgt := 46) dX10_mark_37 (by decide) (fun c5 => ?_) (fun c5 => ?_)
  · have hyp := q_pos c5 hyp
    refine q_iconst (x := 0) rfl dX10_mark_46 ?_
    exact q_sub [0, 1, 2] rfl (okX10_mark_b47 hyp)
  · have hyp := q_neg c5 hyp
    refine q_iconst (x := 1) rfl dX10_mark_40 ?_
    refine q_iload_n 1 rfl dX10_mark_41 ?_
    refine q_iadd dX10_mark_42 ?_
    refine q_goto (tgt := 47) dX10_mark_43 (by decide) ?_
    exact q_sub [0, 1, 2] rfl (okX10_mark_b47 hyp)
def fX10_mark (n : Nat) (v0 : Nat) (v1 : Int32) (v2 : Int32) (h : qH) : Option (Int32 × qH) :=
  (isO h v0 10).bind fun _ =>
  (pF h v0 10 0 (.int 0)).bind fun h1 =>
  (fX10_within v1 0 3 h1).bind fun p3 =>
  if p3.1 = 0 then
  (some (0, p3.2))
  else
  (if v2 = 0 then
  (fX10_mark_b29 n v0 v1 v2 p3.2)
  else
  ((gR p3.2 v0 10 46).bind fun x6 =>
  (aI .boolean p3.2 x6 v1).bind fun x8 =>
  if x8 = 0 then
  (some (0, p3.2))
  else
  (fX10_mark_b29 n v0 v1 v2 p3.2)))
theorem obX10_mark {n : Nat} {v0 : Nat} {v1 : Int32} {v2 : Int32} {h : qH} {p : Int32 × qH} (hyp : fX10_mark n v0 v1 v2 h = some p) : ∃ fs, h.1 v0 = some (.inr (10, fs)) := by
  unfold fX10_mark at hyp
  exact q_bind hyp (fun _ e _ => isO_some e)
set_option maxHeartbeats 4000000 in
set_option maxRecDepth 100000 in
theorem okX10_mark {l : Launch} {n : Nat} {v0 : Nat} {v1 : Int32} {v2 : Int32} {h : qH} {p : Int32 × qH} (hyp : fX10_mark n v0 v1 v2 h = some p) : q_M l 2 yX10_mark cX10_mark 5 (some .boolean) [.ref v0, .int v1, .int v2] h (some (.int p.1)) p.2 := by
  obtain ⟨r, h'⟩ := p
  unfold fX10_mark at hyp
  refine q_bind hyp (fun _ _ hyp => ?_)
  refine q_M.of (by decide) (Nat.le_of_ble_eq_true rfl) ?_
  refine q_to (ls' := [(0, .ref v0), (1, .int v1), (2, .int v2)]) (st' := []) rfl rfl ?_
  refine q_aload_n 0 rfl dX10_mark_0 ?_
  refine q_iconst (x := 0) rfl dX10_mark_1 ?_
  refine q_bind hyp (fun h1 e2 hyp => ?_)
  refine q_putF kF_X10_136 (fun _ => ⟨rfl, rfl⟩) dX10_mark_2 e2 ?_
  refine q_iload_n 1 rfl dX10_mark_5 ?_
  refine q_iconst (x := 0) rfl dX10_mark_6 ?_
  refine q_iconst (x := 3) rfl dX10_mark_7 ?_
  refine q_bind hyp (fun p3 e11 hyp => ?_)
  refine q_callS (as := [.int v1, .int 0, .int 3]) (st := []) kY_X10_within kS_X10_within kL_X10_252 (okX10_within (l := l) e11) (by decide) rfl (Nat.le_of_ble_eq_true rfl) dX10_mark_8 ?_
  refine q_to (ls' := [(0, .ref v0), (1, .int v1), (2, .int v2)]) (st' := [.int p3.1]) rfl rfl ?_
  refine q_if_eq (tgt := 27) dX10_mark_11 (by decide) (fun c4 => ?_) (fun c4 => ?_)
  · have hyp := q_pos c4 hyp
    refine q_iconst (x := 0) rfl dX10_mark_27 ?_
    exact q_iretH rfl rfl dX10_mark_28 hyp
  · have hyp := q_neg c4 hyp
    refine q_iload_n 2 rfl dX10_mark_14 ?_
    refine q_if_eq (tgt := 29) dX10_mark_15 (by decide) (fun c5 => ?_) (fun c5 => ?_)
    · have hyp := q_pos c5 hyp
      exact q_sub [0, 1, 2] rfl (okX10_mark_b29 hyp)
    · have hyp := q_neg c5 hyp
      refine q_aload_n 0 rfl dX10_mark_18 ?_
      refine q_bind hyp (fun x6 e7 hyp => ?_)
      refine q_getR kF_X10_114 dX10_mark_19 e7 ?_
      refine q_iload_n 1 rfl dX10_mark_22 ?_
      refine q_bind hyp (fun x8 e9 hyp => ?_)
      refine q_zald dX10_mark_23 e9 ?_
      refine q_if_ne (tgt := 29) dX10_mark_24 (by decide) (fun c10 => ?_) (fun c10 => ?_)
      · have hyp := q_neg c10 hyp
        exact q_sub [0, 1, 2] rfl (okX10_mark_b29 hyp)
      · have hyp := q_pos c10 hyp
        refine q_iconst (x := 0) rfl dX10_mark_27 ?_
        exact q_iretH rfl rfl dX10_mark_28 hyp
theorem dX10_matter_0 : decode cX10_matter 0 = .ok (.aload_n 0, 1) := by decide +kernel
theorem dX10_matter_1 : decode cX10_matter 1 = .ok (.iconst 0, 1) := by decide +kernel
theorem dX10_matter_2 : decode cX10_matter 2 = .ok (.putfield 136, 3) := by decide +kernel
theorem dX10_matter_5 : decode cX10_matter 5 = .ok (.aload_n 0, 1) := by decide +kernel
theorem dX10_matter_6 : decode cX10_matter 6 = .ok (.iload_n 1, 1) := by decide +kernel
theorem dX10_matter_7 : decode cX10_matter 7 = .ok (.invokevirtual 346, 3) := by decide +kernel
theorem dX10_matter_10 : decode cX10_matter 10 = .ok (.ifCond .eq 13, 3) := by decide +kernel
theorem dX10_matter_13 : decode cX10_matter 13 = .ok (.iload_n 2, 1) := by decide +kernel
theorem dX10_matter_14 : decode cX10_matter 14 = .ok (.iconst 0, 1) := by decide +kernel
theorem dX10_matter_15 : decode cX10_matter 15 = .ok (.bipush 6, 2) := by decide +kernel
theorem dX10_matter_17 : decode cX10_matter 17 = .ok (.invokestatic 252, 3) := by decide +kernel
theorem dX10_matter_20 : decode cX10_matter 20 = .ok (.ifCond .ne 5, 3) := by decide +kernel
theorem dX10_matter_23 : decode cX10_matter 23 = .ok (.iconst (-1), 1) := by decide +kernel
theorem dX10_matter_24 : decode cX10_matter 24 = .ok (.ireturn, 1) := by decide +kernel
theorem dX10_matter_25 : decode cX10_matter 25 = .ok (.iload_n 2, 1) := by decide +kernel
theorem dX10_matter_26 : decode cX10_matter 26 = .ok (.iconst 2, 1) := by decide +kernel
theorem dX10_matter_27 : decode cX10_matter 27 = .ok (.if_icmp .ge 23, 3) := by decide +kernel
theorem dX10_matter_30 : decode cX10_matter 30 = .ok (.iload_n 2, 1) := by decide +kernel
theorem dX10_matter_31 : decode cX10_matter 31 = .ok (.ifCond .ne 12, 3) := by decide +kernel
theorem dX10_matter_34 : decode cX10_matter 34 = .ok (.aload_n 0, 1) := by decide +kernel
theorem dX10_matter_35 : decode cX10_matter 35 = .ok (.getfield 20, 3) := by decide +kernel
theorem dX10_matter_38 : decode cX10_matter 38 = .ok (.iload_n 1, 1) := by decide +kernel
theorem dX10_matter_39 : decode cX10_matter 39 = .ok (.iaload, 1) := by decide +kernel
theorem dX10_matter_40 : decode cX10_matter 40 = .ok (.goto 9, 3) := by decide +kernel
theorem dX10_matter_43 : decode cX10_matter 43 = .ok (.aload_n 0, 1) := by decide +kernel
theorem dX10_matter_44 : decode cX10_matter 44 = .ok (.getfield 23, 3) := by decide +kernel
theorem dX10_matter_47 : decode cX10_matter 47 = .ok (.iload_n 1, 1) := by decide +kernel
theorem dX10_matter_48 : decode cX10_matter 48 = .ok (.iaload, 1) := by decide +kernel
theorem dX10_matter_49 : decode cX10_matter 49 = .ok (.ireturn, 1) := by decide +kernel
theorem dX10_matter_50 : decode cX10_matter 50 = .ok (.iload_n 2, 1) := by decide +kernel
theorem dX10_matter_51 : decode cX10_matter 51 = .ok (.iconst 4, 1) := by decide +kernel
theorem dX10_matter_52 : decode cX10_matter 52 = .ok (.if_icmp .ge 29, 3) := by decide +kernel
theorem dX10_matter_55 : decode cX10_matter 55 = .ok (.iload_n 2, 1) := by decide +kernel
theorem dX10_matter_56 : decode cX10_matter 56 = .ok (.iconst 2, 1) := by decide +kernel
theorem dX10_matter_57 : decode cX10_matter 57 = .ok (.if_icmp .ne 14, 3) := by decide +kernel
theorem dX10_matter_60 : decode cX10_matter 60 = .ok (.aload_n 0, 1) := by decide +kernel
theorem dX10_matter_61 : decode cX10_matter 61 = .ok (.getfield 99, 3) := by decide +kernel
theorem dX10_matter_64 : decode cX10_matter 64 = .ok (.iconst 2, 1) := by decide +kernel
theorem dX10_matter_65 : decode cX10_matter 65 = .ok (.iload_n 1, 1) := by decide +kernel
theorem dX10_matter_66 : decode cX10_matter 66 = .ok (.iadd, 1) := by decide +kernel
theorem dX10_matter_67 : decode cX10_matter 67 = .ok (.iaload, 1) := by decide +kernel
theorem dX10_matter_68 : decode cX10_matter 68 = .ok (.goto 12, 3) := by decide +kernel
theorem dX10_matter_71 : decode cX10_matter 71 = .ok (.aload_n 0, 1) := by decide +kernel
theorem dX10_matter_72 : decode cX10_matter 72 = .ok (.getfield 99, 3) := by decide +kernel
theorem dX10_matter_75 : decode cX10_matter 75 = .ok (.bipush 9, 2) := by decide +kernel
theorem dX10_matter_77 : decode cX10_matter 77 = .ok (.iload_n 1, 1) := by decide +kernel
theorem dX10_matter_78 : decode cX10_matter 78 = .ok (.iadd, 1) := by decide +kernel
theorem dX10_matter_79 : decode cX10_matter 79 = .ok (.iaload, 1) := by decide +kernel
theorem dX10_matter_80 : decode cX10_matter 80 = .ok (.ireturn, 1) := by decide +kernel
theorem dX10_matter_81 : decode cX10_matter 81 = .ok (.iload_n 2, 1) := by decide +kernel
theorem dX10_matter_82 : decode cX10_matter 82 = .ok (.iconst 4, 1) := by decide +kernel
theorem dX10_matter_83 : decode cX10_matter 83 = .ok (.if_icmp .ne 14, 3) := by decide +kernel
theorem dX10_matter_86 : decode cX10_matter 86 = .ok (.aload_n 0, 1) := by decide +kernel
theorem dX10_matter_87 : decode cX10_matter 87 = .ok (.invokevirtual 349, 3) := by decide +kernel
theorem dX10_matter_90 : decode cX10_matter 90 = .ok (.iload_n 1, 1) := by decide +kernel
theorem dX10_matter_91 : decode cX10_matter 91 = .ok (.ishr, 1) := by decide +kernel
theorem dX10_matter_92 : decode cX10_matter 92 = .ok (.iconst 1, 1) := by decide +kernel
theorem dX10_matter_93 : decode cX10_matter 93 = .ok (.iand, 1) := by decide +kernel
theorem dX10_matter_94 : decode cX10_matter 94 = .ok (.goto 29, 3) := by decide +kernel
theorem dX10_matter_97 : decode cX10_matter 97 = .ok (.iload_n 2, 1) := by decide +kernel
theorem dX10_matter_98 : decode cX10_matter 98 = .ok (.iconst 5, 1) := by decide +kernel
theorem dX10_matter_99 : decode cX10_matter 99 = .ok (.if_icmp .ne 18, 3) := by decide +kernel
theorem dX10_matter_102 : decode cX10_matter 102 = .ok (.aload_n 0, 1) := by decide +kernel
theorem dX10_matter_103 : decode cX10_matter 103 = .ok (.aload_n 0, 1) := by decide +kernel
theorem dX10_matter_104 : decode cX10_matter 104 = .ok (.invokevirtual 349, 3) := by decide +kernel
theorem dX10_matter_107 : decode cX10_matter 107 = .ok (.invokevirtual 352, 3) := by decide +kernel
theorem dX10_matter_110 : decode cX10_matter 110 = .ok (.iload_n 1, 1) := by decide +kernel
theorem dX10_matter_111 : decode cX10_matter 111 = .ok (.ishr, 1) := by decide +kernel
theorem dX10_matter_112 : decode cX10_matter 112 = .ok (.iconst 1, 1) := by decide +kernel
theorem dX10_matter_113 : decode cX10_matter 113 = .ok (.iand, 1) := by decide +kernel
theorem dX10_matter_114 : decode cX10_matter 114 = .ok (.goto 9, 3) := by decide +kernel
theorem dX10_matter_117 : decode cX10_matter 117 = .ok (.aload_n 0, 1) := by decide +kernel
theorem dX10_matter_118 : decode cX10_matter 118 = .ok (.getfield 29, 3) := by decide +kernel
theorem dX10_matter_121 : decode cX10_matter 121 = .ok (.iload_n 1, 1) := by decide +kernel
theorem dX10_matter_122 : decode cX10_matter 122 = .ok (.iaload, 1) := by decide +kernel
theorem dX10_matter_123 : decode cX10_matter 123 = .ok (.ireturn, 1) := by decide +kernel
def fX10_matter (n : Nat) (v0 : Nat) (v1 : Int32) (v2 : Int32) (h : qH) : Option (Int32 × qH) :=
  (isO h v0 10).bind fun _ =>
  (pF h v0 10 0 (.int 0)).bind fun h1 =>
  (fX10_isMatter v0 v1 h1).bind fun p3 =>
  if p3.1 = 0 then
  (some ((-1), p3.2))
  else
  ((fX10_within v2 0 6 p3.2).bind fun p5 =>
  if p5.1 = 0 then
  (some ((-1), p5.2))
  else
  (if 2 ≤ v2 then
  (if 4 ≤ v2 then
  (if v2 = 4 then
  ((fX10_meantNow n v0 p5.2).bind fun p19 =>
  some ((p19.1 >>> (v1 &&& 31)) &&& 1, p19.2))
  else
  (if v2 = 5 then
  ((fX10_meantNow n v0 p5.2).bind fun p15 =>
  (fX10_rightBy n v0 p15.1 p15.2).bind fun p16 =>
  some ((p16.1 >>> (v1 &&& 31)) &&& 1, p16.2))
  else
  ((gR p5.2 v0 10 15).bind fun x11 =>
  (aI .int p5.2 x11 v1).bind fun x13 =>
  some (x13, p5.2))))
  else
  (if v2 = 2 then
  ((gR p5.2 v0 10 41).bind fun x26 =>
  (aI .int p5.2 x26 (2 + v1)).bind fun x28 =>
  some (x28, p5.2))
  else
  ((gR p5.2 v0 10 41).bind fun x22 =>
  (aI .int p5.2 x22 (9 + v1)).bind fun x24 =>
  some (x24, p5.2))))
  else
  (if v2 = 0 then
  ((gR p5.2 v0 10 12).bind fun x35 =>
  (aI .int p5.2 x35 v1).bind fun x37 =>
  some (x37, p5.2))
  else
  ((gR p5.2 v0 10 13).bind fun x31 =>
  (aI .int p5.2 x31 v1).bind fun x33 =>
  some (x33, p5.2)))))
theorem obX10_matter {n : Nat} {v0 : Nat} {v1 : Int32} {v2 : Int32} {h : qH} {p : Int32 × qH} (hyp : fX10_matter n v0 v1 v2 h = some p) : ∃ fs, h.1 v0 = some (.inr (10, fs)) := by
  unfold fX10_matter at hyp
  exact q_bind hyp (fun _ e _ => isO_some e)
set_option maxHeartbeats 4000000 in
set_option maxRecDepth 100000 in
theorem okX10_matter {l : Launch} {n : Nat} {v0 : Nat} {v1 : Int32} {v2 : Int32} {h : qH} {p : Int32 × qH} (hyp : fX10_matter n v0 v1 v2 h = some p) : q_M l 2 yX10_matter cX10_matter 3 (some .int) [.ref v0, .int v1, .int v2] h (some (.int p.1)) p.2 := by
  obtain ⟨r, h'⟩ := p
  unfold fX10_matter at hyp
  refine q_bind hyp (fun _ _ hyp => ?_)
  refine q_M.of (by decide) (Nat.le_of_ble_eq_true rfl) ?_
  refine q_to (ls' := [(0, .ref v0), (1, .int v1), (2, .int v2)]) (st' := []) rfl rfl ?_
  refine q_aload_n 0 rfl dX10_matter_0 ?_
  refine q_iconst (x := 0) rfl dX10_matter_1 ?_
  refine q_bind hyp (fun h1 e2 hyp => ?_)
  refine q_putF kF_X10_136 (fun _ => ⟨rfl, rfl⟩) dX10_matter_2 e2 ?_
  refine q_aload_n 0 rfl dX10_matter_5 ?_
  refine q_iload_n 1 rfl dX10_matter_6 ?_
  refine q_bind hyp (fun p3 e40 hyp => ?_)
  refine q_callV (as := [.int v1]) (st := []) kY_X10_isMatter kL_X10_346 (okX10_isMatter (l := l) e40) (by decide) rfl (obX10_isMatter e40) (Nat.le_of_ble_eq_true rfl) dX10_matter_7 ?_
  refine q_to (ls' := [(0, .ref v0), (1, .int v1), (2, .int v2)]) (st' := [.int p3.1]) rfl rfl ?_
  refine q_if_eq (tgt := 23) dX10_matter_10 (by decide) (fun c4 => ?_) (fun c4 => ?_)
  · have hyp := q_pos c4 hyp
    refine q_iconst (x := (-1)) rfl dX10_matter_23 ?_
    exact q_iretH rfl rfl dX10_matter_24 hyp
  · have hyp := q_neg c4 hyp
    refine q_iload_n 2 rfl dX10_matter_13 ?_
    refine q_iconst (x := 0) rfl dX10_matter_14 ?_
    refine q_bipush (x := 6) (by decide) dX10_matter_15 ?_
    refine q_bind hyp (fun p5 e39 hyp => ?_)
    refine q_callS (as := [.int v2, .int 0, .int 6]) (st := []) kY_X10_within kS_X10_within kL_X10_252 (okX10_within (l := l) e39) (by decide) rfl (Nat.le_of_ble_eq_true rfl) dX10_matter_17 ?_
    refine q_to (ls' := [(0, .ref v0), (1, .int v1), (2, .int v2)]) (st' := [.int p5.1]) rfl rfl ?_
    refine q_if_ne (tgt := 25) dX10_matter_20 (by decide) (fun c6 => ?_) (fun c6 => ?_)
    · have hyp := q_neg c6 hyp
      refine q_iload_n 2 rfl dX10_matter_25 ?_
      refine q_iconst (x := 2) rfl dX10_matter_26 ?_
      refine q_icmp_ge (tgt := 50) dX10_matter_27 (by decide) (fun c7 => ?_) (fun c7 => ?_)
      · have hyp := q_pos c7 hyp
        refine q_iload_n 2 rfl dX10_matter_50 ?_
        refine q_iconst (x := 4) rfl dX10_matter_51 ?_
        refine q_icmp_ge (tgt := 81) dX10_matter_52 (by decide) (fun c8 => ?_) (fun c8 => ?_)
        · have hyp := q_pos c8 hyp
          refine q_iload_n 2 rfl dX10_matter_81 ?_
          refine q_iconst (x := 4) rfl dX10_matter_82 ?_
          refine q_icmp_ne (tgt := 97) dX10_matter_83 (by decide) (fun c9 => ?_) (fun c9 => ?_)
          · have hyp := q_neg c9 hyp
            refine q_iload_n 2 rfl dX10_matter_97 ?_
            refine q_iconst (x := 5) rfl dX10_matter_98 ?_
            refine q_icmp_ne (tgt := 117) dX10_matter_99 (by decide) (fun c10 => ?_) (fun c10 => ?_)
            · have hyp := q_neg c10 hyp
              refine q_aload_n 0 rfl dX10_matter_117 ?_
              refine q_bind hyp (fun x11 e12 hyp => ?_)
              refine q_getR kF_X10_29 dX10_matter_118 e12 ?_
              refine q_iload_n 1 rfl dX10_matter_121 ?_
              refine q_bind hyp (fun x13 e14 hyp => ?_)
              refine q_iald dX10_matter_122 e14 ?_
              exact q_iretH rfl rfl dX10_matter_123 hyp
            · have hyp := q_pos c10 hyp
              refine q_aload_n 0 rfl dX10_matter_102 ?_
              refine q_aload_n 0 rfl dX10_matter_103 ?_
              refine q_bind hyp (fun p15 e18 hyp => ?_)
              refine q_callV (as := []) (st := [.ref v0]) kY_X10_meantNow kL_X10_349 (okX10_meantNow (l := l) e18) (by decide) rfl (obX10_meantNow e18) (Nat.le_of_ble_eq_true rfl) dX10_matter_104 ?_
              refine q_to (ls' := [(0, .ref v0), (1, .int v1), (2, .int v2)]) (st' := [.int p15.1, .ref v0]) rfl rfl ?_
              refine q_bind hyp (fun p16 e17 hyp => ?_)
              refine q_callV (as := [.int p15.1]) (st := []) kY_X10_rightBy kL_X10_352 (okX10_rightBy (l := l) e17) (by decide) rfl (obX10_rightBy e17) (Nat.le_of_ble_eq_true rfl) dX10_matter_107 ?_
              refine q_to (ls' := [(0, .ref v0), (1, .int v1), (2, .int v2)]) (st' := [.int p16.1]) rfl rfl ?_
              refine q_iload_n 1 rfl dX10_matter_110 ?_
              refine q_ishr dX10_matter_111 ?_
              refine q_iconst (x := 1) rfl dX10_matter_112 ?_
              refine q_iand dX10_matter_113 ?_
              refine q_goto (tgt := 123) dX10_matter_114 (by decide) ?_
              exact q_iretH rfl rfl dX10_matter_123 hyp
          · have hyp := q_pos c9 hyp
            refine q_aload_n 0 rfl dX10_matter_86 ?_
            refine q_bind hyp (fun p19 e20 hyp => ?_)
            refine q_callV (as := []) (st := []) kY_X10_meantNow kL_X10_349 (okX10_meantNow (l := l) e20) (by decide) rfl (obX10_meantNow e20) (Nat.le_of_ble_eq_true rfl) dX10_matter_87 ?_
            refine q_to (ls' := [(0, .ref v0), (1, .int v1), (2, .int v2)]) (st' := [.int p19.1]) rfl rfl ?_
            refine q_iload_n 1 rfl dX10_matter_90 ?_
            refine q_ishr dX10_matter_91 ?_
            refine q_iconst (x := 1) rfl dX10_matter_92 ?_
            refine q_iand dX10_matter_93 ?_
            refine q_goto (tgt := 123) dX10_matter_94 (by decide) ?_
            exact q_iretH rfl rfl dX10_matter_123 hyp
        · have hyp := q_neg c8 hyp
          refine q_iload_n 2 rfl dX10_matter_55 ?_
          refine q_iconst (x := 2) rfl dX10_matter_56 ?_
          refine q_icmp_ne (tgt := 71) dX10_matter_57 (by decide) (fun c21 => ?_) (fun c21 => ?_)
          · have hyp := q_neg c21 hyp
            refine q_aload_n 0 rfl dX10_matter_71 ?_
            refine q_bind hyp (fun x22 e23 hyp => ?_)
            refine q_getR kF_X10_99 dX10_matter_72 e23 ?_
            refine q_bipush (x := 9) (by decide) dX10_matter_75 ?_
            refine q_iload_n 1 rfl dX10_matter_77 ?_
            refine q_iadd dX10_matter_78 ?_
            refine q_bind hyp (fun x24 e25 hyp => ?_)
            refine q_iald dX10_matter_79 e25 ?_
            exact q_iretH rfl rfl dX10_matter_80 hyp
          · have hyp := q_pos c21 hyp
            refine q_aload_n 0 rfl dX10_matter_60 ?_
            refine q_bind hyp (fun x26 e27 hyp => ?_)
            refine q_getR kF_X10_99 dX10_matter_61 e27 ?_
            refine q_iconst (x := 2) rfl dX10_matter_64 ?_
            refine q_iload_n 1 rfl dX10_matter_65 ?_
            refine q_iadd dX10_matter_66 ?_
            refine q_bind hyp (fun x28 e29 hyp => ?_)
            refine q_iald dX10_matter_67 e29 ?_
            refine q_goto (tgt := 80) dX10_matter_68 (by decide) ?_
            exact q_iretH rfl rfl dX10_matter_80 hyp
      · have hyp := q_neg c7 hyp
        refine q_iload_n 2 rfl dX10_matter_30 ?_
        refine q_if_ne (tgt := 43) dX10_matter_31 (by decide) (fun c30 => ?_) (fun c30 => ?_)
        · have hyp := q_neg c30 hyp
          refine q_aload_n 0 rfl dX10_matter_43 ?_
          refine q_bind hyp (fun x31 e32 hyp => ?_)
          refine q_getR kF_X10_23 dX10_matter_44 e32 ?_
          refine q_iload_n 1 rfl dX10_matter_47 ?_
          refine q_bind hyp (fun x33 e34 hyp => ?_)
          refine q_iald dX10_matter_48 e34 ?_
          exact q_iretH rfl rfl dX10_matter_49 hyp
        · have hyp := q_pos c30 hyp
          refine q_aload_n 0 rfl dX10_matter_34 ?_
          refine q_bind hyp (fun x35 e36 hyp => ?_)
          refine q_getR kF_X10_20 dX10_matter_35 e36 ?_
          refine q_iload_n 1 rfl dX10_matter_38 ?_
          refine q_bind hyp (fun x37 e38 hyp => ?_)
          refine q_iald dX10_matter_39 e38 ?_
          refine q_goto (tgt := 49) dX10_matter_40 (by decide) ?_
          exact q_iretH rfl rfl dX10_matter_49 hyp
    · have hyp := q_pos c6 hyp
      refine q_iconst (x := (-1)) rfl dX10_matter_23 ?_
      exact q_iretH rfl rfl dX10_matter_24 hyp
theorem dX10_matterNamed_0 : decode cX10_matterNamed 0 = .ok (.bipush 7, 2) := by decide +kernel
theorem dX10_matterNamed_2 : decode cX10_matterNamed 2 = .ok (.iload_n 1, 1) := by decide +kernel
theorem dX10_matterNamed_3 : decode cX10_matterNamed 3 = .ok (.imul, 1) := by decide +kernel
theorem dX10_matterNamed_4 : decode cX10_matterNamed 4 = .ok (.istore_n 2, 1) := by decide +kernel
theorem dX10_matterNamed_5 : decode cX10_matterNamed 5 = .ok (.iload_n 2, 1) := by decide +kernel
theorem dX10_matterNamed_6 : decode cX10_matterNamed 6 = .ok (.bipush 7, 2) := by decide +kernel
theorem dX10_matterNamed_8 : decode cX10_matterNamed 8 = .ok (.iload_n 1, 1) := by decide +kernel
theorem dX10_matterNamed_9 : decode cX10_matterNamed 9 = .ok (.imul, 1) := by decide +kernel
theorem dX10_matterNamed_10 : decode cX10_matterNamed 10 = .ok (.aload_n 0, 1) := by decide +kernel
theorem dX10_matterNamed_11 : decode cX10_matterNamed 11 = .ok (.getfield 13, 3) := by decide +kernel
theorem dX10_matterNamed_14 : decode cX10_matterNamed 14 = .ok (.iconst 4, 1) := by decide +kernel
theorem dX10_matterNamed_15 : decode cX10_matterNamed 15 = .ok (.iload_n 1, 1) := by decide +kernel
theorem dX10_matterNamed_16 : decode cX10_matterNamed 16 = .ok (.imul, 1) := by decide +kernel
theorem dX10_matterNamed_17 : decode cX10_matterNamed 17 = .ok (.iconst 0, 1) := by decide +kernel
theorem dX10_matterNamed_18 : decode cX10_matterNamed 18 = .ok (.iadd, 1) := by decide +kernel
theorem dX10_matterNamed_19 : decode cX10_matterNamed 19 = .ok (.iaload, 1) := by decide +kernel
theorem dX10_matterNamed_20 : decode cX10_matterNamed 20 = .ok (.iadd, 1) := by decide +kernel
theorem dX10_matterNamed_21 : decode cX10_matterNamed 21 = .ok (.if_icmp .ge 30, 3) := by decide +kernel
theorem dX10_matterNamed_24 : decode cX10_matterNamed 24 = .ok (.aload_n 0, 1) := by decide +kernel
theorem dX10_matterNamed_25 : decode cX10_matterNamed 25 = .ok (.getfield 16, 3) := by decide +kernel
theorem dX10_matterNamed_28 : decode cX10_matterNamed 28 = .ok (.iload_n 2, 1) := by decide +kernel
theorem dX10_matterNamed_29 : decode cX10_matterNamed 29 = .ok (.laload, 1) := by decide +kernel
theorem dX10_matterNamed_30 : decode cX10_matterNamed 30 = .ok (.aload_n 0, 1) := by decide +kernel
theorem dX10_matterNamed_31 : decode cX10_matterNamed 31 = .ok (.getfield 154, 3) := by decide +kernel
theorem dX10_matterNamed_34 : decode cX10_matterNamed 34 = .ok (.lcmp, 1) := by decide +kernel
theorem dX10_matterNamed_35 : decode cX10_matterNamed 35 = .ok (.ifCond .ne 10, 3) := by decide +kernel
theorem dX10_matterNamed_38 : decode cX10_matterNamed 38 = .ok (.iload_n 2, 1) := by decide +kernel
theorem dX10_matterNamed_39 : decode cX10_matterNamed 39 = .ok (.bipush 7, 2) := by decide +kernel
theorem dX10_matterNamed_41 : decode cX10_matterNamed 41 = .ok (.iload_n 1, 1) := by decide +kernel
theorem dX10_matterNamed_42 : decode cX10_matterNamed 42 = .ok (.imul, 1) := by decide +kernel
theorem dX10_matterNamed_43 : decode cX10_matterNamed 43 = .ok (.isub, 1) := by decide +kernel
theorem dX10_matterNamed_44 : decode cX10_matterNamed 44 = .ok (.ireturn, 1) := by decide +kernel
theorem dX10_matterNamed_45 : decode cX10_matterNamed 45 = .ok (.iinc 2 1, 3) := by decide +kernel
theorem dX10_matterNamed_48 : decode cX10_matterNamed 48 = .ok (.goto (-43), 3) := by decide +kernel
theorem dX10_matterNamed_51 : decode cX10_matterNamed 51 = .ok (.iconst (-1), 1) := by decide +kernel
theorem dX10_matterNamed_52 : decode cX10_matterNamed 52 = .ok (.ireturn, 1) := by decide +kernel
def fX10_matterNamed_b5 (n : Nat) : Nat → Nat → Int32 → Int32 → qH → Option (Int32 × qH)
  | 0, _, _, _, _ => none
  | w + 1, v0, v1, v2, h =>
    (gR h v0 10 10).bind fun x1 =>
    (aI .int h x1 ((4 * v1) + 0)).bind fun x3 =>
    if ((7 * v1) + x3) ≤ v2 then
    (some ((-1), h))
    else
    ((gR h v0 10 11).bind fun x6 =>
    (aL h x6 v2).bind fun x8 =>
    (gL h v0 10 7).bind fun x10 =>
    if (lg_cmp x8 x10) = 0 then
    (some (v2 - (7 * v1), h))
    else
    (fX10_matterNamed_b5 n w v0 v1 (v2 + 1) h))
set_option maxHeartbeats 4000000 in
set_option maxRecDepth 100000 in
theorem okX10_matterNamed_b5 {l : Launch} {n : Nat} {r : Int32} {h' : qH} : ∀ (w : Nat) (v0 : Nat) (v1 : Int32) (v2 : Int32) (h : qH), fX10_matterNamed_b5 n w v0 v1 v2 h = some (r, h') → q_W l 1 yX10_matterNamed cX10_matterNamed 3 (some .int) (some (.int r)) h' 5 [(0, .ref v0), (1, .int v1), (2, .int v2)] [] h := by
  intro w
  induction w with
  | zero => intro v0 v1 v2 h hyp; cases hyp
  | succ w ih =>
    intro v0 v1 v2 h hyp
    unfold fX10_matterNamed_b5 at hyp
    refine q_iload_n 2 rfl dX10_matterNamed_5 ?_
    refine q_bipush (x := 7) (by decide) dX10_matterNamed_6 ?_
    refine q_iload_n 1 rfl dX10_matterNamed_8 ?_
    refine q_imul dX10_matterNamed_9 ?_
    refine q_aload_n 0 rfl dX10_matterNamed_10 ?_
    refine q_bind hyp (fun x1 e2 hyp => ?_)
    refine q_getR kF_X10_13 dX10_matterNamed_11 e2 ?_
    refine q_iconst (x := 4) rfl dX10_matterNamed_14 ?_
    refine q_iload_n 1 rfl dX10_matterNamed_15 ?_
    refine q_imul dX10_matterNamed_16 ?_
    refine q_iconst (x := 0) rfl dX10_matterNamed_17 ?_
    refine q_iadd dX10_matterNamed_18 ?_
    refine q_bind hyp (fun x3 e4 hyp => ?_)
    refine q_iald dX10_matterNamed_19 e4 ?_
    refine q_iadd dX10_matterNamed_20 ?_
    refine q_icmp_ge (tgt := 51) dX10_matterNamed_21 (by decide) (fun c5 => ?_) (fun c5 => ?_)
    · have hyp := q_pos c5 hyp
      refine q_iconst (x := (-1)) rfl dX10_matterNamed_51 ?_
      exact q_iretH rfl rfl dX10_matterNamed_52 hyp
    · have hyp := q_neg c5 hyp
      refine q_aload_n 0 rfl dX10_matterNamed_24 ?_
      refine q_bind hyp (fun x6 e7 hyp => ?_)
      refine q_getR kF_X10_16 dX10_matterNamed_25 e7 ?_
      refine q_iload_n 2 rfl dX10_matterNamed_28 ?_
      refine q_bind hyp (fun x8 e9 hyp => ?_)
      refine q_lald dX10_matterNamed_29 e9 ?_
      refine q_aload_n 0 rfl dX10_matterNamed_30 ?_
      refine q_bind hyp (fun x10 e11 hyp => ?_)
      refine q_getL kF_X10_154 dX10_matterNamed_31 e11 ?_
      refine q_lcmp dX10_matterNamed_34 ?_
      refine q_if_ne (tgt := 45) dX10_matterNamed_35 (by decide) (fun c12 => ?_) (fun c12 => ?_)
      · have hyp := q_neg c12 hyp
        refine q_iinc (ls' := [(2, .int (v2 + 1)), (0, .ref v0), (1, .int v1)]) 2 rfl rfl (by decide) rfl dX10_matterNamed_45 ?_
        refine q_goto (tgt := 5) dX10_matterNamed_48 (by decide) ?_
        exact q_sub [1, 2, 0] rfl (ih v0 v1 (v2 + 1) h hyp)
      · have hyp := q_pos c12 hyp
        refine q_iload_n 2 rfl dX10_matterNamed_38 ?_
        refine q_bipush (x := 7) (by decide) dX10_matterNamed_39 ?_
        refine q_iload_n 1 rfl dX10_matterNamed_41 ?_
        refine q_imul dX10_matterNamed_42 ?_
        refine q_isub dX10_matterNamed_43 ?_
        exact q_iretH rfl rfl dX10_matterNamed_44 hyp
def fX10_matterNamed (n : Nat) (v0 : Nat) (v1 : Int32) (h : qH) : Option (Int32 × qH) :=
  (isO h v0 10).bind fun _ =>
  fX10_matterNamed_b5 n n v0 v1 (7 * v1) h
theorem obX10_matterNamed {n : Nat} {v0 : Nat} {v1 : Int32} {h : qH} {p : Int32 × qH} (hyp : fX10_matterNamed n v0 v1 h = some p) : ∃ fs, h.1 v0 = some (.inr (10, fs)) := by
  unfold fX10_matterNamed at hyp
  exact q_bind hyp (fun _ e _ => isO_some e)
set_option maxHeartbeats 4000000 in
set_option maxRecDepth 100000 in
theorem okX10_matterNamed {l : Launch} {n : Nat} {v0 : Nat} {v1 : Int32} {h : qH} {p : Int32 × qH} (hyp : fX10_matterNamed n v0 v1 h = some p) : q_M l 1 yX10_matterNamed cX10_matterNamed 3 (some .int) [.ref v0, .int v1] h (some (.int p.1)) p.2 := by
  obtain ⟨r, h'⟩ := p
  unfold fX10_matterNamed at hyp
  refine q_bind hyp (fun _ _ hyp => ?_)
  refine q_M.of (by decide) (Nat.le_of_ble_eq_true rfl) ?_
  refine q_to (ls' := [(0, .ref v0), (1, .int v1)]) (st' := []) rfl rfl ?_
  refine q_bipush (x := 7) (by decide) dX10_matterNamed_0 ?_
  refine q_iload_n 1 rfl dX10_matterNamed_2 ?_
  refine q_imul dX10_matterNamed_3 ?_
  refine q_istore_n (ls' := [(2, .int (7 * v1)), (0, .ref v0), (1, .int v1)]) (by decide) rfl dX10_matterNamed_4 ?_
  exact q_sub [1, 2, 0] rfl (okX10_matterNamed_b5 _ v0 v1 (7 * v1) h hyp)
theorem dX10_meant_0 : decode cX10_meant 0 = .ok (.aload_n 0, 1) := by decide +kernel
theorem dX10_meant_1 : decode cX10_meant 1 = .ok (.iconst 0, 1) := by decide +kernel
theorem dX10_meant_2 : decode cX10_meant 2 = .ok (.putfield 136, 3) := by decide +kernel
theorem dX10_meant_5 : decode cX10_meant 5 = .ok (.aload_n 0, 1) := by decide +kernel
theorem dX10_meant_6 : decode cX10_meant 6 = .ok (.invokevirtual 349, 3) := by decide +kernel
theorem dX10_meant_9 : decode cX10_meant 9 = .ok (.ireturn, 1) := by decide +kernel
def fX10_meant (n : Nat) (v0 : Nat) (h : qH) : Option (Int32 × qH) :=
  (isO h v0 10).bind fun _ =>
  (pF h v0 10 0 (.int 0)).bind fun h1 =>
  (fX10_meantNow n v0 h1).bind fun p3 =>
  some (p3.1, p3.2)
theorem obX10_meant {n : Nat} {v0 : Nat} {h : qH} {p : Int32 × qH} (hyp : fX10_meant n v0 h = some p) : ∃ fs, h.1 v0 = some (.inr (10, fs)) := by
  unfold fX10_meant at hyp
  exact q_bind hyp (fun _ e _ => isO_some e)
set_option maxHeartbeats 4000000 in
set_option maxRecDepth 100000 in
theorem okX10_meant {l : Launch} {n : Nat} {v0 : Nat} {h : qH} {p : Int32 × qH} (hyp : fX10_meant n v0 h = some p) : q_M l 2 yX10_meant cX10_meant 1 (some .int) [.ref v0] h (some (.int p.1)) p.2 := by
  obtain ⟨r, h'⟩ := p
  unfold fX10_meant at hyp
  refine q_bind hyp (fun _ _ hyp => ?_)
  refine q_M.of (by decide) (Nat.le_of_ble_eq_true rfl) ?_
  refine q_to (ls' := [(0, .ref v0)]) (st' := []) rfl rfl ?_
  refine q_aload_n 0 rfl dX10_meant_0 ?_
  refine q_iconst (x := 0) rfl dX10_meant_1 ?_
  refine q_bind hyp (fun h1 e2 hyp => ?_)
  refine q_putF kF_X10_136 (fun _ => ⟨rfl, rfl⟩) dX10_meant_2 e2 ?_
  refine q_aload_n 0 rfl dX10_meant_5 ?_
  refine q_bind hyp (fun p3 e4 hyp => ?_)
  refine q_callV (as := []) (st := []) kY_X10_meantNow kL_X10_349 (okX10_meantNow (l := l) e4) (by decide) rfl (obX10_meantNow e4) (Nat.le_of_ble_eq_true rfl) dX10_meant_6 ?_
  refine q_to (ls' := [(0, .ref v0)]) (st' := [.int p3.1]) rfl rfl ?_
  exact q_iretH rfl rfl dX10_meant_9 hyp
theorem dX10_most_0 : decode cX10_most 0 = .ok (.aload_n 0, 1) := by decide +kernel
theorem dX10_most_1 : decode cX10_most 1 = .ok (.iconst 0, 1) := by decide +kernel
theorem dX10_most_2 : decode cX10_most 2 = .ok (.putfield 136, 3) := by decide +kernel
theorem dX10_most_5 : decode cX10_most 5 = .ok (.iload_n 1, 1) := by decide +kernel
theorem dX10_most_6 : decode cX10_most 6 = .ok (.iconst 0, 1) := by decide +kernel
theorem dX10_most_7 : decode cX10_most 7 = .ok (.sipush 200, 3) := by decide +kernel
theorem dX10_most_10 : decode cX10_most 10 = .ok (.invokestatic 252, 3) := by decide +kernel
theorem dX10_most_13 : decode cX10_most 13 = .ok (.ifCond .eq 12, 3) := by decide +kernel
theorem dX10_most_16 : decode cX10_most 16 = .ok (.iload_n 2, 1) := by decide +kernel
theorem dX10_most_17 : decode cX10_most 17 = .ok (.iconst 0, 1) := by decide +kernel
theorem dX10_most_18 : decode cX10_most 18 = .ok (.iconst 2, 1) := by decide +kernel
theorem dX10_most_19 : decode cX10_most 19 = .ok (.invokestatic 252, 3) := by decide +kernel
theorem dX10_most_22 : decode cX10_most 22 = .ok (.ifCond .ne 5, 3) := by decide +kernel
theorem dX10_most_25 : decode cX10_most 25 = .ok (.iconst (-1), 1) := by decide +kernel
theorem dX10_most_26 : decode cX10_most 26 = .ok (.ireturn, 1) := by decide +kernel
theorem dX10_most_27 : decode cX10_most 27 = .ok (.aload_n 0, 1) := by decide +kernel
theorem dX10_most_28 : decode cX10_most 28 = .ok (.invokevirtual 390, 3) := by decide +kernel
theorem dX10_most_31 : decode cX10_most 31 = .ok (.aload_n 0, 1) := by decide +kernel
theorem dX10_most_32 : decode cX10_most 32 = .ok (.invokevirtual 349, 3) := by decide +kernel
theorem dX10_most_35 : decode cX10_most 35 = .ok (.istore_n 3, 1) := by decide +kernel
theorem dX10_most_36 : decode cX10_most 36 = .ok (.iload_n 3, 1) := by decide +kernel
theorem dX10_most_37 : decode cX10_most 37 = .ok (.istore 4, 2) := by decide +kernel
theorem dX10_most_39 : decode cX10_most 39 = .ok (.iconst 0, 1) := by decide +kernel
theorem dX10_most_40 : decode cX10_most 40 = .ok (.istore 5, 2) := by decide +kernel
theorem dX10_most_42 : decode cX10_most 42 = .ok (.iload 5, 2) := by decide +kernel
theorem dX10_most_44 : decode cX10_most 44 = .ok (.aload_n 0, 1) := by decide +kernel
theorem dX10_most_45 : decode cX10_most 45 = .ok (.invokevirtual 377, 3) := by decide +kernel
theorem dX10_most_48 : decode cX10_most 48 = .ok (.if_icmp .gt 75, 3) := by decide +kernel
theorem dX10_most_51 : decode cX10_most 51 = .ok (.iload 5, 2) := by decide +kernel
theorem dX10_most_53 : decode cX10_most 53 = .ok (.iload_n 3, 1) := by decide +kernel
theorem dX10_most_54 : decode cX10_most 54 = .ok (.iand, 1) := by decide +kernel
theorem dX10_most_55 : decode cX10_most 55 = .ok (.iload_n 3, 1) := by decide +kernel
theorem dX10_most_56 : decode cX10_most 56 = .ok (.if_icmp .ne 61, 3) := by decide +kernel
theorem dX10_most_59 : decode cX10_most 59 = .ok (.aload_n 0, 1) := by decide +kernel
theorem dX10_most_60 : decode cX10_most 60 = .ok (.iload 5, 2) := by decide +kernel
theorem dX10_most_62 : decode cX10_most 62 = .ok (.invokevirtual 393, 3) := by decide +kernel
theorem dX10_most_65 : decode cX10_most 65 = .ok (.iload_n 1, 1) := by decide +kernel
theorem dX10_most_66 : decode cX10_most 66 = .ok (.if_icmp .gt 51, 3) := by decide +kernel
theorem dX10_most_69 : decode cX10_most 69 = .ok (.iload 5, 2) := by decide +kernel
theorem dX10_most_71 : decode cX10_most 71 = .ok (.invokestatic 371, 3) := by decide +kernel
theorem dX10_most_74 : decode cX10_most 74 = .ok (.iload 4, 2) := by decide +kernel
theorem dX10_most_76 : decode cX10_most 76 = .ok (.invokestatic 371, 3) := by decide +kernel
theorem dX10_most_79 : decode cX10_most 79 = .ok (.if_icmp .ge 6, 3) := by decide +kernel
theorem dX10_most_82 : decode cX10_most 82 = .ok (.goto 35, 3) := by decide +kernel
theorem dX10_most_85 : decode cX10_most 85 = .ok (.iload 5, 2) := by decide +kernel
theorem dX10_most_87 : decode cX10_most 87 = .ok (.invokestatic 371, 3) := by decide +kernel
theorem dX10_most_90 : decode cX10_most 90 = .ok (.iload 4, 2) := by decide +kernel
theorem dX10_most_92 : decode cX10_most 92 = .ok (.invokestatic 371, 3) := by decide +kernel
theorem dX10_most_95 : decode cX10_most 95 = .ok (.if_icmp .gt 18, 3) := by decide +kernel
theorem dX10_most_98 : decode cX10_most 98 = .ok (.aload_n 0, 1) := by decide +kernel
theorem dX10_most_99 : decode cX10_most 99 = .ok (.iload 5, 2) := by decide +kernel
theorem dX10_most_101 : decode cX10_most 101 = .ok (.invokevirtual 393, 3) := by decide +kernel
theorem dX10_most_104 : decode cX10_most 104 = .ok (.aload_n 0, 1) := by decide +kernel
theorem dX10_most_105 : decode cX10_most 105 = .ok (.iload 4, 2) := by decide +kernel
theorem dX10_most_107 : decode cX10_most 107 = .ok (.invokevirtual 393, 3) := by decide +kernel
theorem dX10_most_110 : decode cX10_most 110 = .ok (.if_icmp .ge 7, 3) := by decide +kernel
theorem dX10_most_113 : decode cX10_most 113 = .ok (.iload 5, 2) := by decide +kernel
theorem dX10_most_115 : decode cX10_most 115 = .ok (.istore 4, 2) := by decide +kernel
theorem dX10_most_117 : decode cX10_most 117 = .ok (.iinc 5 1, 3) := by decide +kernel
theorem dX10_most_120 : decode cX10_most 120 = .ok (.goto (-78), 3) := by decide +kernel
theorem dX10_most_123 : decode cX10_most 123 = .ok (.iload_n 2, 1) := by decide +kernel
theorem dX10_most_124 : decode cX10_most 124 = .ok (.ifCond .ne 11, 3) := by decide +kernel
theorem dX10_most_127 : decode cX10_most 127 = .ok (.iload 4, 2) := by decide +kernel
theorem dX10_most_129 : decode cX10_most 129 = .ok (.invokestatic 371, 3) := by decide +kernel
theorem dX10_most_132 : decode cX10_most 132 = .ok (.goto 19, 3) := by decide +kernel
theorem dX10_most_135 : decode cX10_most 135 = .ok (.iload_n 2, 1) := by decide +kernel
theorem dX10_most_136 : decode cX10_most 136 = .ok (.iconst 1, 1) := by decide +kernel
theorem dX10_most_137 : decode cX10_most 137 = .ok (.if_icmp .ne 12, 3) := by decide +kernel
theorem dX10_most_140 : decode cX10_most 140 = .ok (.aload_n 0, 1) := by decide +kernel
theorem dX10_most_141 : decode cX10_most 141 = .ok (.iload 4, 2) := by decide +kernel
theorem dX10_most_143 : decode cX10_most 143 = .ok (.invokevirtual 393, 3) := by decide +kernel
theorem dX10_most_146 : decode cX10_most 146 = .ok (.goto 5, 3) := by decide +kernel
theorem dX10_most_149 : decode cX10_most 149 = .ok (.iload 4, 2) := by decide +kernel
theorem dX10_most_151 : decode cX10_most 151 = .ok (.ireturn, 1) := by decide +kernel
def fX10_most_b42 (n : Nat) : Nat → Nat → Int32 → Int32 → Int32 → Int32 → Int32 → qH → Option (Int32 × qH)
  | 0, _, _, _, _, _, _, _ => none
  | w + 1, v0, v1, v2, v3, v4, v5, h =>
    (fX10_every v0 h).bind fun p1 =>
    if p1.1 < v5 then
    (if v2 = 0 then
    ((fX10_bits n v4 p1.2).bind fun p7 =>
    some (p7.1, p7.2))
    else
    (if v2 = 1 then
    ((fX10_costsOf n v0 v4 p1.2).bind fun p5 =>
    some (p5.1, p5.2))
    else
    (some (v4, p1.2))))
    else
    (if (v5 &&& v3) = v3 then
    ((fX10_costsOf n v0 v5 p1.2).bind fun p10 =>
    if v1 < p10.1 then
    (fX10_most_b42 n w v0 v1 v2 v3 v4 (v5 + 1) p10.2)
    else
    ((fX10_bits n v5 p10.2).bind fun p12 =>
    (fX10_bits n v4 p12.2).bind fun p13 =>
    if p13.1 ≤ p12.1 then
    ((fX10_bits n v5 p13.2).bind fun p15 =>
    (fX10_bits n v4 p15.2).bind fun p16 =>
    if p16.1 < p15.1 then
    (fX10_most_b42 n w v0 v1 v2 v3 v5 (v5 + 1) p16.2)
    else
    ((fX10_costsOf n v0 v5 p16.2).bind fun p18 =>
    (fX10_costsOf n v0 v4 p18.2).bind fun p19 =>
    if p19.1 ≤ p18.1 then
    (fX10_most_b42 n w v0 v1 v2 v3 v4 (v5 + 1) p19.2)
    else
    (fX10_most_b42 n w v0 v1 v2 v3 v5 (v5 + 1) p19.2)))
    else
    (fX10_most_b42 n w v0 v1 v2 v3 v4 (v5 + 1) p13.2)))
    else
    (fX10_most_b42 n w v0 v1 v2 v3 v4 (v5 + 1) p1.2))
set_option maxHeartbeats 4000000 in
set_option maxRecDepth 100000 in
theorem okX10_most_b42 {l : Launch} {n : Nat} {r : Int32} {h' : qH} : ∀ (w : Nat) (v0 : Nat) (v1 : Int32) (v2 : Int32) (v3 : Int32) (v4 : Int32) (v5 : Int32) (h : qH), fX10_most_b42 n w v0 v1 v2 v3 v4 v5 h = some (r, h') → q_W l 8 yX10_most cX10_most 6 (some .int) (some (.int r)) h' 42 [(0, .ref v0), (1, .int v1), (2, .int v2), (3, .int v3), (4, .int v4), (5, .int v5)] [] h := by
  intro w
  induction w with
  | zero => intro v0 v1 v2 v3 v4 v5 h hyp; cases hyp
  | succ w ih =>
    intro v0 v1 v2 v3 v4 v5 h hyp
    unfold fX10_most_b42 at hyp
    refine q_iload 5 rfl dX10_most_42 ?_
    refine q_aload_n 0 rfl dX10_most_44 ?_
    refine q_bind hyp (fun p1 e28 hyp => ?_)
    refine q_callV (as := []) (st := [.int v5]) kY_X10_every kL_X10_377 (okX10_every (l := l) e28) (by decide) rfl (obX10_every e28) (Nat.le_of_ble_eq_true rfl) dX10_most_45 ?_
    refine q_to (ls' := [(0, .ref v0), (1, .int v1), (2, .int v2), (3, .int v3), (4, .int v4), (5, .int v5)]) (st' := [.int p1.1, .int v5]) rfl rfl ?_
    refine q_icmp_gt (tgt := 123) dX10_most_48 (by decide) (fun c2 => ?_) (fun c2 => ?_)
    · have hyp := q_pos c2 hyp
      refine q_iload_n 2 rfl dX10_most_123 ?_
      refine q_if_ne (tgt := 135) dX10_most_124 (by decide) (fun c3 => ?_) (fun c3 => ?_)
      · have hyp := q_neg c3 hyp
        refine q_iload_n 2 rfl dX10_most_135 ?_
        refine q_iconst (x := 1) rfl dX10_most_136 ?_
        refine q_icmp_ne (tgt := 149) dX10_most_137 (by decide) (fun c4 => ?_) (fun c4 => ?_)
        · have hyp := q_neg c4 hyp
          refine q_iload 4 rfl dX10_most_149 ?_
          exact q_iretH rfl rfl dX10_most_151 hyp
        · have hyp := q_pos c4 hyp
          refine q_aload_n 0 rfl dX10_most_140 ?_
          refine q_iload 4 rfl dX10_most_141 ?_
          refine q_bind hyp (fun p5 e6 hyp => ?_)
          refine q_callV (as := [.int v4]) (st := []) kY_X10_costsOf kL_X10_393 (okX10_costsOf (l := l) e6) (by decide) rfl (obX10_costsOf e6) (Nat.le_of_ble_eq_true rfl) dX10_most_143 ?_
          refine q_to (ls' := [(0, .ref v0), (1, .int v1), (2, .int v2), (3, .int v3), (4, .int v4), (5, .int v5)]) (st' := [.int p5.1]) rfl rfl ?_
          refine q_goto (tgt := 151) dX10_most_146 (by decide) ?_
          exact q_iretH rfl rfl dX10_most_151 hyp
      · have hyp := q_pos c3 hyp
        refine q_iload 4 rfl dX10_most_127 ?_
        refine q_bind hyp (fun p7 e8 hyp => ?_)
        refine q_callS (as := [.int v4]) (st := []) kY_X10_bits kS_X10_bits kL_X10_371 (okX10_bits (l := l) e8) (by decide) rfl (Nat.le_of_ble_eq_true rfl) dX10_most_129 ?_
        refine q_to (ls' := [(0, .ref v0), (1, .int v1), (2, .int v2), (3, .int v3), (4, .int v4), (5, .int v5)]) (st' := [.int p7.1]) rfl rfl ?_
        refine q_goto (tgt := 151) dX10_most_132 (by decide) ?_
        exact q_iretH rfl rfl dX10_most_151 hyp
    · have hyp := q_neg c2 hyp
      refine q_iload 5 rfl dX10_most_51 ?_
      refine q_iload_n 3 rfl dX10_most_53 ?_
      refine q_iand dX10_most_54 ?_
      refine q_iload_n 3 rfl dX10_most_55 ?_
      refine q_icmp_ne (tgt := 117) dX10_most_56 (by decide) (fun c9 => ?_) (fun c9 => ?_)
      · have hyp := q_neg c9 hyp
        refine q_iinc (ls' := [(5, .int (v5 + 1)), (0, .ref v0), (1, .int v1), (2, .int v2), (3, .int v3), (4, .int v4)]) 5 rfl rfl (by decide) rfl dX10_most_117 ?_
        refine q_goto (tgt := 42) dX10_most_120 (by decide) ?_
        exact q_sub [1, 2, 3, 4, 5, 0] rfl (ih v0 v1 v2 v3 v4 (v5 + 1) p1.2 hyp)
      · have hyp := q_pos c9 hyp
        refine q_aload_n 0 rfl dX10_most_59 ?_
        refine q_iload 5 rfl dX10_most_60 ?_
        refine q_bind hyp (fun p10 e27 hyp => ?_)
        refine q_callV (as := [.int v5]) (st := []) kY_X10_costsOf kL_X10_393 (okX10_costsOf (l := l) e27) (by decide) rfl (obX10_costsOf e27) (Nat.le_of_ble_eq_true rfl) dX10_most_62 ?_
        refine q_to (ls' := [(0, .ref v0), (1, .int v1), (2, .int v2), (3, .int v3), (4, .int v4), (5, .int v5)]) (st' := [.int p10.1]) rfl rfl ?_
        refine q_iload_n 1 rfl dX10_most_65 ?_
        refine q_icmp_gt (tgt := 117) dX10_most_66 (by decide) (fun c11 => ?_) (fun c11 => ?_)
        · have hyp := q_pos c11 hyp
          refine q_iinc (ls' := [(5, .int (v5 + 1)), (0, .ref v0), (1, .int v1), (2, .int v2), (3, .int v3), (4, .int v4)]) 5 rfl rfl (by decide) rfl dX10_most_117 ?_
          refine q_goto (tgt := 42) dX10_most_120 (by decide) ?_
          exact q_sub [1, 2, 3, 4, 5, 0] rfl (ih v0 v1 v2 v3 v4 (v5 + 1) p10.2 hyp)
        · have hyp := q_neg c11 hyp
          refine q_iload 5 rfl dX10_most_69 ?_
          refine q_bind hyp (fun p12 e26 hyp => ?_)
          refine q_callS (as := [.int v5]) (st := []) kY_X10_bits kS_X10_bits kL_X10_371 (okX10_bits (l := l) e26) (by decide) rfl (Nat.le_of_ble_eq_true rfl) dX10_most_71 ?_
          refine q_to (ls' := [(0, .ref v0), (1, .int v1), (2, .int v2), (3, .int v3), (4, .int v4), (5, .int v5)]) (st' := [.int p12.1]) rfl rfl ?_
          refine q_iload 4 rfl dX10_most_74 ?_
          refine q_bind hyp (fun p13 e25 hyp => ?_)
          refine q_callS (as := [.int v4]) (st := [.int p12.1]) kY_X10_bits kS_X10_bits kL_X10_371 (okX10_bits (l := l) e25) (by decide) rfl (Nat.le_of_ble_eq_true rfl) dX10_most_76 ?_
          refine q_to (ls' := [(0, .ref v0), (1, .int v1), (2, .int v2), (3, .int v3), (4, .int v4), (5, .int v5)]) (st' := [.int p13.1, .int p12.1]) rfl rfl ?_
          refine q_icmp_ge (tgt := 85) dX10_most_79 (by decide) (fun c14 => ?_) (fun c14 => ?_)
          · have hyp := q_pos c14 hyp
            refine q_iload 5 rfl dX10_most_85 ?_
            refine q_bind hyp (fun p15 e24 hyp => ?_)
            refine q_callS (as := [.int v5]) (st := []) kY_X10_bits kS_X10_bits kL_X10_371 (okX10_bits (l := l) e24) (by decide) rfl (Nat.le_of_ble_eq_true rfl) dX10_most_87 ?_
            refine q_to (ls' := [(0, .ref v0), (1, .int v1), (2, .int v2), (3, .int v3), (4, .int v4), (5, .int v5)]) (st' := [.int p15.1]) rfl rfl ?_
            refine q_iload 4 rfl dX10_most_90 ?_
            refine q_bind hyp (fun p16 e23 hyp => ?_)
            refine q_callS (as := [.int v4]) (st := [.int p15.1]) kY_X10_bits kS_X10_bits kL_X10_371 (okX10_bits (l := l) e23) (by decide) rfl (Nat.le_of_ble_eq_true rfl) dX10_most_92 ?_
            refine q_to (ls' := [(0, .ref v0), (1, .int v1), (2, .int v2), (3, .int v3), (4, .int v4), (5, .int v5)]) (st' := [.int p16.1, .int p15.1]) rfl rfl ?_
            refine q_icmp_gt (tgt := 113) dX10_most_95 (by decide) (fun c17 => ?_) (fun c17 => ?_)
            · have hyp := q_pos c17 hyp
              refine q_iload 5 rfl dX10_most_113 ?_
              refine q_istore (ls' := [(4, .int v5), (0, .ref v0), (1, .int v1), (2, .int v2), (3, .int v3), (5, .int v5)]) (by decide) rfl dX10_most_115 ?_
              refine q_iinc (ls' := [(5, .int (v5 + 1)), (4, .int v5), (0, .ref v0), (1, .int v1), (2, .int v2), (3, .int v3)]) 5 rfl rfl (by decide) rfl dX10_most_117 ?_
              refine q_goto (tgt := 42) dX10_most_120 (by decide) ?_
              exact q_sub [2, 3, 4, 5, 1, 0] rfl (ih v0 v1 v2 v3 v5 (v5 + 1) p16.2 hyp)
            · have hyp := q_neg c17 hyp
              refine q_aload_n 0 rfl dX10_most_98 ?_
              refine q_iload 5 rfl dX10_most_99 ?_
              refine q_bind hyp (fun p18 e22 hyp => ?_)
              refine q_callV (as := [.int v5]) (st := []) kY_X10_costsOf kL_X10_393 (okX10_costsOf (l := l) e22) (by decide) rfl (obX10_costsOf e22) (Nat.le_of_ble_eq_true rfl) dX10_most_101 ?_
              refine q_to (ls' := [(0, .ref v0), (1, .int v1), (2, .int v2), (3, .int v3), (4, .int v4), (5, .int v5)]) (st' := [.int p18.1]) rfl rfl ?_
              refine q_aload_n 0 rfl dX10_most_104 ?_
              refine q_iload 4 rfl dX10_most_105 ?_
              refine q_bind hyp (fun p19 e21 hyp => ?_)
              refine q_callV (as := [.int v4]) (st := [.int p18.1]) kY_X10_costsOf kL_X10_393 (okX10_costsOf (l := l) e21) (by decide) rfl (obX10_costsOf e21) (Nat.le_of_ble_eq_true rfl) dX10_most_107 ?_
              refine q_to (ls' := [(0, .ref v0), (1, .int v1), (2, .int v2), (3, .int v3), (4, .int v4), (5, .int v5)]) (st' := [.int p19.1, .int p18.1]) rfl rfl ?_
              refine q_icmp_ge (tgt := 117) dX10_most_110 (by decide) (fun c20 => ?_) (fun c20 => ?_)
              · have hyp := q_pos c20 hyp
                refine q_iinc (ls' := [(5, .int (v5 + 1)), (0, .ref v0), (1, .int v1), (2, .int v2), (3, .int v3), (4, .int v4)]) 5 rfl rfl (by decide) rfl dX10_most_117 ?_
                refine q_goto (tgt := 42) dX10_most_120 (by decide) ?_
                exact q_sub [1, 2, 3, 4, 5, 0] rfl (ih v0 v1 v2 v3 v4 (v5 + 1) p19.2 hyp)
              · have hyp := q_neg c20 hyp
                refine q_iload 5 rfl dX10_most_113 ?_
                refine q_istore (ls' := [(4, .int v5), (0, .ref v0), (1, .int v1), (2, .int v2), (3, .int v3), (5, .int v5)]) (by decide) rfl dX10_most_115 ?_
                refine q_iinc (ls' := [(5, .int (v5 + 1)), (4, .int v5), (0, .ref v0), (1, .int v1), (2, .int v2), (3, .int v3)]) 5 rfl rfl (by decide) rfl dX10_most_117 ?_
                refine q_goto (tgt := 42) dX10_most_120 (by decide) ?_
                exact q_sub [2, 3, 4, 5, 1, 0] rfl (ih v0 v1 v2 v3 v5 (v5 + 1) p19.2 hyp)
          · have hyp := q_neg c14 hyp
            refine q_goto (tgt := 117) dX10_most_82 (by decide) ?_
            refine q_iinc (ls' := [(5, .int (v5 + 1)), (0, .ref v0), (1, .int v1), (2, .int v2), (3, .int v3), (4, .int v4)]) 5 rfl rfl (by decide) rfl dX10_most_117 ?_
            refine q_goto (tgt := 42) dX10_most_120 (by decide) ?_
            exact q_sub [1, 2, 3, 4, 5, 0] rfl (ih v0 v1 v2 v3 v4 (v5 + 1) p13.2 hyp)
def fX10_most (n : Nat) (v0 : Nat) (v1 : Int32) (v2 : Int32) (h : qH) : Option (Int32 × qH) :=
  (isO h v0 10).bind fun _ =>
  (pF h v0 10 0 (.int 0)).bind fun h1 =>
  (fX10_within v1 0 200 h1).bind fun p3 =>
  if p3.1 = 0 then
  (some ((-1), p3.2))
  else
  ((fX10_within v2 0 2 p3.2).bind fun p5 =>
  if p5.1 = 0 then
  (some ((-1), p5.2))
  else
  ((fX10_laysCosts n v0 p5.2).bind fun h7 =>
  (fX10_meantNow n v0 h7).bind fun p8 =>
  fX10_most_b42 n n v0 v1 v2 p8.1 p8.1 0 p8.2))
theorem obX10_most {n : Nat} {v0 : Nat} {v1 : Int32} {v2 : Int32} {h : qH} {p : Int32 × qH} (hyp : fX10_most n v0 v1 v2 h = some p) : ∃ fs, h.1 v0 = some (.inr (10, fs)) := by
  unfold fX10_most at hyp
  exact q_bind hyp (fun _ e _ => isO_some e)
set_option maxHeartbeats 4000000 in
set_option maxRecDepth 100000 in
theorem okX10_most {l : Launch} {n : Nat} {v0 : Nat} {v1 : Int32} {v2 : Int32} {h : qH} {p : Int32 × qH} (hyp : fX10_most n v0 v1 v2 h = some p) : q_M l 8 yX10_most cX10_most 6 (some .int) [.ref v0, .int v1, .int v2] h (some (.int p.1)) p.2 := by
  obtain ⟨r, h'⟩ := p
  unfold fX10_most at hyp
  refine q_bind hyp (fun _ _ hyp => ?_)
  refine q_M.of (by decide) (Nat.le_of_ble_eq_true rfl) ?_
  refine q_to (ls' := [(0, .ref v0), (1, .int v1), (2, .int v2)]) (st' := []) rfl rfl ?_
  refine q_aload_n 0 rfl dX10_most_0 ?_
  refine q_iconst (x := 0) rfl dX10_most_1 ?_
  refine q_bind hyp (fun h1 e2 hyp => ?_)
  refine q_putF kF_X10_136 (fun _ => ⟨rfl, rfl⟩) dX10_most_2 e2 ?_
  refine q_iload_n 1 rfl dX10_most_5 ?_
  refine q_iconst (x := 0) rfl dX10_most_6 ?_
  refine q_sipush (x := 200) (by decide) dX10_most_7 ?_
  refine q_bind hyp (fun p3 e12 hyp => ?_)
  refine q_callS (as := [.int v1, .int 0, .int 200]) (st := []) kY_X10_within kS_X10_within kL_X10_252 (okX10_within (l := l) e12) (by decide) rfl (Nat.le_of_ble_eq_true rfl) dX10_most_10 ?_
  refine q_to (ls' := [(0, .ref v0), (1, .int v1), (2, .int v2)]) (st' := [.int p3.1]) rfl rfl ?_
  refine q_if_eq (tgt := 25) dX10_most_13 (by decide) (fun c4 => ?_) (fun c4 => ?_)
  · have hyp := q_pos c4 hyp
    refine q_iconst (x := (-1)) rfl dX10_most_25 ?_
    exact q_iretH rfl rfl dX10_most_26 hyp
  · have hyp := q_neg c4 hyp
    refine q_iload_n 2 rfl dX10_most_16 ?_
    refine q_iconst (x := 0) rfl dX10_most_17 ?_
    refine q_iconst (x := 2) rfl dX10_most_18 ?_
    refine q_bind hyp (fun p5 e11 hyp => ?_)
    refine q_callS (as := [.int v2, .int 0, .int 2]) (st := []) kY_X10_within kS_X10_within kL_X10_252 (okX10_within (l := l) e11) (by decide) rfl (Nat.le_of_ble_eq_true rfl) dX10_most_19 ?_
    refine q_to (ls' := [(0, .ref v0), (1, .int v1), (2, .int v2)]) (st' := [.int p5.1]) rfl rfl ?_
    refine q_if_ne (tgt := 27) dX10_most_22 (by decide) (fun c6 => ?_) (fun c6 => ?_)
    · have hyp := q_neg c6 hyp
      refine q_aload_n 0 rfl dX10_most_27 ?_
      refine q_bind hyp (fun h7 e10 hyp => ?_)
      refine q_callV (as := []) (st := []) kY_X10_laysCosts kL_X10_390 (okX10_laysCosts (l := l) e10) (by decide) rfl (obX10_laysCosts e10) (Nat.le_of_ble_eq_true rfl) dX10_most_28 ?_
      refine q_to (ls' := [(0, .ref v0), (1, .int v1), (2, .int v2)]) (st' := []) rfl rfl ?_
      refine q_aload_n 0 rfl dX10_most_31 ?_
      refine q_bind hyp (fun p8 e9 hyp => ?_)
      refine q_callV (as := []) (st := []) kY_X10_meantNow kL_X10_349 (okX10_meantNow (l := l) e9) (by decide) rfl (obX10_meantNow e9) (Nat.le_of_ble_eq_true rfl) dX10_most_32 ?_
      refine q_to (ls' := [(0, .ref v0), (1, .int v1), (2, .int v2)]) (st' := [.int p8.1]) rfl rfl ?_
      refine q_istore_n (ls' := [(3, .int p8.1), (0, .ref v0), (1, .int v1), (2, .int v2)]) (by decide) rfl dX10_most_35 ?_
      refine q_iload_n 0 rfl dX10_most_36 ?_
      refine q_istore (ls' := [(4, .int p8.1), (3, .int p8.1), (0, .ref v0), (1, .int v1), (2, .int v2)]) (by decide) rfl dX10_most_37 ?_
      refine q_iconst (x := 0) rfl dX10_most_39 ?_
      refine q_istore (ls' := [(5, .int 0), (4, .int p8.1), (3, .int p8.1), (0, .ref v0), (1, .int v1), (2, .int v2)]) (by decide) rfl dX10_most_40 ?_
      exact q_sub [3, 4, 5, 2, 1, 0] rfl (okX10_most_b42 _ v0 v1 v2 p8.1 p8.1 0 p8.2 hyp)
    · have hyp := q_pos c6 hyp
      refine q_iconst (x := (-1)) rfl dX10_most_25 ?_
      exact q_iretH rfl rfl dX10_most_26 hyp
theorem dX10_needsNumber_0 : decode cX10_needsNumber 0 = .ok (.aload_n 0, 1) := by decide +kernel
theorem dX10_needsNumber_1 : decode cX10_needsNumber 1 = .ok (.getfield 161, 3) := by decide +kernel
theorem dX10_needsNumber_4 : decode cX10_needsNumber 4 = .ok (.iconst 2, 1) := by decide +kernel
theorem dX10_needsNumber_5 : decode cX10_needsNumber 5 = .ok (.if_icmp .eq 9, 3) := by decide +kernel
theorem dX10_needsNumber_8 : decode cX10_needsNumber 8 = .ok (.aload_n 0, 1) := by decide +kernel
theorem dX10_needsNumber_9 : decode cX10_needsNumber 9 = .ok (.iconst 1, 1) := by decide +kernel
theorem dX10_needsNumber_10 : decode cX10_needsNumber 10 = .ok (.invokevirtual 200, 3) := by decide +kernel
theorem dX10_needsNumber_13 : decode cX10_needsNumber 13 = .ok (.ireturn, 1) := by decide +kernel
theorem dX10_needsNumber_14 : decode cX10_needsNumber 14 = .ok (.aload_n 0, 1) := by decide +kernel
theorem dX10_needsNumber_15 : decode cX10_needsNumber 15 = .ok (.getfield 158, 3) := by decide +kernel
theorem dX10_needsNumber_18 : decode cX10_needsNumber 18 = .ok (.iload_n 1, 1) := by decide +kernel
theorem dX10_needsNumber_19 : decode cX10_needsNumber 19 = .ok (.iload_n 2, 1) := by decide +kernel
theorem dX10_needsNumber_20 : decode cX10_needsNumber 20 = .ok (.invokestatic 252, 3) := by decide +kernel
theorem dX10_needsNumber_23 : decode cX10_needsNumber 23 = .ok (.ifCond .ne 9, 3) := by decide +kernel
theorem dX10_needsNumber_26 : decode cX10_needsNumber 26 = .ok (.aload_n 0, 1) := by decide +kernel
theorem dX10_needsNumber_27 : decode cX10_needsNumber 27 = .ok (.iconst 4, 1) := by decide +kernel
theorem dX10_needsNumber_28 : decode cX10_needsNumber 28 = .ok (.invokevirtual 200, 3) := by decide +kernel
theorem dX10_needsNumber_31 : decode cX10_needsNumber 31 = .ok (.ireturn, 1) := by decide +kernel
theorem dX10_needsNumber_32 : decode cX10_needsNumber 32 = .ok (.aload_n 0, 1) := by decide +kernel
theorem dX10_needsNumber_33 : decode cX10_needsNumber 33 = .ok (.aload_n 0, 1) := by decide +kernel
theorem dX10_needsNumber_34 : decode cX10_needsNumber 34 = .ok (.getfield 158, 3) := by decide +kernel
theorem dX10_needsNumber_37 : decode cX10_needsNumber 37 = .ok (.putfield 256, 3) := by decide +kernel
theorem dX10_needsNumber_40 : decode cX10_needsNumber 40 = .ok (.aload_n 0, 1) := by decide +kernel
theorem dX10_needsNumber_41 : decode cX10_needsNumber 41 = .ok (.invokevirtual 206, 3) := by decide +kernel
theorem dX10_needsNumber_44 : decode cX10_needsNumber 44 = .ok (.iconst 1, 1) := by decide +kernel
theorem dX10_needsNumber_45 : decode cX10_needsNumber 45 = .ok (.ireturn, 1) := by decide +kernel
def fX10_needsNumber (n : Nat) (v0 : Nat) (v1 : Int32) (v2 : Int32) (h : qH) : Option (Int32 × qH) :=
  (isO h v0 10).bind fun _ =>
  (gI h v0 10 6).bind fun x1 =>
  if x1 = 2 then
  ((gI h v0 10 8).bind fun x4 =>
  (fX10_within x4 v1 v2 h).bind fun p6 =>
  if p6.1 = 0 then
  ((fX10_fails v0 4 p6.2).bind fun p14 =>
  (qB p14.1).bind fun _ =>
  some (p14.1, p14.2))
  else
  ((gI p6.2 v0 10 8).bind fun x8 =>
  (pF p6.2 v0 10 33 (.int x8)).bind fun h10 =>
  (fX10_nextToken n v0 h10).bind fun h12 =>
  some (1, h12)))
  else
  ((fX10_fails v0 1 h).bind fun p18 =>
  (qB p18.1).bind fun _ =>
  some (p18.1, p18.2))
theorem obX10_needsNumber {n : Nat} {v0 : Nat} {v1 : Int32} {v2 : Int32} {h : qH} {p : Int32 × qH} (hyp : fX10_needsNumber n v0 v1 v2 h = some p) : ∃ fs, h.1 v0 = some (.inr (10, fs)) := by
  unfold fX10_needsNumber at hyp
  exact q_bind hyp (fun _ e _ => isO_some e)
set_option maxHeartbeats 4000000 in
set_option maxRecDepth 100000 in
theorem okX10_needsNumber {l : Launch} {n : Nat} {v0 : Nat} {v1 : Int32} {v2 : Int32} {h : qH} {p : Int32 × qH} (hyp : fX10_needsNumber n v0 v1 v2 h = some p) : q_M l 3 yX10_needsNumber cX10_needsNumber 3 (some .boolean) [.ref v0, .int v1, .int v2] h (some (.int p.1)) p.2 := by
  obtain ⟨r, h'⟩ := p
  unfold fX10_needsNumber at hyp
  refine q_bind hyp (fun _ _ hyp => ?_)
  refine q_M.of (by decide) (Nat.le_of_ble_eq_true rfl) ?_
  refine q_to (ls' := [(0, .ref v0), (1, .int v1), (2, .int v2)]) (st' := []) rfl rfl ?_
  refine q_aload_n 0 rfl dX10_needsNumber_0 ?_
  refine q_bind hyp (fun x1 e2 hyp => ?_)
  refine q_getI kF_X10_161 dX10_needsNumber_1 e2 ?_
  refine q_iconst (x := 2) rfl dX10_needsNumber_4 ?_
  refine q_icmp_eq (tgt := 14) dX10_needsNumber_5 (by decide) (fun c3 => ?_) (fun c3 => ?_)
  · have hyp := q_pos c3 hyp
    refine q_aload_n 0 rfl dX10_needsNumber_14 ?_
    refine q_bind hyp (fun x4 e5 hyp => ?_)
    refine q_getI kF_X10_158 dX10_needsNumber_15 e5 ?_
    refine q_iload_n 1 rfl dX10_needsNumber_18 ?_
    refine q_iload_n 2 rfl dX10_needsNumber_19 ?_
    refine q_bind hyp (fun p6 e17 hyp => ?_)
    refine q_callS (as := [.int x4, .int v1, .int v2]) (st := []) kY_X10_within kS_X10_within kL_X10_252 (okX10_within (l := l) e17) (by decide) rfl (Nat.le_of_ble_eq_true rfl) dX10_needsNumber_20 ?_
    refine q_to (ls' := [(0, .ref v0), (1, .int v1), (2, .int v2)]) (st' := [.int p6.1]) rfl rfl ?_
    refine q_if_ne (tgt := 32) dX10_needsNumber_23 (by decide) (fun c7 => ?_) (fun c7 => ?_)
    · have hyp := q_neg c7 hyp
      refine q_aload_n 0 rfl dX10_needsNumber_32 ?_
      refine q_aload_n 0 rfl dX10_needsNumber_33 ?_
      refine q_bind hyp (fun x8 e9 hyp => ?_)
      refine q_getI kF_X10_158 dX10_needsNumber_34 e9 ?_
      refine q_bind hyp (fun h10 e11 hyp => ?_)
      refine q_putF kF_X10_256 (fun _ => ⟨rfl, rfl⟩) dX10_needsNumber_37 e11 ?_
      refine q_aload_n 0 rfl dX10_needsNumber_40 ?_
      refine q_bind hyp (fun h12 e13 hyp => ?_)
      refine q_callV (as := []) (st := []) kY_X10_nextToken kL_X10_206 (okX10_nextToken (l := l) e13) (by decide) rfl (obX10_nextToken e13) (Nat.le_of_ble_eq_true rfl) dX10_needsNumber_41 ?_
      refine q_to (ls' := [(0, .ref v0), (1, .int v1), (2, .int v2)]) (st' := []) rfl rfl ?_
      refine q_iconst (x := 1) rfl dX10_needsNumber_44 ?_
      exact q_iretH rfl rfl dX10_needsNumber_45 hyp
    · have hyp := q_pos c7 hyp
      refine q_aload_n 0 rfl dX10_needsNumber_26 ?_
      refine q_iconst (x := 4) rfl dX10_needsNumber_27 ?_
      refine q_bind hyp (fun p14 e16 hyp => ?_)
      refine q_callV (as := [.int 4]) (st := []) kY_X10_fails kL_X10_200 (okX10_fails (l := l) e16) (by decide) rfl (obX10_fails e16) (Nat.le_of_ble_eq_true rfl) dX10_needsNumber_28 ?_
      refine q_to (ls' := [(0, .ref v0), (1, .int v1), (2, .int v2)]) (st' := [.int p14.1]) rfl rfl ?_
      refine q_bind hyp (fun _ e15 hyp => ?_)
      exact q_iretH rfl (qB_some e15) dX10_needsNumber_31 hyp
  · have hyp := q_neg c3 hyp
    refine q_aload_n 0 rfl dX10_needsNumber_8 ?_
    refine q_iconst (x := 1) rfl dX10_needsNumber_9 ?_
    refine q_bind hyp (fun p18 e20 hyp => ?_)
    refine q_callV (as := [.int 1]) (st := []) kY_X10_fails kL_X10_200 (okX10_fails (l := l) e20) (by decide) rfl (obX10_fails e20) (Nat.le_of_ble_eq_true rfl) dX10_needsNumber_10 ?_
    refine q_to (ls' := [(0, .ref v0), (1, .int v1), (2, .int v2)]) (st' := [.int p18.1]) rfl rfl ?_
    refine q_bind hyp (fun _ e19 hyp => ?_)
    exact q_iretH rfl (qB_some e19) dX10_needsNumber_13 hyp
theorem dX10_needsBoth_0 : decode cX10_needsBoth 0 = .ok (.aload_n 0, 1) := by decide +kernel
theorem dX10_needsBoth_1 : decode cX10_needsBoth 1 = .ok (.lload_n 1, 1) := by decide +kernel
theorem dX10_needsBoth_2 : decode cX10_needsBoth 2 = .ok (.invokevirtual 192, 3) := by decide +kernel
theorem dX10_needsBoth_5 : decode cX10_needsBoth 5 = .ok (.ifCond .ne 9, 3) := by decide +kernel
theorem dX10_needsBoth_8 : decode cX10_needsBoth 8 = .ok (.aload_n 0, 1) := by decide +kernel
theorem dX10_needsBoth_9 : decode cX10_needsBoth 9 = .ok (.iconst 1, 1) := by decide +kernel
theorem dX10_needsBoth_10 : decode cX10_needsBoth 10 = .ok (.invokevirtual 200, 3) := by decide +kernel
theorem dX10_needsBoth_13 : decode cX10_needsBoth 13 = .ok (.ireturn, 1) := by decide +kernel
theorem dX10_needsBoth_14 : decode cX10_needsBoth 14 = .ok (.aload_n 0, 1) := by decide +kernel
theorem dX10_needsBoth_15 : decode cX10_needsBoth 15 = .ok (.invokevirtual 206, 3) := by decide +kernel
theorem dX10_needsBoth_18 : decode cX10_needsBoth 18 = .ok (.aload_n 0, 1) := by decide +kernel
theorem dX10_needsBoth_19 : decode cX10_needsBoth 19 = .ok (.iload_n 3, 1) := by decide +kernel
theorem dX10_needsBoth_20 : decode cX10_needsBoth 20 = .ok (.iload 4, 2) := by decide +kernel
theorem dX10_needsBoth_22 : decode cX10_needsBoth 22 = .ok (.invokevirtual 259, 3) := by decide +kernel
theorem dX10_needsBoth_25 : decode cX10_needsBoth 25 = .ok (.ireturn, 1) := by decide +kernel
def fX10_needsBoth (n : Nat) (v0 : Nat) (v1 : Int64) (v3 : Int32) (v4 : Int32) (h : qH) : Option (Int32 × qH) :=
  (isO h v0 10).bind fun _ =>
  (fX10_isWord v0 v1 h).bind fun p1 =>
  if p1.1 = 0 then
  ((fX10_fails v0 1 p1.2).bind fun p8 =>
  (qB p8.1).bind fun _ =>
  some (p8.1, p8.2))
  else
  ((fX10_nextToken n v0 p1.2).bind fun h3 =>
  (fX10_needsNumber n v0 v3 v4 h3).bind fun p4 =>
  (qB p4.1).bind fun _ =>
  some (p4.1, p4.2))
theorem obX10_needsBoth {n : Nat} {v0 : Nat} {v1 : Int64} {v3 : Int32} {v4 : Int32} {h : qH} {p : Int32 × qH} (hyp : fX10_needsBoth n v0 v1 v3 v4 h = some p) : ∃ fs, h.1 v0 = some (.inr (10, fs)) := by
  unfold fX10_needsBoth at hyp
  exact q_bind hyp (fun _ e _ => isO_some e)
set_option maxHeartbeats 4000000 in
set_option maxRecDepth 100000 in
theorem okX10_needsBoth {l : Launch} {n : Nat} {v0 : Nat} {v1 : Int64} {v3 : Int32} {v4 : Int32} {h : qH} {p : Int32 × qH} (hyp : fX10_needsBoth n v0 v1 v3 v4 h = some p) : q_M l 4 yX10_needsBoth cX10_needsBoth 5 (some .boolean) [.ref v0, .long v1, .int v3, .int v4] h (some (.int p.1)) p.2 := by
  obtain ⟨r, h'⟩ := p
  unfold fX10_needsBoth at hyp
  refine q_bind hyp (fun _ _ hyp => ?_)
  refine q_M.of (by decide) (Nat.le_of_ble_eq_true rfl) ?_
  refine q_to (ls' := [(0, .ref v0), (1, .long v1), (3, .int v3), (4, .int v4)]) (st' := []) rfl rfl ?_
  refine q_aload_n 0 rfl dX10_needsBoth_0 ?_
  refine q_lload_n 1 rfl dX10_needsBoth_1 ?_
  refine q_bind hyp (fun p1 e11 hyp => ?_)
  refine q_callV (as := [.long v1]) (st := []) kY_X10_isWord kL_X10_192 (okX10_isWord (l := l) e11) (by decide) rfl (obX10_isWord e11) (Nat.le_of_ble_eq_true rfl) dX10_needsBoth_2 ?_
  refine q_to (ls' := [(0, .ref v0), (1, .long v1), (3, .int v3), (4, .int v4)]) (st' := [.int p1.1]) rfl rfl ?_
  refine q_if_ne (tgt := 14) dX10_needsBoth_5 (by decide) (fun c2 => ?_) (fun c2 => ?_)
  · have hyp := q_neg c2 hyp
    refine q_aload_n 0 rfl dX10_needsBoth_14 ?_
    refine q_bind hyp (fun h3 e7 hyp => ?_)
    refine q_callV (as := []) (st := []) kY_X10_nextToken kL_X10_206 (okX10_nextToken (l := l) e7) (by decide) rfl (obX10_nextToken e7) (Nat.le_of_ble_eq_true rfl) dX10_needsBoth_15 ?_
    refine q_to (ls' := [(0, .ref v0), (1, .long v1), (3, .int v3), (4, .int v4)]) (st' := []) rfl rfl ?_
    refine q_aload_n 0 rfl dX10_needsBoth_18 ?_
    refine q_iload_n 2 rfl dX10_needsBoth_19 ?_
    refine q_iload 3 rfl dX10_needsBoth_20 ?_
    refine q_bind hyp (fun p4 e6 hyp => ?_)
    refine q_callV (as := [.int v3, .int v4]) (st := []) kY_X10_needsNumber kL_X10_259 (okX10_needsNumber (l := l) e6) (by decide) rfl (obX10_needsNumber e6) (Nat.le_of_ble_eq_true rfl) dX10_needsBoth_22 ?_
    refine q_to (ls' := [(0, .ref v0), (1, .long v1), (3, .int v3), (4, .int v4)]) (st' := [.int p4.1]) rfl rfl ?_
    refine q_bind hyp (fun _ e5 hyp => ?_)
    exact q_iretH rfl (qB_some e5) dX10_needsBoth_25 hyp
  · have hyp := q_pos c2 hyp
    refine q_aload_n 0 rfl dX10_needsBoth_8 ?_
    refine q_iconst (x := 1) rfl dX10_needsBoth_9 ?_
    refine q_bind hyp (fun p8 e10 hyp => ?_)
    refine q_callV (as := [.int 1]) (st := []) kY_X10_fails kL_X10_200 (okX10_fails (l := l) e10) (by decide) rfl (obX10_fails e10) (Nat.le_of_ble_eq_true rfl) dX10_needsBoth_10 ?_
    refine q_to (ls' := [(0, .ref v0), (1, .long v1), (3, .int v3), (4, .int v4)]) (st' := [.int p8.1]) rfl rfl ?_
    refine q_bind hyp (fun _ e9 hyp => ?_)
    exact q_iretH rfl (qB_some e9) dX10_needsBoth_13 hyp
theorem dX10_needsMatter_0 : decode cX10_needsMatter 0 = .ok (.aload_n 0, 1) := by decide +kernel
theorem dX10_needsMatter_1 : decode cX10_needsMatter 1 = .ok (.invokevirtual 263, 3) := by decide +kernel
theorem dX10_needsMatter_4 : decode cX10_needsMatter 4 = .ok (.ifCond .eq 9, 3) := by decide +kernel
theorem dX10_needsMatter_7 : decode cX10_needsMatter 7 = .ok (.aload_n 0, 1) := by decide +kernel
theorem dX10_needsMatter_8 : decode cX10_needsMatter 8 = .ok (.iconst 1, 1) := by decide +kernel
theorem dX10_needsMatter_9 : decode cX10_needsMatter 9 = .ok (.invokevirtual 200, 3) := by decide +kernel
theorem dX10_needsMatter_12 : decode cX10_needsMatter 12 = .ok (.ireturn, 1) := by decide +kernel
theorem dX10_needsMatter_13 : decode cX10_needsMatter 13 = .ok (.aload_n 0, 1) := by decide +kernel
theorem dX10_needsMatter_14 : decode cX10_needsMatter 14 = .ok (.aload_n 0, 1) := by decide +kernel
theorem dX10_needsMatter_15 : decode cX10_needsMatter 15 = .ok (.iload_n 1, 1) := by decide +kernel
theorem dX10_needsMatter_16 : decode cX10_needsMatter 16 = .ok (.invokevirtual 267, 3) := by decide +kernel
theorem dX10_needsMatter_19 : decode cX10_needsMatter 19 = .ok (.putfield 256, 3) := by decide +kernel
theorem dX10_needsMatter_22 : decode cX10_needsMatter 22 = .ok (.aload_n 0, 1) := by decide +kernel
theorem dX10_needsMatter_23 : decode cX10_needsMatter 23 = .ok (.getfield 256, 3) := by decide +kernel
theorem dX10_needsMatter_26 : decode cX10_needsMatter 26 = .ok (.ifCond .ge 11, 3) := by decide +kernel
theorem dX10_needsMatter_29 : decode cX10_needsMatter 29 = .ok (.aload_n 0, 1) := by decide +kernel
theorem dX10_needsMatter_30 : decode cX10_needsMatter 30 = .ok (.iconst 2, 1) := by decide +kernel
theorem dX10_needsMatter_31 : decode cX10_needsMatter 31 = .ok (.invokevirtual 200, 3) := by decide +kernel
theorem dX10_needsMatter_34 : decode cX10_needsMatter 34 = .ok (.ifCond .eq 7, 3) := by decide +kernel
theorem dX10_needsMatter_37 : decode cX10_needsMatter 37 = .ok (.iconst 1, 1) := by decide +kernel
theorem dX10_needsMatter_38 : decode cX10_needsMatter 38 = .ok (.goto 4, 3) := by decide +kernel
theorem dX10_needsMatter_41 : decode cX10_needsMatter 41 = .ok (.iconst 0, 1) := by decide +kernel
theorem dX10_needsMatter_42 : decode cX10_needsMatter 42 = .ok (.ireturn, 1) := by decide +kernel
def fX10_needsMatter (n : Nat) (v0 : Nat) (v1 : Int32) (h : qH) : Option (Int32 × qH) :=
  (isO h v0 10).bind fun _ =>
  (fX10_isKept v0 h).bind fun p1 =>
  if p1.1 = 0 then
  ((fX10_matterNamed n v0 v1 p1.2).bind fun p3 =>
  (pF p3.2 v0 10 33 (.int p3.1)).bind fun h4 =>
  (gI h4 v0 10 33).bind fun x6 =>
  if 0 ≤ x6 then
  (some (1, h4))
  else
  ((fX10_fails v0 2 h4).bind fun p9 =>
  if p9.1 = 0 then
  (some (0, p9.2))
  else
  (some (1, p9.2))))
  else
  ((fX10_fails v0 1 p1.2).bind fun p13 =>
  (qB p13.1).bind fun _ =>
  some (p13.1, p13.2))
theorem obX10_needsMatter {n : Nat} {v0 : Nat} {v1 : Int32} {h : qH} {p : Int32 × qH} (hyp : fX10_needsMatter n v0 v1 h = some p) : ∃ fs, h.1 v0 = some (.inr (10, fs)) := by
  unfold fX10_needsMatter at hyp
  exact q_bind hyp (fun _ e _ => isO_some e)
set_option maxHeartbeats 4000000 in
set_option maxRecDepth 100000 in
theorem okX10_needsMatter {l : Launch} {n : Nat} {v0 : Nat} {v1 : Int32} {h : qH} {p : Int32 × qH} (hyp : fX10_needsMatter n v0 v1 h = some p) : q_M l 2 yX10_needsMatter cX10_needsMatter 2 (some .boolean) [.ref v0, .int v1] h (some (.int p.1)) p.2 := by
  obtain ⟨r, h'⟩ := p
  unfold fX10_needsMatter at hyp
  refine q_bind hyp (fun _ _ hyp => ?_)
  refine q_M.of (by decide) (Nat.le_of_ble_eq_true rfl) ?_
  refine q_to (ls' := [(0, .ref v0), (1, .int v1)]) (st' := []) rfl rfl ?_
  refine q_aload_n 0 rfl dX10_needsMatter_0 ?_
  refine q_bind hyp (fun p1 e16 hyp => ?_)
  refine q_callV (as := []) (st := []) kY_X10_isKept kL_X10_263 (okX10_isKept (l := l) e16) (by decide) rfl (obX10_isKept e16) (Nat.le_of_ble_eq_true rfl) dX10_needsMatter_1 ?_
  refine q_to (ls' := [(0, .ref v0), (1, .int v1)]) (st' := [.int p1.1]) rfl rfl ?_
  refine q_if_eq (tgt := 13) dX10_needsMatter_4 (by decide) (fun c2 => ?_) (fun c2 => ?_)
  · have hyp := q_pos c2 hyp
    refine q_aload_n 0 rfl dX10_needsMatter_13 ?_
    refine q_aload_n 0 rfl dX10_needsMatter_14 ?_
    refine q_iload_n 1 rfl dX10_needsMatter_15 ?_
    refine q_bind hyp (fun p3 e12 hyp => ?_)
    refine q_callV (as := [.int v1]) (st := [.ref v0]) kY_X10_matterNamed kL_X10_267 (okX10_matterNamed (l := l) e12) (by decide) rfl (obX10_matterNamed e12) (Nat.le_of_ble_eq_true rfl) dX10_needsMatter_16 ?_
    refine q_to (ls' := [(0, .ref v0), (1, .int v1)]) (st' := [.int p3.1, .ref v0]) rfl rfl ?_
    refine q_bind hyp (fun h4 e5 hyp => ?_)
    refine q_putF kF_X10_256 (fun _ => ⟨rfl, rfl⟩) dX10_needsMatter_19 e5 ?_
    refine q_aload_n 0 rfl dX10_needsMatter_22 ?_
    refine q_bind hyp (fun x6 e7 hyp => ?_)
    refine q_getI kF_X10_256 dX10_needsMatter_23 e7 ?_
    refine q_if_ge (tgt := 37) dX10_needsMatter_26 (by decide) (fun c8 => ?_) (fun c8 => ?_)
    · have hyp := q_pos c8 hyp
      refine q_iconst (x := 1) rfl dX10_needsMatter_37 ?_
      refine q_goto (tgt := 42) dX10_needsMatter_38 (by decide) ?_
      exact q_iretH rfl rfl dX10_needsMatter_42 hyp
    · have hyp := q_neg c8 hyp
      refine q_aload_n 0 rfl dX10_needsMatter_29 ?_
      refine q_iconst (x := 2) rfl dX10_needsMatter_30 ?_
      refine q_bind hyp (fun p9 e11 hyp => ?_)
      refine q_callV (as := [.int 2]) (st := []) kY_X10_fails kL_X10_200 (okX10_fails (l := l) e11) (by decide) rfl (obX10_fails e11) (Nat.le_of_ble_eq_true rfl) dX10_needsMatter_31 ?_
      refine q_to (ls' := [(0, .ref v0), (1, .int v1)]) (st' := [.int p9.1]) rfl rfl ?_
      refine q_if_eq (tgt := 41) dX10_needsMatter_34 (by decide) (fun c10 => ?_) (fun c10 => ?_)
      · have hyp := q_pos c10 hyp
        refine q_iconst (x := 0) rfl dX10_needsMatter_41 ?_
        exact q_iretH rfl rfl dX10_needsMatter_42 hyp
      · have hyp := q_neg c10 hyp
        refine q_iconst (x := 1) rfl dX10_needsMatter_37 ?_
        refine q_goto (tgt := 42) dX10_needsMatter_38 (by decide) ?_
        exact q_iretH rfl rfl dX10_needsMatter_42 hyp
  · have hyp := q_neg c2 hyp
    refine q_aload_n 0 rfl dX10_needsMatter_7 ?_
    refine q_iconst (x := 1) rfl dX10_needsMatter_8 ?_
    refine q_bind hyp (fun p13 e15 hyp => ?_)
    refine q_callV (as := [.int 1]) (st := []) kY_X10_fails kL_X10_200 (okX10_fails (l := l) e15) (by decide) rfl (obX10_fails e15) (Nat.le_of_ble_eq_true rfl) dX10_needsMatter_9 ?_
    refine q_to (ls' := [(0, .ref v0), (1, .int v1)]) (st' := [.int p13.1]) rfl rfl ?_
    refine q_bind hyp (fun _ e14 hyp => ?_)
    exact q_iretH rfl (qB_some e14) dX10_needsMatter_12 hyp
theorem dX10_readsLed_0 : decode cX10_readsLed 0 = .ok (.aload_n 0, 1) := by decide +kernel
theorem dX10_readsLed_1 : decode cX10_readsLed 1 = .ok (.invokevirtual 206, 3) := by decide +kernel
theorem dX10_readsLed_4 : decode cX10_readsLed 4 = .ok (.aload_n 0, 1) := by decide +kernel
theorem dX10_readsLed_5 : decode cX10_readsLed 5 = .ok (.iconst 1, 1) := by decide +kernel
theorem dX10_readsLed_6 : decode cX10_readsLed 6 = .ok (.invokevirtual 277, 3) := by decide +kernel
theorem dX10_readsLed_9 : decode cX10_readsLed 9 = .ok (.ifCond .ne 5, 3) := by decide +kernel
theorem dX10_readsLed_12 : decode cX10_readsLed 12 = .ok (.iconst 0, 1) := by decide +kernel
theorem dX10_readsLed_13 : decode cX10_readsLed 13 = .ok (.ireturn, 1) := by decide +kernel
theorem dX10_readsLed_14 : decode cX10_readsLed 14 = .ok (.aload_n 0, 1) := by decide +kernel
theorem dX10_readsLed_15 : decode cX10_readsLed 15 = .ok (.getfield 256, 3) := by decide +kernel
theorem dX10_readsLed_18 : decode cX10_readsLed 18 = .ok (.istore_n 1, 1) := by decide +kernel
theorem dX10_readsLed_19 : decode cX10_readsLed 19 = .ok (.aload_n 0, 1) := by decide +kernel
theorem dX10_readsLed_20 : decode cX10_readsLed 20 = .ok (.invokevirtual 206, 3) := by decide +kernel
theorem dX10_readsLed_23 : decode cX10_readsLed 23 = .ok (.aload_n 0, 1) := by decide +kernel
theorem dX10_readsLed_24 : decode cX10_readsLed 24 = .ok (.iconst 1, 1) := by decide +kernel
theorem dX10_readsLed_25 : decode cX10_readsLed 25 = .ok (.invokevirtual 277, 3) := by decide +kernel
theorem dX10_readsLed_28 : decode cX10_readsLed 28 = .ok (.ifCond .ne 5, 3) := by decide +kernel
theorem dX10_readsLed_31 : decode cX10_readsLed 31 = .ok (.iconst 0, 1) := by decide +kernel
theorem dX10_readsLed_32 : decode cX10_readsLed 32 = .ok (.ireturn, 1) := by decide +kernel
theorem dX10_readsLed_33 : decode cX10_readsLed 33 = .ok (.aload_n 0, 1) := by decide +kernel
theorem dX10_readsLed_34 : decode cX10_readsLed 34 = .ok (.getfield 23, 3) := by decide +kernel
theorem dX10_readsLed_37 : decode cX10_readsLed 37 = .ok (.bipush 7, 2) := by decide +kernel
theorem dX10_readsLed_39 : decode cX10_readsLed 39 = .ok (.aload_n 0, 1) := by decide +kernel
theorem dX10_readsLed_40 : decode cX10_readsLed 40 = .ok (.getfield 256, 3) := by decide +kernel
theorem dX10_readsLed_43 : decode cX10_readsLed 43 = .ok (.iadd, 1) := by decide +kernel
theorem dX10_readsLed_44 : decode cX10_readsLed 44 = .ok (.iaload, 1) := by decide +kernel
theorem dX10_readsLed_45 : decode cX10_readsLed 45 = .ok (.aload_n 0, 1) := by decide +kernel
theorem dX10_readsLed_46 : decode cX10_readsLed 46 = .ok (.getfield 23, 3) := by decide +kernel
theorem dX10_readsLed_49 : decode cX10_readsLed 49 = .ok (.bipush 7, 2) := by decide +kernel
theorem dX10_readsLed_51 : decode cX10_readsLed 51 = .ok (.iload_n 1, 1) := by decide +kernel
theorem dX10_readsLed_52 : decode cX10_readsLed 52 = .ok (.iadd, 1) := by decide +kernel
theorem dX10_readsLed_53 : decode cX10_readsLed 53 = .ok (.iaload, 1) := by decide +kernel
theorem dX10_readsLed_54 : decode cX10_readsLed 54 = .ok (.if_icmp .le 23, 3) := by decide +kernel
theorem dX10_readsLed_57 : decode cX10_readsLed 57 = .ok (.aload_n 0, 1) := by decide +kernel
theorem dX10_readsLed_58 : decode cX10_readsLed 58 = .ok (.getfield 29, 3) := by decide +kernel
theorem dX10_readsLed_61 : decode cX10_readsLed 61 = .ok (.bipush 7, 2) := by decide +kernel
theorem dX10_readsLed_63 : decode cX10_readsLed 63 = .ok (.iload_n 1, 1) := by decide +kernel
theorem dX10_readsLed_64 : decode cX10_readsLed 64 = .ok (.iadd, 1) := by decide +kernel
theorem dX10_readsLed_65 : decode cX10_readsLed 65 = .ok (.iaload, 1) := by decide +kernel
theorem dX10_readsLed_66 : decode cX10_readsLed 66 = .ok (.aload_n 0, 1) := by decide +kernel
theorem dX10_readsLed_67 : decode cX10_readsLed 67 = .ok (.getfield 256, 3) := by decide +kernel
theorem dX10_readsLed_70 : decode cX10_readsLed 70 = .ok (.ishr, 1) := by decide +kernel
theorem dX10_readsLed_71 : decode cX10_readsLed 71 = .ok (.iconst 1, 1) := by decide +kernel
theorem dX10_readsLed_72 : decode cX10_readsLed 72 = .ok (.iand, 1) := by decide +kernel
theorem dX10_readsLed_73 : decode cX10_readsLed 73 = .ok (.iconst 1, 1) := by decide +kernel
theorem dX10_readsLed_74 : decode cX10_readsLed 74 = .ok (.if_icmp .ne 9, 3) := by decide +kernel
theorem dX10_readsLed_77 : decode cX10_readsLed 77 = .ok (.aload_n 0, 1) := by decide +kernel
theorem dX10_readsLed_78 : decode cX10_readsLed 78 = .ok (.iconst 3, 1) := by decide +kernel
theorem dX10_readsLed_79 : decode cX10_readsLed 79 = .ok (.invokevirtual 200, 3) := by decide +kernel
theorem dX10_readsLed_82 : decode cX10_readsLed 82 = .ok (.ireturn, 1) := by decide +kernel
theorem dX10_readsLed_83 : decode cX10_readsLed 83 = .ok (.aload_n 0, 1) := by decide +kernel
theorem dX10_readsLed_84 : decode cX10_readsLed 84 = .ok (.getfield 29, 3) := by decide +kernel
theorem dX10_readsLed_87 : decode cX10_readsLed 87 = .ok (.bipush 7, 2) := by decide +kernel
theorem dX10_readsLed_89 : decode cX10_readsLed 89 = .ok (.iload_n 1, 1) := by decide +kernel
theorem dX10_readsLed_90 : decode cX10_readsLed 90 = .ok (.iadd, 1) := by decide +kernel
theorem dX10_readsLed_91 : decode cX10_readsLed 91 = .ok (.dup2, 1) := by decide +kernel
theorem dX10_readsLed_92 : decode cX10_readsLed 92 = .ok (.iaload, 1) := by decide +kernel
theorem dX10_readsLed_93 : decode cX10_readsLed 93 = .ok (.iconst 1, 1) := by decide +kernel
theorem dX10_readsLed_94 : decode cX10_readsLed 94 = .ok (.aload_n 0, 1) := by decide +kernel
theorem dX10_readsLed_95 : decode cX10_readsLed 95 = .ok (.getfield 256, 3) := by decide +kernel
theorem dX10_readsLed_98 : decode cX10_readsLed 98 = .ok (.ishl, 1) := by decide +kernel
theorem dX10_readsLed_99 : decode cX10_readsLed 99 = .ok (.ior, 1) := by decide +kernel
theorem dX10_readsLed_100 : decode cX10_readsLed 100 = .ok (.iastore, 1) := by decide +kernel
theorem dX10_readsLed_101 : decode cX10_readsLed 101 = .ok (.aload_n 0, 1) := by decide +kernel
theorem dX10_readsLed_102 : decode cX10_readsLed 102 = .ok (.invokevirtual 206, 3) := by decide +kernel
theorem dX10_readsLed_105 : decode cX10_readsLed 105 = .ok (.aload_n 0, 1) := by decide +kernel
theorem dX10_readsLed_106 : decode cX10_readsLed 106 = .ok (.invokevirtual 274, 3) := by decide +kernel
theorem dX10_readsLed_109 : decode cX10_readsLed 109 = .ok (.ireturn, 1) := by decide +kernel
def fX10_readsLed_b77 (n : Nat) (v0 : Nat) (h : qH) : Option (Int32 × qH) :=
  (fX10_fails v0 3 h).bind fun p1 =>
  (qB p1.1).bind fun _ =>
  some (p1.1, p1.2)
set_option maxHeartbeats 4000000 in
set_option maxRecDepth 100000 in
theorem okX10_readsLed_b77 {l : Launch} {n : Nat} {v0 : Nat} {h : qH} {r : Int32} {h' : qH} (hyp : fX10_readsLed_b77 n v0 h = some (r, h')) : q_W l 4 yX10_readsLed cX10_readsLed 2 (some .boolean) (some (.int r)) h' 77 [(0, .ref v0)] [] h := by
  unfold fX10_readsLed_b77 at hyp
  refine q_aload_n 0 rfl dX10_readsLed_77 ?_
  refine q_iconst (x := 3) rfl dX10_readsLed_78 ?_
  refine q_bind hyp (fun p1 e3 hyp => ?_)
  refine q_callV (as := [.int 3]) (st := []) kY_X10_fails kL_X10_200 (okX10_fails (l := l) e3) (by decide) rfl (obX10_fails e3) (Nat.le_of_ble_eq_true rfl) dX10_readsLed_79 ?_
  refine q_to (ls' := [(0, .ref v0)]) (st' := [.int p1.1]) rfl rfl ?_
  refine q_bind hyp (fun _ e2 hyp => ?_)
  exact q_iretH rfl (qB_some e2) dX10_readsLed_82 hyp
def fX10_readsLed (n : Nat) (v0 : Nat) (h : qH) : Option (Int32 × qH) :=
  (isO h v0 10).bind fun _ =>
  (fX10_nextToken n v0 h).bind fun h1 =>
  (fX10_needsMatter n v0 1 h1).bind fun p2 =>
  if p2.1 = 0 then
  (some (0, p2.2))
  else
  ((gI p2.2 v0 10 33).bind fun x4 =>
  (fX10_nextToken n v0 p2.2).bind fun h6 =>
  (fX10_needsMatter n v0 1 h6).bind fun p7 =>
  if p7.1 = 0 then
  (some (0, p7.2))
  else
  ((gR p7.2 v0 10 13).bind fun x9 =>
  (gI p7.2 v0 10 33).bind fun x11 =>
  (aI .int p7.2 x9 (7 + x11)).bind fun x13 =>
  (gR p7.2 v0 10 13).bind fun x15 =>
  (aI .int p7.2 x15 (7 + x4)).bind fun x17 =>
  if x13 ≤ x17 then
  (fX10_readsLed_b77 n v0 p7.2)
  else
  ((gR p7.2 v0 10 15).bind fun x20 =>
  (aI .int p7.2 x20 (7 + x4)).bind fun x22 =>
  (gI p7.2 v0 10 33).bind fun x24 =>
  if ((x22 >>> (x24 &&& 31)) &&& 1) = 1 then
  (fX10_readsLed_b77 n v0 p7.2)
  else
  ((gR p7.2 v0 10 15).bind fun x27 =>
  (aI .int p7.2 x27 (7 + x4)).bind fun x29 =>
  (gI p7.2 v0 10 33).bind fun x31 =>
  (sI .int p7.2 x27 (7 + x4) (x29 ||| ((1 : Int32) <<< (x31 &&& 31)))).bind fun h33 =>
  (fX10_nextToken n v0 h33).bind fun h35 =>
  (fX10_closes n v0 h35).bind fun p36 =>
  (qB p36.1).bind fun _ =>
  some (p36.1, p36.2)))))
theorem obX10_readsLed {n : Nat} {v0 : Nat} {h : qH} {p : Int32 × qH} (hyp : fX10_readsLed n v0 h = some p) : ∃ fs, h.1 v0 = some (.inr (10, fs)) := by
  unfold fX10_readsLed at hyp
  exact q_bind hyp (fun _ e _ => isO_some e)
set_option maxHeartbeats 4000000 in
set_option maxRecDepth 100000 in
theorem okX10_readsLed {l : Launch} {n : Nat} {v0 : Nat} {h : qH} {p : Int32 × qH} (hyp : fX10_readsLed n v0 h = some p) : q_M l 4 yX10_readsLed cX10_readsLed 2 (some .boolean) [.ref v0] h (some (.int p.1)) p.2 := by
  obtain ⟨r, h'⟩ := p
  unfold fX10_readsLed at hyp
  refine q_bind hyp (fun _ _ hyp => ?_)
  refine q_M.of (by decide) (Nat.le_of_ble_eq_true rfl) ?_
  refine q_to (ls' := [(0, .ref v0)]) (st' := []) rfl rfl ?_
  refine q_aload_n 0 rfl dX10_readsLed_0 ?_
  refine q_bind hyp (fun h1 e43 hyp => ?_)
  refine q_callV (as := []) (st := []) kY_X10_nextToken kL_X10_206 (okX10_nextToken (l := l) e43) (by decide) rfl (obX10_nextToken e43) (Nat.le_of_ble_eq_true rfl) dX10_readsLed_1 ?_
  refine q_to (ls' := [(0, .ref v0)]) (st' := []) rfl rfl ?_
  refine q_aload_n 0 rfl dX10_readsLed_4 ?_
  refine q_iconst (x := 1) rfl dX10_readsLed_5 ?_
  refine q_bind hyp (fun p2 e42 hyp => ?_)
  refine q_callV (as := [.int 1]) (st := []) kY_X10_needsMatter kL_X10_277 (okX10_needsMatter (l := l) e42) (by decide) rfl (obX10_needsMatter e42) (Nat.le_of_ble_eq_true rfl) dX10_readsLed_6 ?_
  refine q_to (ls' := [(0, .ref v0)]) (st' := [.int p2.1]) rfl rfl ?_
  refine q_if_ne (tgt := 14) dX10_readsLed_9 (by decide) (fun c3 => ?_) (fun c3 => ?_)
  · have hyp := q_neg c3 hyp
    refine q_aload_n 0 rfl dX10_readsLed_14 ?_
    refine q_bind hyp (fun x4 e5 hyp => ?_)
    refine q_getI kF_X10_256 dX10_readsLed_15 e5 ?_
    refine q_istore_n (ls' := [(1, .int x4), (0, .ref v0)]) (by decide) rfl dX10_readsLed_18 ?_
    refine q_aload_n 1 rfl dX10_readsLed_19 ?_
    refine q_bind hyp (fun h6 e41 hyp => ?_)
    refine q_callV (as := []) (st := []) kY_X10_nextToken kL_X10_206 (okX10_nextToken (l := l) e41) (by decide) rfl (obX10_nextToken e41) (Nat.le_of_ble_eq_true rfl) dX10_readsLed_20 ?_
    refine q_to (ls' := [(1, .int x4), (0, .ref v0)]) (st' := []) rfl rfl ?_
    refine q_aload_n 1 rfl dX10_readsLed_23 ?_
    refine q_iconst (x := 1) rfl dX10_readsLed_24 ?_
    refine q_bind hyp (fun p7 e40 hyp => ?_)
    refine q_callV (as := [.int 1]) (st := []) kY_X10_needsMatter kL_X10_277 (okX10_needsMatter (l := l) e40) (by decide) rfl (obX10_needsMatter e40) (Nat.le_of_ble_eq_true rfl) dX10_readsLed_25 ?_
    refine q_to (ls' := [(1, .int x4), (0, .ref v0)]) (st' := [.int p7.1]) rfl rfl ?_
    refine q_if_ne (tgt := 33) dX10_readsLed_28 (by decide) (fun c8 => ?_) (fun c8 => ?_)
    · have hyp := q_neg c8 hyp
      refine q_aload_n 1 rfl dX10_readsLed_33 ?_
      refine q_bind hyp (fun x9 e10 hyp => ?_)
      refine q_getR kF_X10_23 dX10_readsLed_34 e10 ?_
      refine q_bipush (x := 7) (by decide) dX10_readsLed_37 ?_
      refine q_aload_n 1 rfl dX10_readsLed_39 ?_
      refine q_bind hyp (fun x11 e12 hyp => ?_)
      refine q_getI kF_X10_256 dX10_readsLed_40 e12 ?_
      refine q_iadd dX10_readsLed_43 ?_
      refine q_bind hyp (fun x13 e14 hyp => ?_)
      refine q_iald dX10_readsLed_44 e14 ?_
      refine q_aload_n 1 rfl dX10_readsLed_45 ?_
      refine q_bind hyp (fun x15 e16 hyp => ?_)
      refine q_getR kF_X10_23 dX10_readsLed_46 e16 ?_
      refine q_bipush (x := 7) (by decide) dX10_readsLed_49 ?_
      refine q_iload_n 0 rfl dX10_readsLed_51 ?_
      refine q_iadd dX10_readsLed_52 ?_
      refine q_bind hyp (fun x17 e18 hyp => ?_)
      refine q_iald dX10_readsLed_53 e18 ?_
      refine q_icmp_le (tgt := 77) dX10_readsLed_54 (by decide) (fun c19 => ?_) (fun c19 => ?_)
      · have hyp := q_pos c19 hyp
        exact q_sub [1] rfl (okX10_readsLed_b77 hyp)
      · have hyp := q_neg c19 hyp
        refine q_aload_n 1 rfl dX10_readsLed_57 ?_
        refine q_bind hyp (fun x20 e21 hyp => ?_)
        refine q_getR kF_X10_29 dX10_readsLed_58 e21 ?_
        refine q_bipush (x := 7) (by decide) dX10_readsLed_61 ?_
        refine q_iload_n 0 rfl dX10_readsLed_63 ?_
        refine q_iadd dX10_readsLed_64 ?_
        refine q_bind hyp (fun x22 e23 hyp => ?_)
        refine q_iald dX10_readsLed_65 e23 ?_
        refine q_aload_n 1 rfl dX10_readsLed_66 ?_
        refine q_bind hyp (fun x24 e25 hyp => ?_)
        refine q_getI kF_X10_256 dX10_readsLed_67 e25 ?_
        refine q_ishr dX10_readsLed_70 ?_
        refine q_iconst (x := 1) rfl dX10_readsLed_71 ?_
        refine q_iand dX10_readsLed_72 ?_
        refine q_iconst (x := 1) rfl dX10_readsLed_73 ?_
        refine q_icmp_ne (tgt := 83) dX10_readsLed_74 (by decide) (fun c26 => ?_) (fun c26 => ?_)
        · have hyp := q_neg c26 hyp
          refine q_aload_n 1 rfl dX10_readsLed_83 ?_
          refine q_bind hyp (fun x27 e28 hyp => ?_)
          refine q_getR kF_X10_29 dX10_readsLed_84 e28 ?_
          refine q_bipush (x := 7) (by decide) dX10_readsLed_87 ?_
          refine q_iload_n 0 rfl dX10_readsLed_89 ?_
          refine q_iadd dX10_readsLed_90 ?_
          refine q_dup2 rfl rfl dX10_readsLed_91 ?_
          refine q_bind hyp (fun x29 e30 hyp => ?_)
          refine q_iald dX10_readsLed_92 e30 ?_
          refine q_iconst (x := 1) rfl dX10_readsLed_93 ?_
          refine q_aload_n 1 rfl dX10_readsLed_94 ?_
          refine q_bind hyp (fun x31 e32 hyp => ?_)
          refine q_getI kF_X10_256 dX10_readsLed_95 e32 ?_
          refine q_ishl dX10_readsLed_98 ?_
          refine q_ior dX10_readsLed_99 ?_
          refine q_bind hyp (fun h33 e34 hyp => ?_)
          refine q_iast dX10_readsLed_100 e34 ?_
          refine q_aload_n 1 rfl dX10_readsLed_101 ?_
          refine q_bind hyp (fun h35 e39 hyp => ?_)
          refine q_callV (as := []) (st := []) kY_X10_nextToken kL_X10_206 (okX10_nextToken (l := l) e39) (by decide) rfl (obX10_nextToken e39) (Nat.le_of_ble_eq_true rfl) dX10_readsLed_102 ?_
          refine q_to (ls' := [(1, .int x4), (0, .ref v0)]) (st' := []) rfl rfl ?_
          refine q_aload_n 1 rfl dX10_readsLed_105 ?_
          refine q_bind hyp (fun p36 e38 hyp => ?_)
          refine q_callV (as := []) (st := []) kY_X10_closes kL_X10_274 (okX10_closes (l := l) e38) (by decide) rfl (obX10_closes e38) (Nat.le_of_ble_eq_true rfl) dX10_readsLed_106 ?_
          refine q_to (ls' := [(1, .int x4), (0, .ref v0)]) (st' := [.int p36.1]) rfl rfl ?_
          refine q_bind hyp (fun _ e37 hyp => ?_)
          exact q_iretH rfl (qB_some e37) dX10_readsLed_109 hyp
        · have hyp := q_pos c26 hyp
          exact q_sub [1] rfl (okX10_readsLed_b77 hyp)
    · have hyp := q_pos c8 hyp
      refine q_iconst (x := 0) rfl dX10_readsLed_31 ?_
      exact q_iretH rfl rfl dX10_readsLed_32 hyp
  · have hyp := q_pos c3 hyp
    refine q_iconst (x := 0) rfl dX10_readsLed_12 ?_
    exact q_iretH rfl rfl dX10_readsLed_13 hyp
theorem dX10_readsMatter_0 : decode cX10_readsMatter 0 = .ok (.bipush 7, 2) := by decide +kernel
theorem dX10_readsMatter_2 : decode cX10_readsMatter 2 = .ok (.aload_n 0, 1) := by decide +kernel
theorem dX10_readsMatter_3 : decode cX10_readsMatter 3 = .ok (.getfield 13, 3) := by decide +kernel
theorem dX10_readsMatter_6 : decode cX10_readsMatter 6 = .ok (.iconst 4, 1) := by decide +kernel
theorem dX10_readsMatter_7 : decode cX10_readsMatter 7 = .ok (.iaload, 1) := by decide +kernel
theorem dX10_readsMatter_8 : decode cX10_readsMatter 8 = .ok (.iadd, 1) := by decide +kernel
theorem dX10_readsMatter_9 : decode cX10_readsMatter 9 = .ok (.istore_n 1, 1) := by decide +kernel
theorem dX10_readsMatter_10 : decode cX10_readsMatter 10 = .ok (.iload_n 1, 1) := by decide +kernel
theorem dX10_readsMatter_11 : decode cX10_readsMatter 11 = .ok (.bipush 14, 2) := by decide +kernel
theorem dX10_readsMatter_13 : decode cX10_readsMatter 13 = .ok (.if_icmp .ne 9, 3) := by decide +kernel
theorem dX10_readsMatter_16 : decode cX10_readsMatter 16 = .ok (.aload_n 0, 1) := by decide +kernel
theorem dX10_readsMatter_17 : decode cX10_readsMatter 17 = .ok (.iconst 5, 1) := by decide +kernel
theorem dX10_readsMatter_18 : decode cX10_readsMatter 18 = .ok (.invokevirtual 200, 3) := by decide +kernel
theorem dX10_readsMatter_21 : decode cX10_readsMatter 21 = .ok (.ireturn, 1) := by decide +kernel
theorem dX10_readsMatter_22 : decode cX10_readsMatter 22 = .ok (.aload_n 0, 1) := by decide +kernel
theorem dX10_readsMatter_23 : decode cX10_readsMatter 23 = .ok (.invokevirtual 206, 3) := by decide +kernel
theorem dX10_readsMatter_26 : decode cX10_readsMatter 26 = .ok (.aload_n 0, 1) := by decide +kernel
theorem dX10_readsMatter_27 : decode cX10_readsMatter 27 = .ok (.invokevirtual 263, 3) := by decide +kernel
theorem dX10_readsMatter_30 : decode cX10_readsMatter 30 = .ok (.ifCond .eq 9, 3) := by decide +kernel
theorem dX10_readsMatter_33 : decode cX10_readsMatter 33 = .ok (.aload_n 0, 1) := by decide +kernel
theorem dX10_readsMatter_34 : decode cX10_readsMatter 34 = .ok (.iconst 1, 1) := by decide +kernel
theorem dX10_readsMatter_35 : decode cX10_readsMatter 35 = .ok (.invokevirtual 200, 3) := by decide +kernel
theorem dX10_readsMatter_38 : decode cX10_readsMatter 38 = .ok (.ireturn, 1) := by decide +kernel
theorem dX10_readsMatter_39 : decode cX10_readsMatter 39 = .ok (.aload_n 0, 1) := by decide +kernel
theorem dX10_readsMatter_40 : decode cX10_readsMatter 40 = .ok (.iconst 1, 1) := by decide +kernel
theorem dX10_readsMatter_41 : decode cX10_readsMatter 41 = .ok (.invokevirtual 267, 3) := by decide +kernel
theorem dX10_readsMatter_44 : decode cX10_readsMatter 44 = .ok (.ifCond .lt 9, 3) := by decide +kernel
theorem dX10_readsMatter_47 : decode cX10_readsMatter 47 = .ok (.aload_n 0, 1) := by decide +kernel
theorem dX10_readsMatter_48 : decode cX10_readsMatter 48 = .ok (.iconst 3, 1) := by decide +kernel
theorem dX10_readsMatter_49 : decode cX10_readsMatter 49 = .ok (.invokevirtual 200, 3) := by decide +kernel
theorem dX10_readsMatter_52 : decode cX10_readsMatter 52 = .ok (.ireturn, 1) := by decide +kernel
theorem dX10_readsMatter_53 : decode cX10_readsMatter 53 = .ok (.aload_n 0, 1) := by decide +kernel
theorem dX10_readsMatter_54 : decode cX10_readsMatter 54 = .ok (.getfield 154, 3) := by decide +kernel
theorem dX10_readsMatter_57 : decode cX10_readsMatter 57 = .ok (.lstore_n 2, 1) := by decide +kernel
theorem dX10_readsMatter_58 : decode cX10_readsMatter 58 = .ok (.aload_n 0, 1) := by decide +kernel
theorem dX10_readsMatter_59 : decode cX10_readsMatter 59 = .ok (.invokevirtual 206, 3) := by decide +kernel
theorem dX10_readsMatter_62 : decode cX10_readsMatter 62 = .ok (.aload_n 0, 1) := by decide +kernel
theorem dX10_readsMatter_63 : decode cX10_readsMatter 63 = .ok (.getfield 20, 3) := by decide +kernel
theorem dX10_readsMatter_66 : decode cX10_readsMatter 66 = .ok (.iload_n 1, 1) := by decide +kernel
theorem dX10_readsMatter_67 : decode cX10_readsMatter 67 = .ok (.aload_n 0, 1) := by decide +kernel
theorem dX10_readsMatter_68 : decode cX10_readsMatter 68 = .ok (.ldc2_w 244, 3) := by decide +kernel
theorem dX10_readsMatter_71 : decode cX10_readsMatter 71 = .ok (.invokevirtual 192, 3) := by decide +kernel
theorem dX10_readsMatter_74 : decode cX10_readsMatter 74 = .ok (.ifCond .eq 7, 3) := by decide +kernel
theorem dX10_readsMatter_77 : decode cX10_readsMatter 77 = .ok (.iconst 0, 1) := by decide +kernel
theorem dX10_readsMatter_78 : decode cX10_readsMatter 78 = .ok (.goto 46, 3) := by decide +kernel
theorem dX10_readsMatter_81 : decode cX10_readsMatter 81 = .ok (.aload_n 0, 1) := by decide +kernel
theorem dX10_readsMatter_82 : decode cX10_readsMatter 82 = .ok (.ldc2_w 246, 3) := by decide +kernel
theorem dX10_readsMatter_85 : decode cX10_readsMatter 85 = .ok (.invokevirtual 192, 3) := by decide +kernel
theorem dX10_readsMatter_88 : decode cX10_readsMatter 88 = .ok (.ifCond .eq 7, 3) := by decide +kernel
theorem dX10_readsMatter_91 : decode cX10_readsMatter 91 = .ok (.iconst 1, 1) := by decide +kernel
theorem dX10_readsMatter_92 : decode cX10_readsMatter 92 = .ok (.goto 32, 3) := by decide +kernel
theorem dX10_readsMatter_95 : decode cX10_readsMatter 95 = .ok (.aload_n 0, 1) := by decide +kernel
theorem dX10_readsMatter_96 : decode cX10_readsMatter 96 = .ok (.ldc2_w 248, 3) := by decide +kernel
theorem dX10_readsMatter_99 : decode cX10_readsMatter 99 = .ok (.invokevirtual 192, 3) := by decide +kernel
theorem dX10_readsMatter_102 : decode cX10_readsMatter 102 = .ok (.ifCond .eq 7, 3) := by decide +kernel
theorem dX10_readsMatter_105 : decode cX10_readsMatter 105 = .ok (.iconst 2, 1) := by decide +kernel
theorem dX10_readsMatter_106 : decode cX10_readsMatter 106 = .ok (.goto 18, 3) := by decide +kernel
theorem dX10_readsMatter_109 : decode cX10_readsMatter 109 = .ok (.aload_n 0, 1) := by decide +kernel
theorem dX10_readsMatter_110 : decode cX10_readsMatter 110 = .ok (.ldc2_w 250, 3) := by decide +kernel
theorem dX10_readsMatter_113 : decode cX10_readsMatter 113 = .ok (.invokevirtual 192, 3) := by decide +kernel
theorem dX10_readsMatter_116 : decode cX10_readsMatter 116 = .ok (.ifCond .eq 7, 3) := by decide +kernel
theorem dX10_readsMatter_119 : decode cX10_readsMatter 119 = .ok (.iconst 3, 1) := by decide +kernel
theorem dX10_readsMatter_120 : decode cX10_readsMatter 120 = .ok (.goto 4, 3) := by decide +kernel
theorem dX10_readsMatter_123 : decode cX10_readsMatter 123 = .ok (.iconst (-1), 1) := by decide +kernel
theorem dX10_readsMatter_124 : decode cX10_readsMatter 124 = .ok (.iastore, 1) := by decide +kernel
theorem dX10_readsMatter_125 : decode cX10_readsMatter 125 = .ok (.aload_n 0, 1) := by decide +kernel
theorem dX10_readsMatter_126 : decode cX10_readsMatter 126 = .ok (.getfield 20, 3) := by decide +kernel
theorem dX10_readsMatter_129 : decode cX10_readsMatter 129 = .ok (.iload_n 1, 1) := by decide +kernel
theorem dX10_readsMatter_130 : decode cX10_readsMatter 130 = .ok (.iaload, 1) := by decide +kernel
theorem dX10_readsMatter_131 : decode cX10_readsMatter 131 = .ok (.ifCond .ge 9, 3) := by decide +kernel
theorem dX10_readsMatter_134 : decode cX10_readsMatter 134 = .ok (.aload_n 0, 1) := by decide +kernel
theorem dX10_readsMatter_135 : decode cX10_readsMatter 135 = .ok (.iconst 1, 1) := by decide +kernel
theorem dX10_readsMatter_136 : decode cX10_readsMatter 136 = .ok (.invokevirtual 200, 3) := by decide +kernel
theorem dX10_readsMatter_139 : decode cX10_readsMatter 139 = .ok (.ireturn, 1) := by decide +kernel
theorem dX10_readsMatter_140 : decode cX10_readsMatter 140 = .ok (.aload_n 0, 1) := by decide +kernel
theorem dX10_readsMatter_141 : decode cX10_readsMatter 141 = .ok (.invokevirtual 206, 3) := by decide +kernel
theorem dX10_readsMatter_144 : decode cX10_readsMatter 144 = .ok (.aload_n 0, 1) := by decide +kernel
theorem dX10_readsMatter_145 : decode cX10_readsMatter 145 = .ok (.ldc2_w 224, 3) := by decide +kernel
theorem dX10_readsMatter_148 : decode cX10_readsMatter 148 = .ok (.iconst 0, 1) := by decide +kernel
theorem dX10_readsMatter_149 : decode cX10_readsMatter 149 = .ok (.bipush 99, 2) := by decide +kernel
theorem dX10_readsMatter_151 : decode cX10_readsMatter 151 = .ok (.invokevirtual 270, 3) := by decide +kernel
theorem dX10_readsMatter_154 : decode cX10_readsMatter 154 = .ok (.ifCond .ne 5, 3) := by decide +kernel
theorem dX10_readsMatter_157 : decode cX10_readsMatter 157 = .ok (.iconst 0, 1) := by decide +kernel
theorem dX10_readsMatter_158 : decode cX10_readsMatter 158 = .ok (.ireturn, 1) := by decide +kernel
theorem dX10_readsMatter_159 : decode cX10_readsMatter 159 = .ok (.aload_n 0, 1) := by decide +kernel
theorem dX10_readsMatter_160 : decode cX10_readsMatter 160 = .ok (.getfield 23, 3) := by decide +kernel
theorem dX10_readsMatter_163 : decode cX10_readsMatter 163 = .ok (.iload_n 1, 1) := by decide +kernel
theorem dX10_readsMatter_164 : decode cX10_readsMatter 164 = .ok (.aload_n 0, 1) := by decide +kernel
theorem dX10_readsMatter_165 : decode cX10_readsMatter 165 = .ok (.getfield 256, 3) := by decide +kernel
theorem dX10_readsMatter_168 : decode cX10_readsMatter 168 = .ok (.iastore, 1) := by decide +kernel
theorem dX10_readsMatter_169 : decode cX10_readsMatter 169 = .ok (.aload_n 0, 1) := by decide +kernel
theorem dX10_readsMatter_170 : decode cX10_readsMatter 170 = .ok (.ldc2_w 226, 3) := by decide +kernel
theorem dX10_readsMatter_173 : decode cX10_readsMatter 173 = .ok (.iconst 0, 1) := by decide +kernel
theorem dX10_readsMatter_174 : decode cX10_readsMatter 174 = .ok (.bipush 40, 2) := by decide +kernel
theorem dX10_readsMatter_176 : decode cX10_readsMatter 176 = .ok (.invokevirtual 270, 3) := by decide +kernel
theorem dX10_readsMatter_179 : decode cX10_readsMatter 179 = .ok (.ifCond .ne 5, 3) := by decide +kernel
theorem dX10_readsMatter_182 : decode cX10_readsMatter 182 = .ok (.iconst 0, 1) := by decide +kernel
theorem dX10_readsMatter_183 : decode cX10_readsMatter 183 = .ok (.ireturn, 1) := by decide +kernel
theorem dX10_readsMatter_184 : decode cX10_readsMatter 184 = .ok (.aload_n 0, 1) := by decide +kernel
theorem dX10_readsMatter_185 : decode cX10_readsMatter 185 = .ok (.getfield 26, 3) := by decide +kernel
theorem dX10_readsMatter_188 : decode cX10_readsMatter 188 = .ok (.iload_n 1, 1) := by decide +kernel
theorem dX10_readsMatter_189 : decode cX10_readsMatter 189 = .ok (.aload_n 0, 1) := by decide +kernel
theorem dX10_readsMatter_190 : decode cX10_readsMatter 190 = .ok (.getfield 256, 3) := by decide +kernel
theorem dX10_readsMatter_193 : decode cX10_readsMatter 193 = .ok (.iastore, 1) := by decide +kernel
theorem dX10_readsMatter_194 : decode cX10_readsMatter 194 = .ok (.aload_n 0, 1) := by decide +kernel
theorem dX10_readsMatter_195 : decode cX10_readsMatter 195 = .ok (.getfield 29, 3) := by decide +kernel
theorem dX10_readsMatter_198 : decode cX10_readsMatter 198 = .ok (.iload_n 1, 1) := by decide +kernel
theorem dX10_readsMatter_199 : decode cX10_readsMatter 199 = .ok (.iconst 0, 1) := by decide +kernel
theorem dX10_readsMatter_200 : decode cX10_readsMatter 200 = .ok (.iastore, 1) := by decide +kernel
theorem dX10_readsMatter_201 : decode cX10_readsMatter 201 = .ok (.aload_n 0, 1) := by decide +kernel
theorem dX10_readsMatter_202 : decode cX10_readsMatter 202 = .ok (.getfield 16, 3) := by decide +kernel
theorem dX10_readsMatter_205 : decode cX10_readsMatter 205 = .ok (.iload_n 1, 1) := by decide +kernel
theorem dX10_readsMatter_206 : decode cX10_readsMatter 206 = .ok (.lload_n 2, 1) := by decide +kernel
theorem dX10_readsMatter_207 : decode cX10_readsMatter 207 = .ok (.lastore, 1) := by decide +kernel
theorem dX10_readsMatter_208 : decode cX10_readsMatter 208 = .ok (.aload_n 0, 1) := by decide +kernel
theorem dX10_readsMatter_209 : decode cX10_readsMatter 209 = .ok (.getfield 13, 3) := by decide +kernel
theorem dX10_readsMatter_212 : decode cX10_readsMatter 212 = .ok (.iconst 4, 1) := by decide +kernel
theorem dX10_readsMatter_213 : decode cX10_readsMatter 213 = .ok (.dup2, 1) := by decide +kernel
theorem dX10_readsMatter_214 : decode cX10_readsMatter 214 = .ok (.iaload, 1) := by decide +kernel
theorem dX10_readsMatter_215 : decode cX10_readsMatter 215 = .ok (.iconst 1, 1) := by decide +kernel
theorem dX10_readsMatter_216 : decode cX10_readsMatter 216 = .ok (.iadd, 1) := by decide +kernel
theorem dX10_readsMatter_217 : decode cX10_readsMatter 217 = .ok (.iastore, 1) := by decide +kernel
theorem dX10_readsMatter_218 : decode cX10_readsMatter 218 = .ok (.aload_n 0, 1) := by decide +kernel
theorem dX10_readsMatter_219 : decode cX10_readsMatter 219 = .ok (.invokevirtual 274, 3) := by decide +kernel
theorem dX10_readsMatter_222 : decode cX10_readsMatter 222 = .ok (.ireturn, 1) := by decide +kernel
def fX10_readsMatter_b124 (n : Nat) (v0 : Nat) (v1 : Int32) (v2 : Int64) (s0 : Int32) (s1 : Int32) (s2 : Nat) (h : qH) : Option (Int32 × qH) :=
  (sI .int h s2 s1 s0).bind fun h1 =>
  (gR h1 v0 10 12).bind fun x3 =>
  (aI .int h1 x3 v1).bind fun x5 =>
  if 0 ≤ x5 then
  ((fX10_nextToken n v0 h1).bind fun h8 =>
  (fX10_needsBoth n v0 257 0 99 h8).bind fun p9 =>
  if p9.1 = 0 then
  (some (0, p9.2))
  else
  ((gR p9.2 v0 10 13).bind fun x11 =>
  (gI p9.2 v0 10 33).bind fun x13 =>
  (sI .int p9.2 x11 v1 x13).bind fun h15 =>
  (fX10_needsBoth n v0 385497 0 40 h15).bind fun p17 =>
  if p17.1 = 0 then
  (some (0, p17.2))
  else
  ((gR p17.2 v0 10 14).bind fun x19 =>
  (gI p17.2 v0 10 33).bind fun x21 =>
  (sI .int p17.2 x19 v1 x21).bind fun h23 =>
  (gR h23 v0 10 15).bind fun x25 =>
  (sI .int h23 x25 v1 0).bind fun h27 =>
  (gR h27 v0 10 11).bind fun x29 =>
  (sL h27 x29 v1 v2).bind fun h31 =>
  (gR h31 v0 10 10).bind fun x33 =>
  (aI .int h31 x33 4).bind fun x35 =>
  (sI .int h31 x33 4 (x35 + 1)).bind fun h37 =>
  (fX10_closes n v0 h37).bind fun p39 =>
  (qB p39.1).bind fun _ =>
  some (p39.1, p39.2))))
  else
  ((fX10_fails v0 1 h1).bind fun p45 =>
  (qB p45.1).bind fun _ =>
  some (p45.1, p45.2))
set_option maxHeartbeats 4000000 in
set_option maxRecDepth 100000 in
theorem okX10_readsMatter_b124 {l : Launch} {n : Nat} {v0 : Nat} {v1 : Int32} {v2 : Int64} {s0 : Int32} {s1 : Int32} {s2 : Nat} {h : qH} {r : Int32} {h' : qH} (hyp : fX10_readsMatter_b124 n v0 v1 v2 s0 s1 s2 h = some (r, h')) : q_W l 5 yX10_readsMatter cX10_readsMatter 4 (some .boolean) (some (.int r)) h' 124 [(0, .ref v0), (1, .int v1), (2, .long v2)] [.int s0, .int s1, .ref s2] h := by
  unfold fX10_readsMatter_b124 at hyp
  refine q_bind hyp (fun h1 e2 hyp => ?_)
  refine q_iast dX10_readsMatter_124 e2 ?_
  refine q_aload_n 0 rfl dX10_readsMatter_125 ?_
  refine q_bind hyp (fun x3 e4 hyp => ?_)
  refine q_getR kF_X10_20 dX10_readsMatter_126 e4 ?_
  refine q_iload_n 1 rfl dX10_readsMatter_129 ?_
  refine q_bind hyp (fun x5 e6 hyp => ?_)
  refine q_iald dX10_readsMatter_130 e6 ?_
  refine q_if_ge (tgt := 140) dX10_readsMatter_131 (by decide) (fun c7 => ?_) (fun c7 => ?_)
  · have hyp := q_pos c7 hyp
    refine q_aload_n 0 rfl dX10_readsMatter_140 ?_
    refine q_bind hyp (fun h8 e44 hyp => ?_)
    refine q_callV (as := []) (st := []) kY_X10_nextToken kL_X10_206 (okX10_nextToken (l := l) e44) (by decide) rfl (obX10_nextToken e44) (Nat.le_of_ble_eq_true rfl) dX10_readsMatter_141 ?_
    refine q_to (ls' := [(0, .ref v0), (1, .int v1), (2, .long v2)]) (st' := []) rfl rfl ?_
    refine q_aload_n 0 rfl dX10_readsMatter_144 ?_
    refine q_ldc2 kK_X10_224 dX10_readsMatter_145 ?_
    refine q_iconst (x := 0) rfl dX10_readsMatter_148 ?_
    refine q_bipush (x := 99) (by decide) dX10_readsMatter_149 ?_
    refine q_bind hyp (fun p9 e43 hyp => ?_)
    refine q_callV (as := [.long 257, .int 0, .int 99]) (st := []) kY_X10_needsBoth kL_X10_270 (okX10_needsBoth (l := l) e43) (by decide) rfl (obX10_needsBoth e43) (Nat.le_of_ble_eq_true rfl) dX10_readsMatter_151 ?_
    refine q_to (ls' := [(0, .ref v0), (1, .int v1), (2, .long v2)]) (st' := [.int p9.1]) rfl rfl ?_
    refine q_if_ne (tgt := 159) dX10_readsMatter_154 (by decide) (fun c10 => ?_) (fun c10 => ?_)
    · have hyp := q_neg c10 hyp
      refine q_aload_n 0 rfl dX10_readsMatter_159 ?_
      refine q_bind hyp (fun x11 e12 hyp => ?_)
      refine q_getR kF_X10_23 dX10_readsMatter_160 e12 ?_
      refine q_iload_n 1 rfl dX10_readsMatter_163 ?_
      refine q_aload_n 0 rfl dX10_readsMatter_164 ?_
      refine q_bind hyp (fun x13 e14 hyp => ?_)
      refine q_getI kF_X10_256 dX10_readsMatter_165 e14 ?_
      refine q_bind hyp (fun h15 e16 hyp => ?_)
      refine q_iast dX10_readsMatter_168 e16 ?_
      refine q_aload_n 0 rfl dX10_readsMatter_169 ?_
      refine q_ldc2 kK_X10_226 dX10_readsMatter_170 ?_
      refine q_iconst (x := 0) rfl dX10_readsMatter_173 ?_
      refine q_bipush (x := 40) (by decide) dX10_readsMatter_174 ?_
      refine q_bind hyp (fun p17 e42 hyp => ?_)
      refine q_callV (as := [.long 385497, .int 0, .int 40]) (st := []) kY_X10_needsBoth kL_X10_270 (okX10_needsBoth (l := l) e42) (by decide) rfl (obX10_needsBoth e42) (Nat.le_of_ble_eq_true rfl) dX10_readsMatter_176 ?_
      refine q_to (ls' := [(0, .ref v0), (1, .int v1), (2, .long v2)]) (st' := [.int p17.1]) rfl rfl ?_
      refine q_if_ne (tgt := 184) dX10_readsMatter_179 (by decide) (fun c18 => ?_) (fun c18 => ?_)
      · have hyp := q_neg c18 hyp
        refine q_aload_n 0 rfl dX10_readsMatter_184 ?_
        refine q_bind hyp (fun x19 e20 hyp => ?_)
        refine q_getR kF_X10_26 dX10_readsMatter_185 e20 ?_
        refine q_iload_n 1 rfl dX10_readsMatter_188 ?_
        refine q_aload_n 0 rfl dX10_readsMatter_189 ?_
        refine q_bind hyp (fun x21 e22 hyp => ?_)
        refine q_getI kF_X10_256 dX10_readsMatter_190 e22 ?_
        refine q_bind hyp (fun h23 e24 hyp => ?_)
        refine q_iast dX10_readsMatter_193 e24 ?_
        refine q_aload_n 0 rfl dX10_readsMatter_194 ?_
        refine q_bind hyp (fun x25 e26 hyp => ?_)
        refine q_getR kF_X10_29 dX10_readsMatter_195 e26 ?_
        refine q_iload_n 1 rfl dX10_readsMatter_198 ?_
        refine q_iconst (x := 0) rfl dX10_readsMatter_199 ?_
        refine q_bind hyp (fun h27 e28 hyp => ?_)
        refine q_iast dX10_readsMatter_200 e28 ?_
        refine q_aload_n 0 rfl dX10_readsMatter_201 ?_
        refine q_bind hyp (fun x29 e30 hyp => ?_)
        refine q_getR kF_X10_16 dX10_readsMatter_202 e30 ?_
        refine q_iload_n 1 rfl dX10_readsMatter_205 ?_
        refine q_lload_n 2 rfl dX10_readsMatter_206 ?_
        refine q_bind hyp (fun h31 e32 hyp => ?_)
        refine q_last dX10_readsMatter_207 e32 ?_
        refine q_aload_n 0 rfl dX10_readsMatter_208 ?_
        refine q_bind hyp (fun x33 e34 hyp => ?_)
        refine q_getR kF_X10_13 dX10_readsMatter_209 e34 ?_
        refine q_iconst (x := 4) rfl dX10_readsMatter_212 ?_
        refine q_dup2 rfl rfl dX10_readsMatter_213 ?_
        refine q_bind hyp (fun x35 e36 hyp => ?_)
        refine q_iald dX10_readsMatter_214 e36 ?_
        refine q_iconst (x := 1) rfl dX10_readsMatter_215 ?_
        refine q_iadd dX10_readsMatter_216 ?_
        refine q_bind hyp (fun h37 e38 hyp => ?_)
        refine q_iast dX10_readsMatter_217 e38 ?_
        refine q_aload_n 0 rfl dX10_readsMatter_218 ?_
        refine q_bind hyp (fun p39 e41 hyp => ?_)
        refine q_callV (as := []) (st := []) kY_X10_closes kL_X10_274 (okX10_closes (l := l) e41) (by decide) rfl (obX10_closes e41) (Nat.le_of_ble_eq_true rfl) dX10_readsMatter_219 ?_
        refine q_to (ls' := [(0, .ref v0), (1, .int v1), (2, .long v2)]) (st' := [.int p39.1]) rfl rfl ?_
        refine q_bind hyp (fun _ e40 hyp => ?_)
        exact q_iretH rfl (qB_some e40) dX10_readsMatter_222 hyp
      · have hyp := q_pos c18 hyp
        refine q_iconst (x := 0) rfl dX10_readsMatter_182 ?_
        exact q_iretH rfl rfl dX10_readsMatter_183 hyp
    · have hyp := q_pos c10 hyp
      refine q_iconst (x := 0) rfl dX10_readsMatter_157 ?_
      exact q_iretH rfl rfl dX10_readsMatter_158 hyp
  · have hyp := q_neg c7 hyp
    refine q_aload_n 0 rfl dX10_readsMatter_134 ?_
    refine q_iconst (x := 1) rfl dX10_readsMatter_135 ?_
    refine q_bind hyp (fun p45 e47 hyp => ?_)
    refine q_callV (as := [.int 1]) (st := []) kY_X10_fails kL_X10_200 (okX10_fails (l := l) e47) (by decide) rfl (obX10_fails e47) (Nat.le_of_ble_eq_true rfl) dX10_readsMatter_136 ?_
    refine q_to (ls' := [(0, .ref v0), (1, .int v1), (2, .long v2)]) (st' := [.int p45.1]) rfl rfl ?_
    refine q_bind hyp (fun _ e46 hyp => ?_)
    exact q_iretH rfl (qB_some e46) dX10_readsMatter_139 hyp
def fX10_readsMatter (n : Nat) (v0 : Nat) (h : qH) : Option (Int32 × qH) :=
  (isO h v0 10).bind fun _ =>
  (gR h v0 10 10).bind fun x1 =>
  (aI .int h x1 4).bind fun x3 =>
  if (7 + x3) = 14 then
  ((fX10_fails v0 5 h).bind fun p38 =>
  (qB p38.1).bind fun _ =>
  some (p38.1, p38.2))
  else
  ((fX10_nextToken n v0 h).bind fun h6 =>
  (fX10_isKept v0 h6).bind fun p7 =>
  if p7.1 = 0 then
  ((fX10_matterNamed n v0 1 p7.2).bind fun p9 =>
  if p9.1 < 0 then
  ((gL p9.2 v0 10 7).bind fun x11 =>
  (fX10_nextToken n v0 p9.2).bind fun h13 =>
  (gR h13 v0 10 12).bind fun x14 =>
  (fX10_isWord v0 8740238 h13).bind fun p16 =>
  if p16.1 = 0 then
  ((fX10_isWord v0 29637824 p16.2).bind fun p18 =>
  if p18.1 = 0 then
  ((fX10_isWord v0 8984627224 p18.2).bind fun p20 =>
  if p20.1 = 0 then
  ((fX10_isWord v0 335098125 p20.2).bind fun p22 =>
  if p22.1 = 0 then
  (fX10_readsMatter_b124 n v0 (7 + x3) x11 ((-1)) (7 + x3) x14 p22.2)
  else
  (fX10_readsMatter_b124 n v0 (7 + x3) x11 3 (7 + x3) x14 p22.2))
  else
  (fX10_readsMatter_b124 n v0 (7 + x3) x11 2 (7 + x3) x14 p20.2))
  else
  (fX10_readsMatter_b124 n v0 (7 + x3) x11 1 (7 + x3) x14 p18.2))
  else
  (fX10_readsMatter_b124 n v0 (7 + x3) x11 0 (7 + x3) x14 p16.2))
  else
  ((fX10_fails v0 3 p9.2).bind fun p29 =>
  (qB p29.1).bind fun _ =>
  some (p29.1, p29.2)))
  else
  ((fX10_fails v0 1 p7.2).bind fun p33 =>
  (qB p33.1).bind fun _ =>
  some (p33.1, p33.2)))
theorem obX10_readsMatter {n : Nat} {v0 : Nat} {h : qH} {p : Int32 × qH} (hyp : fX10_readsMatter n v0 h = some p) : ∃ fs, h.1 v0 = some (.inr (10, fs)) := by
  unfold fX10_readsMatter at hyp
  exact q_bind hyp (fun _ e _ => isO_some e)
set_option maxHeartbeats 4000000 in
set_option maxRecDepth 100000 in
theorem okX10_readsMatter {l : Launch} {n : Nat} {v0 : Nat} {h : qH} {p : Int32 × qH} (hyp : fX10_readsMatter n v0 h = some p) : q_M l 5 yX10_readsMatter cX10_readsMatter 4 (some .boolean) [.ref v0] h (some (.int p.1)) p.2 := by
  obtain ⟨r, h'⟩ := p
  unfold fX10_readsMatter at hyp
  refine q_bind hyp (fun _ _ hyp => ?_)
  refine q_M.of (by decide) (Nat.le_of_ble_eq_true rfl) ?_
  refine q_to (ls' := [(0, .ref v0)]) (st' := []) rfl rfl ?_
  refine q_bipush (x := 7) (by decide) dX10_readsMatter_0 ?_
  refine q_aload_n 0 rfl dX10_readsMatter_2 ?_
  refine q_bind hyp (fun x1 e2 hyp => ?_)
  refine q_getR kF_X10_13 dX10_readsMatter_3 e2 ?_
  refine q_iconst (x := 4) rfl dX10_readsMatter_6 ?_
  refine q_bind hyp (fun x3 e4 hyp => ?_)
  refine q_iald dX10_readsMatter_7 e4 ?_
  refine q_iadd dX10_readsMatter_8 ?_
  refine q_istore_n (ls' := [(1, .int (7 + x3)), (0, .ref v0)]) (by decide) rfl dX10_readsMatter_9 ?_
  refine q_iload_n 0 rfl dX10_readsMatter_10 ?_
  refine q_bipush (x := 14) (by decide) dX10_readsMatter_11 ?_
  refine q_icmp_ne (tgt := 22) dX10_readsMatter_13 (by decide) (fun c5 => ?_) (fun c5 => ?_)
  · have hyp := q_neg c5 hyp
    refine q_aload_n 1 rfl dX10_readsMatter_22 ?_
    refine q_bind hyp (fun h6 e37 hyp => ?_)
    refine q_callV (as := []) (st := []) kY_X10_nextToken kL_X10_206 (okX10_nextToken (l := l) e37) (by decide) rfl (obX10_nextToken e37) (Nat.le_of_ble_eq_true rfl) dX10_readsMatter_23 ?_
    refine q_to (ls' := [(1, .int (7 + x3)), (0, .ref v0)]) (st' := []) rfl rfl ?_
    refine q_aload_n 1 rfl dX10_readsMatter_26 ?_
    refine q_bind hyp (fun p7 e36 hyp => ?_)
    refine q_callV (as := []) (st := []) kY_X10_isKept kL_X10_263 (okX10_isKept (l := l) e36) (by decide) rfl (obX10_isKept e36) (Nat.le_of_ble_eq_true rfl) dX10_readsMatter_27 ?_
    refine q_to (ls' := [(1, .int (7 + x3)), (0, .ref v0)]) (st' := [.int p7.1]) rfl rfl ?_
    refine q_if_eq (tgt := 39) dX10_readsMatter_30 (by decide) (fun c8 => ?_) (fun c8 => ?_)
    · have hyp := q_pos c8 hyp
      refine q_aload_n 1 rfl dX10_readsMatter_39 ?_
      refine q_iconst (x := 1) rfl dX10_readsMatter_40 ?_
      refine q_bind hyp (fun p9 e32 hyp => ?_)
      refine q_callV (as := [.int 1]) (st := []) kY_X10_matterNamed kL_X10_267 (okX10_matterNamed (l := l) e32) (by decide) rfl (obX10_matterNamed e32) (Nat.le_of_ble_eq_true rfl) dX10_readsMatter_41 ?_
      refine q_to (ls' := [(1, .int (7 + x3)), (0, .ref v0)]) (st' := [.int p9.1]) rfl rfl ?_
      refine q_if_lt (tgt := 53) dX10_readsMatter_44 (by decide) (fun c10 => ?_) (fun c10 => ?_)
      · have hyp := q_pos c10 hyp
        refine q_aload_n 1 rfl dX10_readsMatter_53 ?_
        refine q_bind hyp (fun x11 e12 hyp => ?_)
        refine q_getL kF_X10_154 dX10_readsMatter_54 e12 ?_
        refine q_lstore_n (ls' := [(2, .long x11), (1, .int (7 + x3)), (0, .ref v0)]) (by decide) rfl dX10_readsMatter_57 ?_
        refine q_aload_n 2 rfl dX10_readsMatter_58 ?_
        refine q_bind hyp (fun h13 e28 hyp => ?_)
        refine q_callV (as := []) (st := []) kY_X10_nextToken kL_X10_206 (okX10_nextToken (l := l) e28) (by decide) rfl (obX10_nextToken e28) (Nat.le_of_ble_eq_true rfl) dX10_readsMatter_59 ?_
        refine q_to (ls' := [(2, .long x11), (1, .int (7 + x3)), (0, .ref v0)]) (st' := []) rfl rfl ?_
        refine q_aload_n 2 rfl dX10_readsMatter_62 ?_
        refine q_bind hyp (fun x14 e15 hyp => ?_)
        refine q_getR kF_X10_20 dX10_readsMatter_63 e15 ?_
        refine q_iload_n 1 rfl dX10_readsMatter_66 ?_
        refine q_aload_n 2 rfl dX10_readsMatter_67 ?_
        refine q_ldc2 kK_X10_244 dX10_readsMatter_68 ?_
        refine q_bind hyp (fun p16 e27 hyp => ?_)
        refine q_callV (as := [.long 8740238]) (st := [.int (7 + x3), .ref x14]) kY_X10_isWord kL_X10_192 (okX10_isWord (l := l) e27) (by decide) rfl (obX10_isWord e27) (Nat.le_of_ble_eq_true rfl) dX10_readsMatter_71 ?_
        refine q_to (ls' := [(2, .long x11), (1, .int (7 + x3)), (0, .ref v0)]) (st' := [.int p16.1, .int (7 + x3), .ref x14]) rfl rfl ?_
        refine q_if_eq (tgt := 81) dX10_readsMatter_74 (by decide) (fun c17 => ?_) (fun c17 => ?_)
        · have hyp := q_pos c17 hyp
          refine q_aload_n 2 rfl dX10_readsMatter_81 ?_
          refine q_ldc2 kK_X10_246 dX10_readsMatter_82 ?_
          refine q_bind hyp (fun p18 e26 hyp => ?_)
          refine q_callV (as := [.long 29637824]) (st := [.int (7 + x3), .ref x14]) kY_X10_isWord kL_X10_192 (okX10_isWord (l := l) e26) (by decide) rfl (obX10_isWord e26) (Nat.le_of_ble_eq_true rfl) dX10_readsMatter_85 ?_
          refine q_to (ls' := [(2, .long x11), (1, .int (7 + x3)), (0, .ref v0)]) (st' := [.int p18.1, .int (7 + x3), .ref x14]) rfl rfl ?_
          refine q_if_eq (tgt := 95) dX10_readsMatter_88 (by decide) (fun c19 => ?_) (fun c19 => ?_)
          · have hyp := q_pos c19 hyp
            refine q_aload_n 2 rfl dX10_readsMatter_95 ?_
            refine q_ldc2 kK_X10_248 dX10_readsMatter_96 ?_
            refine q_bind hyp (fun p20 e25 hyp => ?_)
            refine q_callV (as := [.long 8984627224]) (st := [.int (7 + x3), .ref x14]) kY_X10_isWord kL_X10_192 (okX10_isWord (l := l) e25) (by decide) rfl (obX10_isWord e25) (Nat.le_of_ble_eq_true rfl) dX10_readsMatter_99 ?_
            refine q_to (ls' := [(2, .long x11), (1, .int (7 + x3)), (0, .ref v0)]) (st' := [.int p20.1, .int (7 + x3), .ref x14]) rfl rfl ?_
            refine q_if_eq (tgt := 109) dX10_readsMatter_102 (by decide) (fun c21 => ?_) (fun c21 => ?_)
            · have hyp := q_pos c21 hyp
              refine q_aload_n 2 rfl dX10_readsMatter_109 ?_
              refine q_ldc2 kK_X10_250 dX10_readsMatter_110 ?_
              refine q_bind hyp (fun p22 e24 hyp => ?_)
              refine q_callV (as := [.long 335098125]) (st := [.int (7 + x3), .ref x14]) kY_X10_isWord kL_X10_192 (okX10_isWord (l := l) e24) (by decide) rfl (obX10_isWord e24) (Nat.le_of_ble_eq_true rfl) dX10_readsMatter_113 ?_
              refine q_to (ls' := [(2, .long x11), (1, .int (7 + x3)), (0, .ref v0)]) (st' := [.int p22.1, .int (7 + x3), .ref x14]) rfl rfl ?_
              refine q_if_eq (tgt := 123) dX10_readsMatter_116 (by decide) (fun c23 => ?_) (fun c23 => ?_)
              · have hyp := q_pos c23 hyp
                refine q_iconst (x := (-1)) rfl dX10_readsMatter_123 ?_
                exact q_sub [2, 1, 0] rfl (okX10_readsMatter_b124 hyp)
              · have hyp := q_neg c23 hyp
                refine q_iconst (x := 3) rfl dX10_readsMatter_119 ?_
                refine q_goto (tgt := 124) dX10_readsMatter_120 (by decide) ?_
                exact q_sub [2, 1, 0] rfl (okX10_readsMatter_b124 hyp)
            · have hyp := q_neg c21 hyp
              refine q_iconst (x := 2) rfl dX10_readsMatter_105 ?_
              refine q_goto (tgt := 124) dX10_readsMatter_106 (by decide) ?_
              exact q_sub [2, 1, 0] rfl (okX10_readsMatter_b124 hyp)
          · have hyp := q_neg c19 hyp
            refine q_iconst (x := 1) rfl dX10_readsMatter_91 ?_
            refine q_goto (tgt := 124) dX10_readsMatter_92 (by decide) ?_
            exact q_sub [2, 1, 0] rfl (okX10_readsMatter_b124 hyp)
        · have hyp := q_neg c17 hyp
          refine q_iconst (x := 0) rfl dX10_readsMatter_77 ?_
          refine q_goto (tgt := 124) dX10_readsMatter_78 (by decide) ?_
          exact q_sub [2, 1, 0] rfl (okX10_readsMatter_b124 hyp)
      · have hyp := q_neg c10 hyp
        refine q_aload_n 1 rfl dX10_readsMatter_47 ?_
        refine q_iconst (x := 3) rfl dX10_readsMatter_48 ?_
        refine q_bind hyp (fun p29 e31 hyp => ?_)
        refine q_callV (as := [.int 3]) (st := []) kY_X10_fails kL_X10_200 (okX10_fails (l := l) e31) (by decide) rfl (obX10_fails e31) (Nat.le_of_ble_eq_true rfl) dX10_readsMatter_49 ?_
        refine q_to (ls' := [(1, .int (7 + x3)), (0, .ref v0)]) (st' := [.int p29.1]) rfl rfl ?_
        refine q_bind hyp (fun _ e30 hyp => ?_)
        exact q_iretH rfl (qB_some e30) dX10_readsMatter_52 hyp
    · have hyp := q_neg c8 hyp
      refine q_aload_n 1 rfl dX10_readsMatter_33 ?_
      refine q_iconst (x := 1) rfl dX10_readsMatter_34 ?_
      refine q_bind hyp (fun p33 e35 hyp => ?_)
      refine q_callV (as := [.int 1]) (st := []) kY_X10_fails kL_X10_200 (okX10_fails (l := l) e35) (by decide) rfl (obX10_fails e35) (Nat.le_of_ble_eq_true rfl) dX10_readsMatter_35 ?_
      refine q_to (ls' := [(1, .int (7 + x3)), (0, .ref v0)]) (st' := [.int p33.1]) rfl rfl ?_
      refine q_bind hyp (fun _ e34 hyp => ?_)
      exact q_iretH rfl (qB_some e34) dX10_readsMatter_38 hyp
  · have hyp := q_pos c5 hyp
    refine q_aload_n 1 rfl dX10_readsMatter_16 ?_
    refine q_iconst (x := 5) rfl dX10_readsMatter_17 ?_
    refine q_bind hyp (fun p38 e40 hyp => ?_)
    refine q_callV (as := [.int 5]) (st := []) kY_X10_fails kL_X10_200 (okX10_fails (l := l) e40) (by decide) rfl (obX10_fails e40) (Nat.le_of_ble_eq_true rfl) dX10_readsMatter_18 ?_
    refine q_to (ls' := [(1, .int (7 + x3)), (0, .ref v0)]) (st' := [.int p38.1]) rfl rfl ?_
    refine q_bind hyp (fun _ e39 hyp => ?_)
    exact q_iretH rfl (qB_some e39) dX10_readsMatter_21 hyp
