/-! Functions over the abstract heap, and that the machine computes them (written by gen.py). -/
theorem dX10_redeems_0 : decode cX10_redeems 0 = .ok (.aload_n 0, 1) := by decide +kernel
theorem dX10_redeems_1 : decode cX10_redeems 1 = .ok (.iconst 0, 1) := by decide +kernel
theorem dX10_redeems_2 : decode cX10_redeems 2 = .ok (.putfield 136, 3) := by decide +kernel
theorem dX10_redeems_5 : decode cX10_redeems 5 = .ok (.aload_n 0, 1) := by decide +kernel
theorem dX10_redeems_6 : decode cX10_redeems 6 = .ok (.invokevirtual 349, 3) := by decide +kernel
theorem dX10_redeems_9 : decode cX10_redeems 9 = .ok (.istore_n 1, 1) := by decide +kernel
theorem dX10_redeems_10 : decode cX10_redeems 10 = .ok (.aload_n 0, 1) := by decide +kernel
theorem dX10_redeems_11 : decode cX10_redeems 11 = .ok (.iload_n 1, 1) := by decide +kernel
theorem dX10_redeems_12 : decode cX10_redeems 12 = .ok (.invokevirtual 352, 3) := by decide +kernel
theorem dX10_redeems_15 : decode cX10_redeems 15 = .ok (.istore_n 2, 1) := by decide +kernel
theorem dX10_redeems_16 : decode cX10_redeems 16 = .ok (.iconst (-1), 1) := by decide +kernel
theorem dX10_redeems_17 : decode cX10_redeems 17 = .ok (.istore_n 3, 1) := by decide +kernel
theorem dX10_redeems_18 : decode cX10_redeems 18 = .ok (.iconst 0, 1) := by decide +kernel
theorem dX10_redeems_19 : decode cX10_redeems 19 = .ok (.istore 4, 2) := by decide +kernel
theorem dX10_redeems_21 : decode cX10_redeems 21 = .ok (.iconst 0, 1) := by decide +kernel
theorem dX10_redeems_22 : decode cX10_redeems 22 = .ok (.istore 5, 2) := by decide +kernel
theorem dX10_redeems_24 : decode cX10_redeems 24 = .ok (.iload 5, 2) := by decide +kernel
theorem dX10_redeems_26 : decode cX10_redeems 26 = .ok (.aload_n 0, 1) := by decide +kernel
theorem dX10_redeems_27 : decode cX10_redeems 27 = .ok (.getfield 13, 3) := by decide +kernel
theorem dX10_redeems_30 : decode cX10_redeems 30 = .ok (.iconst 0, 1) := by decide +kernel
theorem dX10_redeems_31 : decode cX10_redeems 31 = .ok (.iaload, 1) := by decide +kernel
theorem dX10_redeems_32 : decode cX10_redeems 32 = .ok (.if_icmp .ge 65, 3) := by decide +kernel
theorem dX10_redeems_35 : decode cX10_redeems 35 = .ok (.iload_n 1, 1) := by decide +kernel
theorem dX10_redeems_36 : decode cX10_redeems 36 = .ok (.iload 5, 2) := by decide +kernel
theorem dX10_redeems_38 : decode cX10_redeems 38 = .ok (.ishr, 1) := by decide +kernel
theorem dX10_redeems_39 : decode cX10_redeems 39 = .ok (.iconst 1, 1) := by decide +kernel
theorem dX10_redeems_40 : decode cX10_redeems 40 = .ok (.iand, 1) := by decide +kernel
theorem dX10_redeems_41 : decode cX10_redeems 41 = .ok (.iconst 1, 1) := by decide +kernel
theorem dX10_redeems_42 : decode cX10_redeems 42 = .ok (.if_icmp .ne 6, 3) := by decide +kernel
theorem dX10_redeems_45 : decode cX10_redeems 45 = .ok (.goto 46, 3) := by decide +kernel
theorem dX10_redeems_48 : decode cX10_redeems 48 = .ok (.aload_n 0, 1) := by decide +kernel
theorem dX10_redeems_49 : decode cX10_redeems 49 = .ok (.iload_n 1, 1) := by decide +kernel
theorem dX10_redeems_50 : decode cX10_redeems 50 = .ok (.iconst 1, 1) := by decide +kernel
theorem dX10_redeems_51 : decode cX10_redeems 51 = .ok (.iload 5, 2) := by decide +kernel
theorem dX10_redeems_53 : decode cX10_redeems 53 = .ok (.ishl, 1) := by decide +kernel
theorem dX10_redeems_54 : decode cX10_redeems 54 = .ok (.ior, 1) := by decide +kernel
theorem dX10_redeems_55 : decode cX10_redeems 55 = .ok (.invokevirtual 352, 3) := by decide +kernel
theorem dX10_redeems_58 : decode cX10_redeems 58 = .ok (.iload_n 2, 1) := by decide +kernel
theorem dX10_redeems_59 : decode cX10_redeems 59 = .ok (.iconst (-1), 1) := by decide +kernel
theorem dX10_redeems_60 : decode cX10_redeems 60 = .ok (.ixor, 1) := by decide +kernel
theorem dX10_redeems_61 : decode cX10_redeems 61 = .ok (.iand, 1) := by decide +kernel
theorem dX10_redeems_62 : decode cX10_redeems 62 = .ok (.iconst 1, 1) := by decide +kernel
theorem dX10_redeems_63 : decode cX10_redeems 63 = .ok (.iload 5, 2) := by decide +kernel
theorem dX10_redeems_65 : decode cX10_redeems 65 = .ok (.ishl, 1) := by decide +kernel
theorem dX10_redeems_66 : decode cX10_redeems 66 = .ok (.iconst (-1), 1) := by decide +kernel
theorem dX10_redeems_67 : decode cX10_redeems 67 = .ok (.ixor, 1) := by decide +kernel
theorem dX10_redeems_68 : decode cX10_redeems 68 = .ok (.iand, 1) := by decide +kernel
theorem dX10_redeems_69 : decode cX10_redeems 69 = .ok (.invokestatic 371, 3) := by decide +kernel
theorem dX10_redeems_72 : decode cX10_redeems 72 = .ok (.istore 6, 2) := by decide +kernel
theorem dX10_redeems_74 : decode cX10_redeems 74 = .ok (.iload 6, 2) := by decide +kernel
theorem dX10_redeems_76 : decode cX10_redeems 76 = .ok (.iload 4, 2) := by decide +kernel
theorem dX10_redeems_78 : decode cX10_redeems 78 = .ok (.if_icmp .gt 6, 3) := by decide +kernel
theorem dX10_redeems_81 : decode cX10_redeems 81 = .ok (.goto 10, 3) := by decide +kernel
theorem dX10_redeems_84 : decode cX10_redeems 84 = .ok (.iload 6, 2) := by decide +kernel
theorem dX10_redeems_86 : decode cX10_redeems 86 = .ok (.istore 4, 2) := by decide +kernel
theorem dX10_redeems_88 : decode cX10_redeems 88 = .ok (.iload 5, 2) := by decide +kernel
theorem dX10_redeems_90 : decode cX10_redeems 90 = .ok (.istore_n 3, 1) := by decide +kernel
theorem dX10_redeems_91 : decode cX10_redeems 91 = .ok (.iinc 5 1, 3) := by decide +kernel
theorem dX10_redeems_94 : decode cX10_redeems 94 = .ok (.goto (-70), 3) := by decide +kernel
theorem dX10_redeems_97 : decode cX10_redeems 97 = .ok (.iload_n 3, 1) := by decide +kernel
theorem dX10_redeems_98 : decode cX10_redeems 98 = .ok (.ireturn, 1) := by decide +kernel
def fX10_redeems_b24 (n : Nat) : Nat → Nat → Int32 → Int32 → Int32 → Int32 → Int32 → qH → Option (Int32 × qH)
  | 0, _, _, _, _, _, _, _ => none
  | w + 1, v0, v1, v2, v3, v4, v5, h =>
    (gR h v0 10 10).bind fun x1 =>
    (aI .int h x1 0).bind fun x3 =>
    if x3 ≤ v5 then
    (some (v3, h))
    else
    (if ((v1 >>> (v5 &&& 31)) &&& 1) = 1 then
    (fX10_redeems_b24 n w v0 v1 v2 v3 v4 (v5 + 1) h)
    else
    ((fX10_rightBy n v0 (v1 ||| ((1 : Int32) <<< (v5 &&& 31))) h).bind fun p7 =>
    (fX10_bits n ((p7.1 &&& (v2 ^^^ ((-1)))) &&& (((1 : Int32) <<< (v5 &&& 31)) ^^^ ((-1)))) p7.2).bind fun p8 =>
    if v4 < p8.1 then
    (fX10_redeems_b24 n w v0 v1 v2 v5 p8.1 (v5 + 1) p8.2)
    else
    (fX10_redeems_b24 n w v0 v1 v2 v3 v4 (v5 + 1) p8.2)))
set_option maxHeartbeats 4000000 in
set_option maxRecDepth 100000 in
theorem okX10_redeems_b24 {l : Launch} {n : Nat} {r : Int32} {h' : qH} : ∀ (w : Nat) (v0 : Nat) (v1 : Int32) (v2 : Int32) (v3 : Int32) (v4 : Int32) (v5 : Int32) (h : qH), fX10_redeems_b24 n w v0 v1 v2 v3 v4 v5 h = some (r, h') → q_W l 2 yX10_redeems cX10_redeems 7 (some .int) (some (.int r)) h' 24 [(0, .ref v0), (1, .int v1), (2, .int v2), (3, .int v3), (4, .int v4), (5, .int v5)] [] h := by
  intro w
  induction w with
  | zero => intro v0 v1 v2 v3 v4 v5 h hyp; cases hyp
  | succ w ih =>
    intro v0 v1 v2 v3 v4 v5 h hyp
    unfold fX10_redeems_b24 at hyp
    refine q_iload 5 rfl dX10_redeems_24 ?_
    refine q_aload_n 0 rfl dX10_redeems_26 ?_
    refine q_bind hyp (fun x1 e2 hyp => ?_)
    refine q_getR kF_X10_13 dX10_redeems_27 e2 ?_
    refine q_iconst (x := 0) rfl dX10_redeems_30 ?_
    refine q_bind hyp (fun x3 e4 hyp => ?_)
    refine q_iald dX10_redeems_31 e4 ?_
    refine q_icmp_ge (tgt := 97) dX10_redeems_32 (by decide) (fun c5 => ?_) (fun c5 => ?_)
    · have hyp := q_pos c5 hyp
      refine q_iload_n 3 rfl dX10_redeems_97 ?_
      exact q_iretH rfl rfl dX10_redeems_98 hyp
    · have hyp := q_neg c5 hyp
      refine q_iload_n 1 rfl dX10_redeems_35 ?_
      refine q_iload 5 rfl dX10_redeems_36 ?_
      refine q_ishr dX10_redeems_38 ?_
      refine q_iconst (x := 1) rfl dX10_redeems_39 ?_
      refine q_iand dX10_redeems_40 ?_
      refine q_iconst (x := 1) rfl dX10_redeems_41 ?_
      refine q_icmp_ne (tgt := 48) dX10_redeems_42 (by decide) (fun c6 => ?_) (fun c6 => ?_)
      · have hyp := q_neg c6 hyp
        refine q_aload_n 0 rfl dX10_redeems_48 ?_
        refine q_iload_n 1 rfl dX10_redeems_49 ?_
        refine q_iconst (x := 1) rfl dX10_redeems_50 ?_
        refine q_iload 5 rfl dX10_redeems_51 ?_
        refine q_ishl dX10_redeems_53 ?_
        refine q_ior dX10_redeems_54 ?_
        refine q_bind hyp (fun p7 e11 hyp => ?_)
        refine q_callV (as := [.int (v1 ||| ((1 : Int32) <<< (v5 &&& 31)))]) (st := []) kY_X10_rightBy kL_X10_352 (okX10_rightBy (l := l) e11) (by decide) rfl (obX10_rightBy e11) (Nat.le_of_ble_eq_true rfl) dX10_redeems_55 ?_
        refine q_to (ls' := [(0, .ref v0), (1, .int v1), (2, .int v2), (3, .int v3), (4, .int v4), (5, .int v5)]) (st' := [.int p7.1]) rfl rfl ?_
        refine q_iload_n 2 rfl dX10_redeems_58 ?_
        refine q_iconst (x := (-1)) rfl dX10_redeems_59 ?_
        refine q_ixor dX10_redeems_60 ?_
        refine q_iand dX10_redeems_61 ?_
        refine q_iconst (x := 1) rfl dX10_redeems_62 ?_
        refine q_iload 5 rfl dX10_redeems_63 ?_
        refine q_ishl dX10_redeems_65 ?_
        refine q_iconst (x := (-1)) rfl dX10_redeems_66 ?_
        refine q_ixor dX10_redeems_67 ?_
        refine q_iand dX10_redeems_68 ?_
        refine q_bind hyp (fun p8 e10 hyp => ?_)
        refine q_callS (as := [.int ((p7.1 &&& (v2 ^^^ ((-1)))) &&& (((1 : Int32) <<< (v5 &&& 31)) ^^^ ((-1))))]) (st := []) kY_X10_bits kS_X10_bits kL_X10_371 (okX10_bits (l := l) e10) (by decide) rfl (Nat.le_of_ble_eq_true rfl) dX10_redeems_69 ?_
        refine q_to (ls' := [(0, .ref v0), (1, .int v1), (2, .int v2), (3, .int v3), (4, .int v4), (5, .int v5)]) (st' := [.int p8.1]) rfl rfl ?_
        refine q_istore (ls' := [(6, .int p8.1), (0, .ref v0), (1, .int v1), (2, .int v2), (3, .int v3), (4, .int v4), (5, .int v5)]) (by decide) rfl dX10_redeems_72 ?_
        refine q_iload 0 rfl dX10_redeems_74 ?_
        refine q_iload 5 rfl dX10_redeems_76 ?_
        refine q_icmp_gt (tgt := 84) dX10_redeems_78 (by decide) (fun c9 => ?_) (fun c9 => ?_)
        · have hyp := q_pos c9 hyp
          refine q_iload 0 rfl dX10_redeems_84 ?_
          refine q_istore (ls' := [(4, .int p8.1), (6, .int p8.1), (0, .ref v0), (1, .int v1), (2, .int v2), (3, .int v3), (5, .int v5)]) (by decide) rfl dX10_redeems_86 ?_
          refine q_iload 6 rfl dX10_redeems_88 ?_
          refine q_istore_n (ls' := [(3, .int v5), (4, .int p8.1), (6, .int p8.1), (0, .ref v0), (1, .int v1), (2, .int v2), (5, .int v5)]) (by decide) rfl dX10_redeems_90 ?_
          refine q_iinc (ls' := [(5, .int (v5 + 1)), (3, .int v5), (4, .int p8.1), (6, .int p8.1), (0, .ref v0), (1, .int v1), (2, .int v2)]) 6 rfl rfl (by decide) rfl dX10_redeems_91 ?_
          refine q_goto (tgt := 24) dX10_redeems_94 (by decide) ?_
          exact q_sub [4, 5, 6, 1, 2, 0] rfl (ih v0 v1 v2 v5 p8.1 (v5 + 1) p8.2 hyp)
        · have hyp := q_neg c9 hyp
          refine q_goto (tgt := 91) dX10_redeems_81 (by decide) ?_
          refine q_iinc (ls' := [(5, .int (v5 + 1)), (6, .int p8.1), (0, .ref v0), (1, .int v1), (2, .int v2), (3, .int v3), (4, .int v4)]) 6 rfl rfl (by decide) rfl dX10_redeems_91 ?_
          refine q_goto (tgt := 24) dX10_redeems_94 (by decide) ?_
          exact q_sub [2, 3, 4, 5, 6, 0] rfl (ih v0 v1 v2 v3 v4 (v5 + 1) p8.2 hyp)
      · have hyp := q_pos c6 hyp
        refine q_goto (tgt := 91) dX10_redeems_45 (by decide) ?_
        refine q_iinc (ls' := [(5, .int (v5 + 1)), (0, .ref v0), (1, .int v1), (2, .int v2), (3, .int v3), (4, .int v4)]) 5 rfl rfl (by decide) rfl dX10_redeems_91 ?_
        refine q_goto (tgt := 24) dX10_redeems_94 (by decide) ?_
        exact q_sub [1, 2, 3, 4, 5, 0] rfl (ih v0 v1 v2 v3 v4 (v5 + 1) h hyp)
def fX10_redeems (n : Nat) (v0 : Nat) (h : qH) : Option (Int32 × qH) :=
  (isO h v0 10).bind fun _ =>
  (pF h v0 10 0 (.int 0)).bind fun h1 =>
  (fX10_meantNow n v0 h1).bind fun p3 =>
  (fX10_rightBy n v0 p3.1 p3.2).bind fun p4 =>
  fX10_redeems_b24 n n v0 p3.1 p4.1 ((-1)) 0 0 p4.2
theorem obX10_redeems {n : Nat} {v0 : Nat} {h : qH} {p : Int32 × qH} (hyp : fX10_redeems n v0 h = some p) : ∃ fs, h.1 v0 = some (.inr (10, fs)) := by
  unfold fX10_redeems at hyp
  exact q_bind hyp (fun _ e _ => isO_some e)
set_option maxHeartbeats 4000000 in
set_option maxRecDepth 100000 in
theorem okX10_redeems {l : Launch} {n : Nat} {v0 : Nat} {h : qH} {p : Int32 × qH} (hyp : fX10_redeems n v0 h = some p) : q_M l 2 yX10_redeems cX10_redeems 7 (some .int) [.ref v0] h (some (.int p.1)) p.2 := by
  obtain ⟨r, h'⟩ := p
  unfold fX10_redeems at hyp
  refine q_bind hyp (fun _ _ hyp => ?_)
  refine q_M.of (by decide) (Nat.le_of_ble_eq_true rfl) ?_
  refine q_to (ls' := [(0, .ref v0)]) (st' := []) rfl rfl ?_
  refine q_aload_n 0 rfl dX10_redeems_0 ?_
  refine q_iconst (x := 0) rfl dX10_redeems_1 ?_
  refine q_bind hyp (fun h1 e2 hyp => ?_)
  refine q_putF kF_X10_136 (fun _ => ⟨rfl, rfl⟩) dX10_redeems_2 e2 ?_
  refine q_aload_n 0 rfl dX10_redeems_5 ?_
  refine q_bind hyp (fun p3 e6 hyp => ?_)
  refine q_callV (as := []) (st := []) kY_X10_meantNow kL_X10_349 (okX10_meantNow (l := l) e6) (by decide) rfl (obX10_meantNow e6) (Nat.le_of_ble_eq_true rfl) dX10_redeems_6 ?_
  refine q_to (ls' := [(0, .ref v0)]) (st' := [.int p3.1]) rfl rfl ?_
  refine q_istore_n (ls' := [(1, .int p3.1), (0, .ref v0)]) (by decide) rfl dX10_redeems_9 ?_
  refine q_aload_n 1 rfl dX10_redeems_10 ?_
  refine q_iload_n 0 rfl dX10_redeems_11 ?_
  refine q_bind hyp (fun p4 e5 hyp => ?_)
  refine q_callV (as := [.int p3.1]) (st := []) kY_X10_rightBy kL_X10_352 (okX10_rightBy (l := l) e5) (by decide) rfl (obX10_rightBy e5) (Nat.le_of_ble_eq_true rfl) dX10_redeems_12 ?_
  refine q_to (ls' := [(1, .int p3.1), (0, .ref v0)]) (st' := [.int p4.1]) rfl rfl ?_
  refine q_istore_n (ls' := [(2, .int p4.1), (1, .int p3.1), (0, .ref v0)]) (by decide) rfl dX10_redeems_15 ?_
  refine q_iconst (x := (-1)) rfl dX10_redeems_16 ?_
  refine q_istore_n (ls' := [(3, .int ((-1))), (2, .int p4.1), (1, .int p3.1), (0, .ref v0)]) (by decide) rfl dX10_redeems_17 ?_
  refine q_iconst (x := 0) rfl dX10_redeems_18 ?_
  refine q_istore (ls' := [(4, .int 0), (3, .int ((-1))), (2, .int p4.1), (1, .int p3.1), (0, .ref v0)]) (by decide) rfl dX10_redeems_19 ?_
  refine q_iconst (x := 0) rfl dX10_redeems_21 ?_
  refine q_istore (ls' := [(5, .int 0), (4, .int 0), (3, .int ((-1))), (2, .int p4.1), (1, .int p3.1), (0, .ref v0)]) (by decide) rfl dX10_redeems_22 ?_
  exact q_sub [5, 4, 3, 2, 1, 0] rfl (okX10_redeems_b24 _ v0 p3.1 p4.1 ((-1)) 0 0 p4.2 hyp)
theorem dX10_rests_0 : decode cX10_rests 0 = .ok (.aload_n 0, 1) := by decide +kernel
theorem dX10_rests_1 : decode cX10_rests 1 = .ok (.iload_n 1, 1) := by decide +kernel
theorem dX10_rests_2 : decode cX10_rests 2 = .ok (.iconst 0, 1) := by decide +kernel
theorem dX10_rests_3 : decode cX10_rests 3 = .ok (.bipush 9, 2) := by decide +kernel
theorem dX10_rests_5 : decode cX10_rests 5 = .ok (.invokestatic 252, 3) := by decide +kernel
theorem dX10_rests_8 : decode cX10_rests 8 = .ok (.ifCond .eq 33, 3) := by decide +kernel
theorem dX10_rests_11 : decode cX10_rests 11 = .ok (.iload_n 2, 1) := by decide +kernel
theorem dX10_rests_12 : decode cX10_rests 12 = .ok (.iconst 0, 1) := by decide +kernel
theorem dX10_rests_13 : decode cX10_rests 13 = .ok (.bipush 9, 2) := by decide +kernel
theorem dX10_rests_15 : decode cX10_rests 15 = .ok (.invokestatic 252, 3) := by decide +kernel
theorem dX10_rests_18 : decode cX10_rests 18 = .ok (.ifCond .eq 23, 3) := by decide +kernel
theorem dX10_rests_21 : decode cX10_rests 21 = .ok (.iload_n 3, 1) := by decide +kernel
theorem dX10_rests_22 : decode cX10_rests 22 = .ok (.iconst 0, 1) := by decide +kernel
theorem dX10_rests_23 : decode cX10_rests 23 = .ok (.bipush 9, 2) := by decide +kernel
theorem dX10_rests_25 : decode cX10_rests 25 = .ok (.invokestatic 252, 3) := by decide +kernel
theorem dX10_rests_28 : decode cX10_rests 28 = .ok (.ifCond .eq 13, 3) := by decide +kernel
theorem dX10_rests_31 : decode cX10_rests 31 = .ok (.iload 4, 2) := by decide +kernel
theorem dX10_rests_33 : decode cX10_rests 33 = .ok (.iconst (-1), 1) := by decide +kernel
theorem dX10_rests_34 : decode cX10_rests 34 = .ok (.if_icmp .lt 7, 3) := by decide +kernel
theorem dX10_rests_37 : decode cX10_rests 37 = .ok (.iconst 0, 1) := by decide +kernel
theorem dX10_rests_38 : decode cX10_rests 38 = .ok (.goto 4, 3) := by decide +kernel
theorem dX10_rests_41 : decode cX10_rests 41 = .ok (.iconst 1, 1) := by decide +kernel
theorem dX10_rests_42 : decode cX10_rests 42 = .ok (.putfield 136, 3) := by decide +kernel
theorem dX10_rests_45 : decode cX10_rests 45 = .ok (.aload_n 0, 1) := by decide +kernel
theorem dX10_rests_46 : decode cX10_rests 46 = .ok (.getfield 136, 3) := by decide +kernel
theorem dX10_rests_49 : decode cX10_rests 49 = .ok (.iconst 1, 1) := by decide +kernel
theorem dX10_rests_50 : decode cX10_rests 50 = .ok (.if_icmp .ne 5, 3) := by decide +kernel
theorem dX10_rests_53 : decode cX10_rests 53 = .ok (.iconst 0, 1) := by decide +kernel
theorem dX10_rests_54 : decode cX10_rests 54 = .ok (.ireturn, 1) := by decide +kernel
theorem dX10_rests_55 : decode cX10_rests 55 = .ok (.iconst 0, 1) := by decide +kernel
theorem dX10_rests_56 : decode cX10_rests 56 = .ok (.istore 5, 2) := by decide +kernel
theorem dX10_rests_58 : decode cX10_rests 58 = .ok (.iconst 0, 1) := by decide +kernel
theorem dX10_rests_59 : decode cX10_rests 59 = .ok (.istore 6, 2) := by decide +kernel
theorem dX10_rests_61 : decode cX10_rests 61 = .ok (.iload 6, 2) := by decide +kernel
theorem dX10_rests_63 : decode cX10_rests 63 = .ok (.iconst 4, 1) := by decide +kernel
theorem dX10_rests_64 : decode cX10_rests 64 = .ok (.if_icmp .ge 87, 3) := by decide +kernel
theorem dX10_rests_67 : decode cX10_rests 67 = .ok (.iload 6, 2) := by decide +kernel
theorem dX10_rests_69 : decode cX10_rests 69 = .ok (.iconst 2, 1) := by decide +kernel
theorem dX10_rests_70 : decode cX10_rests 70 = .ok (.idiv, 1) := by decide +kernel
theorem dX10_rests_71 : decode cX10_rests 71 = .ok (.istore 7, 2) := by decide +kernel
theorem dX10_rests_73 : decode cX10_rests 73 = .ok (.iload 6, 2) := by decide +kernel
theorem dX10_rests_75 : decode cX10_rests 75 = .ok (.iconst 2, 1) := by decide +kernel
theorem dX10_rests_76 : decode cX10_rests 76 = .ok (.irem, 1) := by decide +kernel
theorem dX10_rests_77 : decode cX10_rests 77 = .ok (.istore 8, 2) := by decide +kernel
theorem dX10_rests_79 : decode cX10_rests 79 = .ok (.iload_n 1, 1) := by decide +kernel
theorem dX10_rests_80 : decode cX10_rests 80 = .ok (.iload_n 2, 1) := by decide +kernel
theorem dX10_rests_81 : decode cX10_rests 81 = .ok (.iload_n 3, 1) := by decide +kernel
theorem dX10_rests_82 : decode cX10_rests 82 = .ok (.iconst 1, 1) := by decide +kernel
theorem dX10_rests_83 : decode cX10_rests 83 = .ok (.iload 7, 2) := by decide +kernel
theorem dX10_rests_85 : decode cX10_rests 85 = .ok (.isub, 1) := by decide +kernel
theorem dX10_rests_86 : decode cX10_rests 86 = .ok (.iload 8, 2) := by decide +kernel
theorem dX10_rests_88 : decode cX10_rests 88 = .ok (.invokestatic 422, 3) := by decide +kernel
theorem dX10_rests_91 : decode cX10_rests 91 = .ok (.iload_n 1, 1) := by decide +kernel
theorem dX10_rests_92 : decode cX10_rests 92 = .ok (.iload_n 2, 1) := by decide +kernel
theorem dX10_rests_93 : decode cX10_rests 93 = .ok (.iload_n 3, 1) := by decide +kernel
theorem dX10_rests_94 : decode cX10_rests 94 = .ok (.iload 7, 2) := by decide +kernel
theorem dX10_rests_96 : decode cX10_rests 96 = .ok (.iload 8, 2) := by decide +kernel
theorem dX10_rests_98 : decode cX10_rests 98 = .ok (.invokestatic 422, 3) := by decide +kernel
theorem dX10_rests_101 : decode cX10_rests 101 = .ok (.if_icmp .gt 44, 3) := by decide +kernel
theorem dX10_rests_104 : decode cX10_rests 104 = .ok (.iload_n 1, 1) := by decide +kernel
theorem dX10_rests_105 : decode cX10_rests 105 = .ok (.iload_n 2, 1) := by decide +kernel
theorem dX10_rests_106 : decode cX10_rests 106 = .ok (.iload_n 3, 1) := by decide +kernel
theorem dX10_rests_107 : decode cX10_rests 107 = .ok (.iconst 1, 1) := by decide +kernel
theorem dX10_rests_108 : decode cX10_rests 108 = .ok (.iload 8, 2) := by decide +kernel
theorem dX10_rests_110 : decode cX10_rests 110 = .ok (.isub, 1) := by decide +kernel
theorem dX10_rests_111 : decode cX10_rests 111 = .ok (.iload 7, 2) := by decide +kernel
theorem dX10_rests_113 : decode cX10_rests 113 = .ok (.invokestatic 422, 3) := by decide +kernel
theorem dX10_rests_116 : decode cX10_rests 116 = .ok (.iload_n 1, 1) := by decide +kernel
theorem dX10_rests_117 : decode cX10_rests 117 = .ok (.iload_n 2, 1) := by decide +kernel
theorem dX10_rests_118 : decode cX10_rests 118 = .ok (.iload_n 3, 1) := by decide +kernel
theorem dX10_rests_119 : decode cX10_rests 119 = .ok (.iload 8, 2) := by decide +kernel
theorem dX10_rests_121 : decode cX10_rests 121 = .ok (.iload 7, 2) := by decide +kernel
theorem dX10_rests_123 : decode cX10_rests 123 = .ok (.invokestatic 422, 3) := by decide +kernel
theorem dX10_rests_126 : decode cX10_rests 126 = .ok (.if_icmp .le 6, 3) := by decide +kernel
theorem dX10_rests_129 : decode cX10_rests 129 = .ok (.goto 16, 3) := by decide +kernel
theorem dX10_rests_132 : decode cX10_rests 132 = .ok (.iload 5, 2) := by decide +kernel
theorem dX10_rests_134 : decode cX10_rests 134 = .ok (.iload 4, 2) := by decide +kernel
theorem dX10_rests_136 : decode cX10_rests 136 = .ok (.if_icmp .ne 6, 3) := by decide +kernel
theorem dX10_rests_139 : decode cX10_rests 139 = .ok (.iload 6, 2) := by decide +kernel
theorem dX10_rests_141 : decode cX10_rests 141 = .ok (.ireturn, 1) := by decide +kernel
theorem dX10_rests_142 : decode cX10_rests 142 = .ok (.iinc 5 1, 3) := by decide +kernel
theorem dX10_rests_145 : decode cX10_rests 145 = .ok (.iinc 6 1, 3) := by decide +kernel
theorem dX10_rests_148 : decode cX10_rests 148 = .ok (.goto (-87), 3) := by decide +kernel
theorem dX10_rests_151 : decode cX10_rests 151 = .ok (.aload_n 0, 1) := by decide +kernel
theorem dX10_rests_152 : decode cX10_rests 152 = .ok (.iload 4, 2) := by decide +kernel
theorem dX10_rests_154 : decode cX10_rests 154 = .ok (.iconst (-1), 1) := by decide +kernel
theorem dX10_rests_155 : decode cX10_rests 155 = .ok (.if_icmp .ne 7, 3) := by decide +kernel
theorem dX10_rests_158 : decode cX10_rests 158 = .ok (.iconst 0, 1) := by decide +kernel
theorem dX10_rests_159 : decode cX10_rests 159 = .ok (.goto 4, 3) := by decide +kernel
theorem dX10_rests_162 : decode cX10_rests 162 = .ok (.iconst 1, 1) := by decide +kernel
theorem dX10_rests_163 : decode cX10_rests 163 = .ok (.putfield 136, 3) := by decide +kernel
theorem dX10_rests_166 : decode cX10_rests 166 = .ok (.iload 4, 2) := by decide +kernel
theorem dX10_rests_168 : decode cX10_rests 168 = .ok (.iconst (-1), 1) := by decide +kernel
theorem dX10_rests_169 : decode cX10_rests 169 = .ok (.if_icmp .ne 8, 3) := by decide +kernel
theorem dX10_rests_172 : decode cX10_rests 172 = .ok (.iload 5, 2) := by decide +kernel
theorem dX10_rests_174 : decode cX10_rests 174 = .ok (.goto 4, 3) := by decide +kernel
theorem dX10_rests_177 : decode cX10_rests 177 = .ok (.iconst 0, 1) := by decide +kernel
theorem dX10_rests_178 : decode cX10_rests 178 = .ok (.ireturn, 1) := by decide +kernel
def fX10_rests_b163 (n : Nat) (v4 : Int32) (v5 : Int32) (s0 : Int32) (s1 : Nat) (h : qH) : Option (Int32 × qH) :=
  (pF h s1 10 0 (.int s0)).bind fun h1 =>
  if v4 = ((-1)) then
  (some (v5, h1))
  else
  (some (0, h1))
set_option maxHeartbeats 4000000 in
set_option maxRecDepth 100000 in
theorem okX10_rests_b163 {l : Launch} {n : Nat} {v4 : Int32} {v5 : Int32} {s0 : Int32} {s1 : Nat} {h : qH} {r : Int32} {h' : qH} (hyp : fX10_rests_b163 n v4 v5 s0 s1 h = some (r, h')) : q_W l 2 yX10_rests cX10_rests 9 (some .int) (some (.int r)) h' 163 [(4, .int v4), (5, .int v5)] [.int s0, .ref s1] h := by
  unfold fX10_rests_b163 at hyp
  refine q_bind hyp (fun h1 e2 hyp => ?_)
  refine q_putF kF_X10_136 (fun _ => ⟨rfl, rfl⟩) dX10_rests_163 e2 ?_
  refine q_iload 0 rfl dX10_rests_166 ?_
  refine q_iconst (x := (-1)) rfl dX10_rests_168 ?_
  refine q_icmp_ne (tgt := 177) dX10_rests_169 (by decide) (fun c3 => ?_) (fun c3 => ?_)
  · have hyp := q_neg c3 hyp
    refine q_iconst (x := 0) rfl dX10_rests_177 ?_
    exact q_iretH rfl rfl dX10_rests_178 hyp
  · have hyp := q_pos c3 hyp
    refine q_iload 1 rfl dX10_rests_172 ?_
    refine q_goto (tgt := 178) dX10_rests_174 (by decide) ?_
    exact q_iretH rfl rfl dX10_rests_178 hyp
def fX10_rests_b61 (n : Nat) : Nat → Nat → Int32 → Int32 → Int32 → Int32 → Int32 → Int32 → qH → Option (Int32 × qH)
  | 0, _, _, _, _, _, _, _, _ => none
  | w + 1, v0, v1, v2, v3, v4, v5, v6, h =>
    if 4 ≤ v6 then
    (if v4 = ((-1)) then
    (fX10_rests_b163 n v4 v5 0 v0 h)
    else
    (fX10_rests_b163 n v4 v5 1 v0 h))
    else
    ((fX10_getsBy v1 v2 v3 (1 - (v6 / 2)) (v6 - v6 / 2 * 2) h).bind fun p3 =>
    (fX10_getsBy v1 v2 v3 (v6 / 2) (v6 - v6 / 2 * 2) p3.2).bind fun p4 =>
    if p4.1 < p3.1 then
    (fX10_rests_b61 n w v0 v1 v2 v3 v4 v5 (v6 + 1) p4.2)
    else
    ((fX10_getsBy v1 v2 v3 (1 - (v6 - v6 / 2 * 2)) (v6 / 2) p4.2).bind fun p6 =>
    (fX10_getsBy v1 v2 v3 (v6 - v6 / 2 * 2) (v6 / 2) p6.2).bind fun p7 =>
    if p6.1 ≤ p7.1 then
    (if v5 = v4 then
    (some (v6, p7.2))
    else
    (fX10_rests_b61 n w v0 v1 v2 v3 v4 (v5 + 1) (v6 + 1) p7.2))
    else
    (fX10_rests_b61 n w v0 v1 v2 v3 v4 v5 (v6 + 1) p7.2)))
set_option maxHeartbeats 4000000 in
set_option maxRecDepth 100000 in
theorem okX10_rests_b61 {l : Launch} {n : Nat} {r : Int32} {h' : qH} : ∀ (w : Nat) (v0 : Nat) (v1 : Int32) (v2 : Int32) (v3 : Int32) (v4 : Int32) (v5 : Int32) (v6 : Int32) (h : qH), fX10_rests_b61 n w v0 v1 v2 v3 v4 v5 v6 h = some (r, h') → q_W l 2 yX10_rests cX10_rests 9 (some .int) (some (.int r)) h' 61 [(0, .ref v0), (1, .int v1), (2, .int v2), (3, .int v3), (4, .int v4), (5, .int v5), (6, .int v6)] [] h := by
  intro w
  induction w with
  | zero => intro v0 v1 v2 v3 v4 v5 v6 h hyp; cases hyp
  | succ w ih =>
    intro v0 v1 v2 v3 v4 v5 v6 h hyp
    unfold fX10_rests_b61 at hyp
    refine q_iload 6 rfl dX10_rests_61 ?_
    refine q_iconst (x := 4) rfl dX10_rests_63 ?_
    refine q_icmp_ge (tgt := 151) dX10_rests_64 (by decide) (fun c1 => ?_) (fun c1 => ?_)
    · have hyp := q_pos c1 hyp
      refine q_aload_n 0 rfl dX10_rests_151 ?_
      refine q_iload 4 rfl dX10_rests_152 ?_
      refine q_iconst (x := (-1)) rfl dX10_rests_154 ?_
      refine q_icmp_ne (tgt := 162) dX10_rests_155 (by decide) (fun c2 => ?_) (fun c2 => ?_)
      · have hyp := q_neg c2 hyp
        refine q_iconst (x := 1) rfl dX10_rests_162 ?_
        exact q_sub [4, 5] rfl (okX10_rests_b163 hyp)
      · have hyp := q_pos c2 hyp
        refine q_iconst (x := 0) rfl dX10_rests_158 ?_
        refine q_goto (tgt := 163) dX10_rests_159 (by decide) ?_
        exact q_sub [4, 5] rfl (okX10_rests_b163 hyp)
    · have hyp := q_neg c1 hyp
      refine q_iload 6 rfl dX10_rests_67 ?_
      refine q_iconst (x := 2) rfl dX10_rests_69 ?_
      refine q_idiv dX10_rests_70 (by decide) ?_
      refine q_istore (ls' := [(7, .int (v6 / 2)), (0, .ref v0), (1, .int v1), (2, .int v2), (3, .int v3), (4, .int v4), (5, .int v5), (6, .int v6)]) (by decide) rfl dX10_rests_71 ?_
      refine q_iload 7 rfl dX10_rests_73 ?_
      refine q_iconst (x := 2) rfl dX10_rests_75 ?_
      refine q_irem dX10_rests_76 (by decide) ?_
      refine q_istore (ls' := [(8, .int (v6 - v6 / 2 * 2)), (7, .int (v6 / 2)), (0, .ref v0), (1, .int v1), (2, .int v2), (3, .int v3), (4, .int v4), (5, .int v5), (6, .int v6)]) (by decide) rfl dX10_rests_77 ?_
      refine q_iload_n 3 rfl dX10_rests_79 ?_
      refine q_iload_n 4 rfl dX10_rests_80 ?_
      refine q_iload_n 5 rfl dX10_rests_81 ?_
      refine q_iconst (x := 1) rfl dX10_rests_82 ?_
      refine q_iload 1 rfl dX10_rests_83 ?_
      refine q_isub dX10_rests_85 ?_
      refine q_iload 0 rfl dX10_rests_86 ?_
      refine q_bind hyp (fun p3 e13 hyp => ?_)
      refine q_callS (as := [.int v1, .int v2, .int v3, .int (1 - (v6 / 2)), .int (v6 - v6 / 2 * 2)]) (st := []) kY_X10_getsBy kS_X10_getsBy kL_X10_422 (okX10_getsBy (l := l) e13) (by decide) rfl (Nat.le_of_ble_eq_true rfl) dX10_rests_88 ?_
      refine q_to (ls' := [(8, .int (v6 - v6 / 2 * 2)), (7, .int (v6 / 2)), (0, .ref v0), (1, .int v1), (2, .int v2), (3, .int v3), (4, .int v4), (5, .int v5), (6, .int v6)]) (st' := [.int p3.1]) rfl rfl ?_
      refine q_iload_n 3 rfl dX10_rests_91 ?_
      refine q_iload_n 4 rfl dX10_rests_92 ?_
      refine q_iload_n 5 rfl dX10_rests_93 ?_
      refine q_iload 1 rfl dX10_rests_94 ?_
      refine q_iload 0 rfl dX10_rests_96 ?_
      refine q_bind hyp (fun p4 e12 hyp => ?_)
      refine q_callS (as := [.int v1, .int v2, .int v3, .int (v6 / 2), .int (v6 - v6 / 2 * 2)]) (st := [.int p3.1]) kY_X10_getsBy kS_X10_getsBy kL_X10_422 (okX10_getsBy (l := l) e12) (by decide) rfl (Nat.le_of_ble_eq_true rfl) dX10_rests_98 ?_
      refine q_to (ls' := [(8, .int (v6 - v6 / 2 * 2)), (7, .int (v6 / 2)), (0, .ref v0), (1, .int v1), (2, .int v2), (3, .int v3), (4, .int v4), (5, .int v5), (6, .int v6)]) (st' := [.int p4.1, .int p3.1]) rfl rfl ?_
      refine q_icmp_gt (tgt := 145) dX10_rests_101 (by decide) (fun c5 => ?_) (fun c5 => ?_)
      · have hyp := q_pos c5 hyp
        refine q_iinc (ls' := [(6, .int (v6 + 1)), (8, .int (v6 - v6 / 2 * 2)), (7, .int (v6 / 2)), (0, .ref v0), (1, .int v1), (2, .int v2), (3, .int v3), (4, .int v4), (5, .int v5)]) 8 rfl rfl (by decide) rfl dX10_rests_145 ?_
        refine q_goto (tgt := 61) dX10_rests_148 (by decide) ?_
        exact q_sub [3, 4, 5, 6, 7, 8, 0] rfl (ih v0 v1 v2 v3 v4 v5 (v6 + 1) p4.2 hyp)
      · have hyp := q_neg c5 hyp
        refine q_iload_n 3 rfl dX10_rests_104 ?_
        refine q_iload_n 4 rfl dX10_rests_105 ?_
        refine q_iload_n 5 rfl dX10_rests_106 ?_
        refine q_iconst (x := 1) rfl dX10_rests_107 ?_
        refine q_iload 0 rfl dX10_rests_108 ?_
        refine q_isub dX10_rests_110 ?_
        refine q_iload 1 rfl dX10_rests_111 ?_
        refine q_bind hyp (fun p6 e11 hyp => ?_)
        refine q_callS (as := [.int v1, .int v2, .int v3, .int (1 - (v6 - v6 / 2 * 2)), .int (v6 / 2)]) (st := []) kY_X10_getsBy kS_X10_getsBy kL_X10_422 (okX10_getsBy (l := l) e11) (by decide) rfl (Nat.le_of_ble_eq_true rfl) dX10_rests_113 ?_
        refine q_to (ls' := [(8, .int (v6 - v6 / 2 * 2)), (7, .int (v6 / 2)), (0, .ref v0), (1, .int v1), (2, .int v2), (3, .int v3), (4, .int v4), (5, .int v5), (6, .int v6)]) (st' := [.int p6.1]) rfl rfl ?_
        refine q_iload_n 3 rfl dX10_rests_116 ?_
        refine q_iload_n 4 rfl dX10_rests_117 ?_
        refine q_iload_n 5 rfl dX10_rests_118 ?_
        refine q_iload 0 rfl dX10_rests_119 ?_
        refine q_iload 1 rfl dX10_rests_121 ?_
        refine q_bind hyp (fun p7 e10 hyp => ?_)
        refine q_callS (as := [.int v1, .int v2, .int v3, .int (v6 - v6 / 2 * 2), .int (v6 / 2)]) (st := [.int p6.1]) kY_X10_getsBy kS_X10_getsBy kL_X10_422 (okX10_getsBy (l := l) e10) (by decide) rfl (Nat.le_of_ble_eq_true rfl) dX10_rests_123 ?_
        refine q_to (ls' := [(8, .int (v6 - v6 / 2 * 2)), (7, .int (v6 / 2)), (0, .ref v0), (1, .int v1), (2, .int v2), (3, .int v3), (4, .int v4), (5, .int v5), (6, .int v6)]) (st' := [.int p7.1, .int p6.1]) rfl rfl ?_
        refine q_icmp_le (tgt := 132) dX10_rests_126 (by decide) (fun c8 => ?_) (fun c8 => ?_)
        · have hyp := q_pos c8 hyp
          refine q_iload 7 rfl dX10_rests_132 ?_
          refine q_iload 6 rfl dX10_rests_134 ?_
          refine q_icmp_ne (tgt := 142) dX10_rests_136 (by decide) (fun c9 => ?_) (fun c9 => ?_)
          · have hyp := q_neg c9 hyp
            refine q_iinc (ls' := [(5, .int (v5 + 1)), (8, .int (v6 - v6 / 2 * 2)), (7, .int (v6 / 2)), (0, .ref v0), (1, .int v1), (2, .int v2), (3, .int v3), (4, .int v4), (6, .int v6)]) 7 rfl rfl (by decide) rfl dX10_rests_142 ?_
            refine q_iinc (ls' := [(6, .int (v6 + 1)), (5, .int (v5 + 1)), (8, .int (v6 - v6 / 2 * 2)), (7, .int (v6 / 2)), (0, .ref v0), (1, .int v1), (2, .int v2), (3, .int v3), (4, .int v4)]) 8 rfl rfl (by decide) rfl dX10_rests_145 ?_
            refine q_goto (tgt := 61) dX10_rests_148 (by decide) ?_
            exact q_sub [4, 5, 6, 7, 8, 1, 0] rfl (ih v0 v1 v2 v3 v4 (v5 + 1) (v6 + 1) p7.2 hyp)
          · have hyp := q_pos c9 hyp
            refine q_iload 8 rfl dX10_rests_139 ?_
            exact q_iretH rfl rfl dX10_rests_141 hyp
        · have hyp := q_neg c8 hyp
          refine q_goto (tgt := 145) dX10_rests_129 (by decide) ?_
          refine q_iinc (ls' := [(6, .int (v6 + 1)), (8, .int (v6 - v6 / 2 * 2)), (7, .int (v6 / 2)), (0, .ref v0), (1, .int v1), (2, .int v2), (3, .int v3), (4, .int v4), (5, .int v5)]) 8 rfl rfl (by decide) rfl dX10_rests_145 ?_
          refine q_goto (tgt := 61) dX10_rests_148 (by decide) ?_
          exact q_sub [3, 4, 5, 6, 7, 8, 0] rfl (ih v0 v1 v2 v3 v4 v5 (v6 + 1) p7.2 hyp)
def fX10_rests_b42 (n : Nat) (v0 : Nat) (v1 : Int32) (v2 : Int32) (v3 : Int32) (v4 : Int32) (s0 : Int32) (s1 : Nat) (h : qH) : Option (Int32 × qH) :=
  (pF h s1 10 0 (.int s0)).bind fun h1 =>
  (gI h1 v0 10 0).bind fun x3 =>
  if x3 = 1 then
  (some (0, h1))
  else
  (fX10_rests_b61 n n v0 v1 v2 v3 v4 0 0 h1)
set_option maxHeartbeats 4000000 in
set_option maxRecDepth 100000 in
theorem okX10_rests_b42 {l : Launch} {n : Nat} {v0 : Nat} {v1 : Int32} {v2 : Int32} {v3 : Int32} {v4 : Int32} {s0 : Int32} {s1 : Nat} {h : qH} {r : Int32} {h' : qH} (hyp : fX10_rests_b42 n v0 v1 v2 v3 v4 s0 s1 h = some (r, h')) : q_W l 2 yX10_rests cX10_rests 9 (some .int) (some (.int r)) h' 42 [(0, .ref v0), (1, .int v1), (2, .int v2), (3, .int v3), (4, .int v4)] [.int s0, .ref s1] h := by
  unfold fX10_rests_b42 at hyp
  refine q_bind hyp (fun h1 e2 hyp => ?_)
  refine q_putF kF_X10_136 (fun _ => ⟨rfl, rfl⟩) dX10_rests_42 e2 ?_
  refine q_aload_n 0 rfl dX10_rests_45 ?_
  refine q_bind hyp (fun x3 e4 hyp => ?_)
  refine q_getI kF_X10_136 dX10_rests_46 e4 ?_
  refine q_iconst (x := 1) rfl dX10_rests_49 ?_
  refine q_icmp_ne (tgt := 55) dX10_rests_50 (by decide) (fun c5 => ?_) (fun c5 => ?_)
  · have hyp := q_neg c5 hyp
    refine q_iconst (x := 0) rfl dX10_rests_55 ?_
    refine q_istore (ls' := [(5, .int 0), (0, .ref v0), (1, .int v1), (2, .int v2), (3, .int v3), (4, .int v4)]) (by decide) rfl dX10_rests_56 ?_
    refine q_iconst (x := 0) rfl dX10_rests_58 ?_
    refine q_istore (ls' := [(6, .int 0), (5, .int 0), (0, .ref v0), (1, .int v1), (2, .int v2), (3, .int v3), (4, .int v4)]) (by decide) rfl dX10_rests_59 ?_
    exact q_sub [2, 3, 4, 5, 6, 1, 0] rfl (okX10_rests_b61 _ v0 v1 v2 v3 v4 0 0 h1 hyp)
  · have hyp := q_pos c5 hyp
    refine q_iconst (x := 0) rfl dX10_rests_53 ?_
    exact q_iretH rfl rfl dX10_rests_54 hyp
def fX10_rests_b41 (n : Nat) (v0 : Nat) (v1 : Int32) (v2 : Int32) (v3 : Int32) (v4 : Int32) (s0 : Nat) (h : qH) : Option (Int32 × qH) :=
  fX10_rests_b42 n v0 v1 v2 v3 v4 1 s0 h
set_option maxHeartbeats 4000000 in
set_option maxRecDepth 100000 in
theorem okX10_rests_b41 {l : Launch} {n : Nat} {v0 : Nat} {v1 : Int32} {v2 : Int32} {v3 : Int32} {v4 : Int32} {s0 : Nat} {h : qH} {r : Int32} {h' : qH} (hyp : fX10_rests_b41 n v0 v1 v2 v3 v4 s0 h = some (r, h')) : q_W l 2 yX10_rests cX10_rests 9 (some .int) (some (.int r)) h' 41 [(0, .ref v0), (1, .int v1), (2, .int v2), (3, .int v3), (4, .int v4)] [.ref s0] h := by
  unfold fX10_rests_b41 at hyp
  refine q_iconst (x := 1) rfl dX10_rests_41 ?_
  exact q_sub [0, 1, 2, 3, 4] rfl (okX10_rests_b42 hyp)
def fX10_rests (n : Nat) (v0 : Nat) (v1 : Int32) (v2 : Int32) (v3 : Int32) (v4 : Int32) (h : qH) : Option (Int32 × qH) :=
  (isO h v0 10).bind fun _ =>
  (fX10_within v1 0 9 h).bind fun p1 =>
  if p1.1 = 0 then
  (fX10_rests_b41 n v0 v1 v2 v3 v4 v0 p1.2)
  else
  ((fX10_within v2 0 9 p1.2).bind fun p3 =>
  if p3.1 = 0 then
  (fX10_rests_b41 n v0 v1 v2 v3 v4 v0 p3.2)
  else
  ((fX10_within v3 0 9 p3.2).bind fun p5 =>
  if p5.1 = 0 then
  (fX10_rests_b41 n v0 v1 v2 v3 v4 v0 p5.2)
  else
  (if v4 < ((-1)) then
  (fX10_rests_b41 n v0 v1 v2 v3 v4 v0 p5.2)
  else
  (fX10_rests_b42 n v0 v1 v2 v3 v4 0 v0 p5.2))))
theorem obX10_rests {n : Nat} {v0 : Nat} {v1 : Int32} {v2 : Int32} {v3 : Int32} {v4 : Int32} {h : qH} {p : Int32 × qH} (hyp : fX10_rests n v0 v1 v2 v3 v4 h = some p) : ∃ fs, h.1 v0 = some (.inr (10, fs)) := by
  unfold fX10_rests at hyp
  exact q_bind hyp (fun _ e _ => isO_some e)
set_option maxHeartbeats 4000000 in
set_option maxRecDepth 100000 in
theorem okX10_rests {l : Launch} {n : Nat} {v0 : Nat} {v1 : Int32} {v2 : Int32} {v3 : Int32} {v4 : Int32} {h : qH} {p : Int32 × qH} (hyp : fX10_rests n v0 v1 v2 v3 v4 h = some p) : q_M l 2 yX10_rests cX10_rests 9 (some .int) [.ref v0, .int v1, .int v2, .int v3, .int v4] h (some (.int p.1)) p.2 := by
  obtain ⟨r, h'⟩ := p
  unfold fX10_rests at hyp
  refine q_bind hyp (fun _ _ hyp => ?_)
  refine q_M.of (by decide) (Nat.le_of_ble_eq_true rfl) ?_
  refine q_to (ls' := [(0, .ref v0), (1, .int v1), (2, .int v2), (3, .int v3), (4, .int v4)]) (st' := []) rfl rfl ?_
  refine q_aload_n 0 rfl dX10_rests_0 ?_
  refine q_iload_n 1 rfl dX10_rests_1 ?_
  refine q_iconst (x := 0) rfl dX10_rests_2 ?_
  refine q_bipush (x := 9) (by decide) dX10_rests_3 ?_
  refine q_bind hyp (fun p1 e10 hyp => ?_)
  refine q_callS (as := [.int v1, .int 0, .int 9]) (st := [.ref v0]) kY_X10_within kS_X10_within kL_X10_252 (okX10_within (l := l) e10) (by decide) rfl (Nat.le_of_ble_eq_true rfl) dX10_rests_5 ?_
  refine q_to (ls' := [(0, .ref v0), (1, .int v1), (2, .int v2), (3, .int v3), (4, .int v4)]) (st' := [.int p1.1, .ref v0]) rfl rfl ?_
  refine q_if_eq (tgt := 41) dX10_rests_8 (by decide) (fun c2 => ?_) (fun c2 => ?_)
  · have hyp := q_pos c2 hyp
    exact q_sub [0, 1, 2, 3, 4] rfl (okX10_rests_b41 hyp)
  · have hyp := q_neg c2 hyp
    refine q_iload_n 2 rfl dX10_rests_11 ?_
    refine q_iconst (x := 0) rfl dX10_rests_12 ?_
    refine q_bipush (x := 9) (by decide) dX10_rests_13 ?_
    refine q_bind hyp (fun p3 e9 hyp => ?_)
    refine q_callS (as := [.int v2, .int 0, .int 9]) (st := [.ref v0]) kY_X10_within kS_X10_within kL_X10_252 (okX10_within (l := l) e9) (by decide) rfl (Nat.le_of_ble_eq_true rfl) dX10_rests_15 ?_
    refine q_to (ls' := [(0, .ref v0), (1, .int v1), (2, .int v2), (3, .int v3), (4, .int v4)]) (st' := [.int p3.1, .ref v0]) rfl rfl ?_
    refine q_if_eq (tgt := 41) dX10_rests_18 (by decide) (fun c4 => ?_) (fun c4 => ?_)
    · have hyp := q_pos c4 hyp
      exact q_sub [0, 1, 2, 3, 4] rfl (okX10_rests_b41 hyp)
    · have hyp := q_neg c4 hyp
      refine q_iload_n 3 rfl dX10_rests_21 ?_
      refine q_iconst (x := 0) rfl dX10_rests_22 ?_
      refine q_bipush (x := 9) (by decide) dX10_rests_23 ?_
      refine q_bind hyp (fun p5 e8 hyp => ?_)
      refine q_callS (as := [.int v3, .int 0, .int 9]) (st := [.ref v0]) kY_X10_within kS_X10_within kL_X10_252 (okX10_within (l := l) e8) (by decide) rfl (Nat.le_of_ble_eq_true rfl) dX10_rests_25 ?_
      refine q_to (ls' := [(0, .ref v0), (1, .int v1), (2, .int v2), (3, .int v3), (4, .int v4)]) (st' := [.int p5.1, .ref v0]) rfl rfl ?_
      refine q_if_eq (tgt := 41) dX10_rests_28 (by decide) (fun c6 => ?_) (fun c6 => ?_)
      · have hyp := q_pos c6 hyp
        exact q_sub [0, 1, 2, 3, 4] rfl (okX10_rests_b41 hyp)
      · have hyp := q_neg c6 hyp
        refine q_iload 4 rfl dX10_rests_31 ?_
        refine q_iconst (x := (-1)) rfl dX10_rests_33 ?_
        refine q_icmp_lt (tgt := 41) dX10_rests_34 (by decide) (fun c7 => ?_) (fun c7 => ?_)
        · have hyp := q_pos c7 hyp
          exact q_sub [0, 1, 2, 3, 4] rfl (okX10_rests_b41 hyp)
        · have hyp := q_neg c7 hyp
          refine q_iconst (x := 0) rfl dX10_rests_37 ?_
          refine q_goto (tgt := 42) dX10_rests_38 (by decide) ?_
          exact q_sub [0, 1, 2, 3, 4] rfl (okX10_rests_b42 hyp)
theorem dX10_right_0 : decode cX10_right 0 = .ok (.aload_n 0, 1) := by decide +kernel
theorem dX10_right_1 : decode cX10_right 1 = .ok (.iconst 0, 1) := by decide +kernel
theorem dX10_right_2 : decode cX10_right 2 = .ok (.putfield 136, 3) := by decide +kernel
theorem dX10_right_5 : decode cX10_right 5 = .ok (.aload_n 0, 1) := by decide +kernel
theorem dX10_right_6 : decode cX10_right 6 = .ok (.aload_n 0, 1) := by decide +kernel
theorem dX10_right_7 : decode cX10_right 7 = .ok (.invokevirtual 349, 3) := by decide +kernel
theorem dX10_right_10 : decode cX10_right 10 = .ok (.invokevirtual 352, 3) := by decide +kernel
theorem dX10_right_13 : decode cX10_right 13 = .ok (.ireturn, 1) := by decide +kernel
def fX10_right (n : Nat) (v0 : Nat) (h : qH) : Option (Int32 × qH) :=
  (isO h v0 10).bind fun _ =>
  (pF h v0 10 0 (.int 0)).bind fun h1 =>
  (fX10_meantNow n v0 h1).bind fun p3 =>
  (fX10_rightBy n v0 p3.1 p3.2).bind fun p4 =>
  some (p4.1, p4.2)
theorem obX10_right {n : Nat} {v0 : Nat} {h : qH} {p : Int32 × qH} (hyp : fX10_right n v0 h = some p) : ∃ fs, h.1 v0 = some (.inr (10, fs)) := by
  unfold fX10_right at hyp
  exact q_bind hyp (fun _ e _ => isO_some e)
set_option maxHeartbeats 4000000 in
set_option maxRecDepth 100000 in
theorem okX10_right {l : Launch} {n : Nat} {v0 : Nat} {h : qH} {p : Int32 × qH} (hyp : fX10_right n v0 h = some p) : q_M l 2 yX10_right cX10_right 1 (some .int) [.ref v0] h (some (.int p.1)) p.2 := by
  obtain ⟨r, h'⟩ := p
  unfold fX10_right at hyp
  refine q_bind hyp (fun _ _ hyp => ?_)
  refine q_M.of (by decide) (Nat.le_of_ble_eq_true rfl) ?_
  refine q_to (ls' := [(0, .ref v0)]) (st' := []) rfl rfl ?_
  refine q_aload_n 0 rfl dX10_right_0 ?_
  refine q_iconst (x := 0) rfl dX10_right_1 ?_
  refine q_bind hyp (fun h1 e2 hyp => ?_)
  refine q_putF kF_X10_136 (fun _ => ⟨rfl, rfl⟩) dX10_right_2 e2 ?_
  refine q_aload_n 0 rfl dX10_right_5 ?_
  refine q_aload_n 0 rfl dX10_right_6 ?_
  refine q_bind hyp (fun p3 e6 hyp => ?_)
  refine q_callV (as := []) (st := [.ref v0]) kY_X10_meantNow kL_X10_349 (okX10_meantNow (l := l) e6) (by decide) rfl (obX10_meantNow e6) (Nat.le_of_ble_eq_true rfl) dX10_right_7 ?_
  refine q_to (ls' := [(0, .ref v0)]) (st' := [.int p3.1, .ref v0]) rfl rfl ?_
  refine q_bind hyp (fun p4 e5 hyp => ?_)
  refine q_callV (as := [.int p3.1]) (st := []) kY_X10_rightBy kL_X10_352 (okX10_rightBy (l := l) e5) (by decide) rfl (obX10_rightBy e5) (Nat.le_of_ble_eq_true rfl) dX10_right_10 ?_
  refine q_to (ls' := [(0, .ref v0)]) (st' := [.int p4.1]) rfl rfl ?_
  exact q_iretH rfl rfl dX10_right_13 hyp
theorem dX10_roots_0 : decode cX10_roots 0 = .ok (.aload_n 0, 1) := by decide +kernel
theorem dX10_roots_1 : decode cX10_roots 1 = .ok (.iconst 0, 1) := by decide +kernel
theorem dX10_roots_2 : decode cX10_roots 2 = .ok (.putfield 136, 3) := by decide +kernel
theorem dX10_roots_5 : decode cX10_roots 5 = .ok (.aload_n 0, 1) := by decide +kernel
theorem dX10_roots_6 : decode cX10_roots 6 = .ok (.invokevirtual 377, 3) := by decide +kernel
theorem dX10_roots_9 : decode cX10_roots 9 = .ok (.istore_n 1, 1) := by decide +kernel
theorem dX10_roots_10 : decode cX10_roots 10 = .ok (.iconst 0, 1) := by decide +kernel
theorem dX10_roots_11 : decode cX10_roots 11 = .ok (.istore_n 2, 1) := by decide +kernel
theorem dX10_roots_12 : decode cX10_roots 12 = .ok (.iload_n 2, 1) := by decide +kernel
theorem dX10_roots_13 : decode cX10_roots 13 = .ok (.aload_n 0, 1) := by decide +kernel
theorem dX10_roots_14 : decode cX10_roots 14 = .ok (.getfield 13, 3) := by decide +kernel
theorem dX10_roots_17 : decode cX10_roots 17 = .ok (.iconst 0, 1) := by decide +kernel
theorem dX10_roots_18 : decode cX10_roots 18 = .ok (.iaload, 1) := by decide +kernel
theorem dX10_roots_19 : decode cX10_roots 19 = .ok (.if_icmp .ge 20, 3) := by decide +kernel
theorem dX10_roots_22 : decode cX10_roots 22 = .ok (.iload_n 1, 1) := by decide +kernel
theorem dX10_roots_23 : decode cX10_roots 23 = .ok (.aload_n 0, 1) := by decide +kernel
theorem dX10_roots_24 : decode cX10_roots 24 = .ok (.getfield 29, 3) := by decide +kernel
theorem dX10_roots_27 : decode cX10_roots 27 = .ok (.iload_n 2, 1) := by decide +kernel
theorem dX10_roots_28 : decode cX10_roots 28 = .ok (.iaload, 1) := by decide +kernel
theorem dX10_roots_29 : decode cX10_roots 29 = .ok (.iconst (-1), 1) := by decide +kernel
theorem dX10_roots_30 : decode cX10_roots 30 = .ok (.ixor, 1) := by decide +kernel
theorem dX10_roots_31 : decode cX10_roots 31 = .ok (.iand, 1) := by decide +kernel
theorem dX10_roots_32 : decode cX10_roots 32 = .ok (.istore_n 1, 1) := by decide +kernel
theorem dX10_roots_33 : decode cX10_roots 33 = .ok (.iinc 2 1, 3) := by decide +kernel
theorem dX10_roots_36 : decode cX10_roots 36 = .ok (.goto (-24), 3) := by decide +kernel
theorem dX10_roots_39 : decode cX10_roots 39 = .ok (.iload_n 1, 1) := by decide +kernel
theorem dX10_roots_40 : decode cX10_roots 40 = .ok (.ireturn, 1) := by decide +kernel
def fX10_roots_b12 (n : Nat) : Nat → Nat → Int32 → Int32 → qH → Option (Int32 × qH)
  | 0, _, _, _, _ => none
  | w + 1, v0, v1, v2, h =>
    (gR h v0 10 10).bind fun x1 =>
    (aI .int h x1 0).bind fun x3 =>
    if x3 ≤ v2 then
    (some (v1, h))
    else
    ((gR h v0 10 15).bind fun x6 =>
    (aI .int h x6 v2).bind fun x8 =>
    fX10_roots_b12 n w v0 (v1 &&& (x8 ^^^ ((-1)))) (v2 + 1) h)
set_option maxHeartbeats 4000000 in
set_option maxRecDepth 100000 in
theorem okX10_roots_b12 {l : Launch} {n : Nat} {r : Int32} {h' : qH} : ∀ (w : Nat) (v0 : Nat) (v1 : Int32) (v2 : Int32) (h : qH), fX10_roots_b12 n w v0 v1 v2 h = some (r, h') → q_W l 2 yX10_roots cX10_roots 3 (some .int) (some (.int r)) h' 12 [(0, .ref v0), (1, .int v1), (2, .int v2)] [] h := by
  intro w
  induction w with
  | zero => intro v0 v1 v2 h hyp; cases hyp
  | succ w ih =>
    intro v0 v1 v2 h hyp
    unfold fX10_roots_b12 at hyp
    refine q_iload_n 2 rfl dX10_roots_12 ?_
    refine q_aload_n 0 rfl dX10_roots_13 ?_
    refine q_bind hyp (fun x1 e2 hyp => ?_)
    refine q_getR kF_X10_13 dX10_roots_14 e2 ?_
    refine q_iconst (x := 0) rfl dX10_roots_17 ?_
    refine q_bind hyp (fun x3 e4 hyp => ?_)
    refine q_iald dX10_roots_18 e4 ?_
    refine q_icmp_ge (tgt := 39) dX10_roots_19 (by decide) (fun c5 => ?_) (fun c5 => ?_)
    · have hyp := q_pos c5 hyp
      refine q_iload_n 1 rfl dX10_roots_39 ?_
      exact q_iretH rfl rfl dX10_roots_40 hyp
    · have hyp := q_neg c5 hyp
      refine q_iload_n 1 rfl dX10_roots_22 ?_
      refine q_aload_n 0 rfl dX10_roots_23 ?_
      refine q_bind hyp (fun x6 e7 hyp => ?_)
      refine q_getR kF_X10_29 dX10_roots_24 e7 ?_
      refine q_iload_n 2 rfl dX10_roots_27 ?_
      refine q_bind hyp (fun x8 e9 hyp => ?_)
      refine q_iald dX10_roots_28 e9 ?_
      refine q_iconst (x := (-1)) rfl dX10_roots_29 ?_
      refine q_ixor dX10_roots_30 ?_
      refine q_iand dX10_roots_31 ?_
      refine q_istore_n (ls' := [(1, .int (v1 &&& (x8 ^^^ ((-1))))), (0, .ref v0), (2, .int v2)]) (by decide) rfl dX10_roots_32 ?_
      refine q_iinc (ls' := [(2, .int (v2 + 1)), (1, .int (v1 &&& (x8 ^^^ ((-1))))), (0, .ref v0)]) 2 rfl rfl (by decide) rfl dX10_roots_33 ?_
      refine q_goto (tgt := 12) dX10_roots_36 (by decide) ?_
      exact q_sub [2, 1, 0] rfl (ih v0 (v1 &&& (x8 ^^^ ((-1)))) (v2 + 1) h hyp)
def fX10_roots (n : Nat) (v0 : Nat) (h : qH) : Option (Int32 × qH) :=
  (isO h v0 10).bind fun _ =>
  (pF h v0 10 0 (.int 0)).bind fun h1 =>
  (fX10_every v0 h1).bind fun p3 =>
  fX10_roots_b12 n n v0 p3.1 0 p3.2
theorem obX10_roots {n : Nat} {v0 : Nat} {h : qH} {p : Int32 × qH} (hyp : fX10_roots n v0 h = some p) : ∃ fs, h.1 v0 = some (.inr (10, fs)) := by
  unfold fX10_roots at hyp
  exact q_bind hyp (fun _ e _ => isO_some e)
set_option maxHeartbeats 4000000 in
set_option maxRecDepth 100000 in
theorem okX10_roots {l : Launch} {n : Nat} {v0 : Nat} {h : qH} {p : Int32 × qH} (hyp : fX10_roots n v0 h = some p) : q_M l 2 yX10_roots cX10_roots 3 (some .int) [.ref v0] h (some (.int p.1)) p.2 := by
  obtain ⟨r, h'⟩ := p
  unfold fX10_roots at hyp
  refine q_bind hyp (fun _ _ hyp => ?_)
  refine q_M.of (by decide) (Nat.le_of_ble_eq_true rfl) ?_
  refine q_to (ls' := [(0, .ref v0)]) (st' := []) rfl rfl ?_
  refine q_aload_n 0 rfl dX10_roots_0 ?_
  refine q_iconst (x := 0) rfl dX10_roots_1 ?_
  refine q_bind hyp (fun h1 e2 hyp => ?_)
  refine q_putF kF_X10_136 (fun _ => ⟨rfl, rfl⟩) dX10_roots_2 e2 ?_
  refine q_aload_n 0 rfl dX10_roots_5 ?_
  refine q_bind hyp (fun p3 e4 hyp => ?_)
  refine q_callV (as := []) (st := []) kY_X10_every kL_X10_377 (okX10_every (l := l) e4) (by decide) rfl (obX10_every e4) (Nat.le_of_ble_eq_true rfl) dX10_roots_6 ?_
  refine q_to (ls' := [(0, .ref v0)]) (st' := [.int p3.1]) rfl rfl ?_
  refine q_istore_n (ls' := [(1, .int p3.1), (0, .ref v0)]) (by decide) rfl dX10_roots_9 ?_
  refine q_iconst (x := 0) rfl dX10_roots_10 ?_
  refine q_istore_n (ls' := [(2, .int 0), (1, .int p3.1), (0, .ref v0)]) (by decide) rfl dX10_roots_11 ?_
  exact q_sub [2, 1, 0] rfl (okX10_roots_b12 _ v0 p3.1 0 p3.2 hyp)
theorem dX10_round_0 : decode cX10_round 0 = .ok (.aload_n 0, 1) := by decide +kernel
theorem dX10_round_1 : decode cX10_round 1 = .ok (.iconst 0, 1) := by decide +kernel
theorem dX10_round_2 : decode cX10_round 2 = .ok (.putfield 136, 3) := by decide +kernel
theorem dX10_round_5 : decode cX10_round 5 = .ok (.aload_n 0, 1) := by decide +kernel
theorem dX10_round_6 : decode cX10_round 6 = .ok (.getfield 78, 3) := by decide +kernel
theorem dX10_round_9 : decode cX10_round 9 = .ok (.iconst 5, 1) := by decide +kernel
theorem dX10_round_10 : decode cX10_round 10 = .ok (.iconst 0, 1) := by decide +kernel
theorem dX10_round_11 : decode cX10_round 11 = .ok (.iastore, 1) := by decide +kernel
theorem dX10_round_12 : decode cX10_round 12 = .ok (.aload_n 0, 1) := by decide +kernel
theorem dX10_round_13 : decode cX10_round 13 = .ok (.invokevirtual 286, 3) := by decide +kernel
theorem dX10_round_16 : decode cX10_round 16 = .ok (.aload_n 0, 1) := by decide +kernel
theorem dX10_round_17 : decode cX10_round 17 = .ok (.getfield 161, 3) := by decide +kernel
theorem dX10_round_20 : decode cX10_round 20 = .ok (.ifCond .eq 15, 3) := by decide +kernel
theorem dX10_round_23 : decode cX10_round 23 = .ok (.aload_n 0, 1) := by decide +kernel
theorem dX10_round_24 : decode cX10_round 24 = .ok (.invokevirtual 317, 3) := by decide +kernel
theorem dX10_round_27 : decode cX10_round 27 = .ok (.ifCond .ne (-11), 3) := by decide +kernel
theorem dX10_round_30 : decode cX10_round 30 = .ok (.aload_n 0, 1) := by decide +kernel
theorem dX10_round_31 : decode cX10_round 31 = .ok (.getfield 172, 3) := by decide +kernel
theorem dX10_round_34 : decode cX10_round 34 = .ok (.ireturn, 1) := by decide +kernel
theorem dX10_round_35 : decode cX10_round 35 = .ok (.aload_n 0, 1) := by decide +kernel
theorem dX10_round_36 : decode cX10_round 36 = .ok (.iconst 5, 1) := by decide +kernel
theorem dX10_round_37 : decode cX10_round 37 = .ok (.iconst 0, 1) := by decide +kernel
theorem dX10_round_38 : decode cX10_round 38 = .ok (.invokevirtual 320, 3) := by decide +kernel
theorem dX10_round_41 : decode cX10_round 41 = .ok (.iconst 0, 1) := by decide +kernel
theorem dX10_round_42 : decode cX10_round 42 = .ok (.ireturn, 1) := by decide +kernel
def fX10_round_b16 (n : Nat) : Nat → Nat → qH → Option (Int32 × qH)
  | 0, _, _ => none
  | w + 1, v0, h =>
    (gI h v0 10 6).bind fun x1 =>
    if x1 = 0 then
    ((fX10_laysLines n v0 5 0 h).bind fun h4 =>
    some (0, h4))
    else
    ((fX10_readsLine n v0 h).bind fun p6 =>
    if p6.1 = 0 then
    ((gI p6.2 v0 10 9).bind fun x8 =>
    some (x8, p6.2))
    else
    (fX10_round_b16 n w v0 p6.2))
set_option maxHeartbeats 4000000 in
set_option maxRecDepth 100000 in
theorem okX10_round_b16 {l : Launch} {n : Nat} {r : Int32} {h' : qH} : ∀ (w : Nat) (v0 : Nat) (h : qH), fX10_round_b16 n w v0 h = some (r, h') → q_W l 5 yX10_round cX10_round 1 (some .int) (some (.int r)) h' 16 [(0, .ref v0)] [] h := by
  intro w
  induction w with
  | zero => intro v0 h hyp; cases hyp
  | succ w ih =>
    intro v0 h hyp
    unfold fX10_round_b16 at hyp
    refine q_aload_n 0 rfl dX10_round_16 ?_
    refine q_bind hyp (fun x1 e2 hyp => ?_)
    refine q_getI kF_X10_161 dX10_round_17 e2 ?_
    refine q_if_eq (tgt := 35) dX10_round_20 (by decide) (fun c3 => ?_) (fun c3 => ?_)
    · have hyp := q_pos c3 hyp
      refine q_aload_n 0 rfl dX10_round_35 ?_
      refine q_iconst (x := 5) rfl dX10_round_36 ?_
      refine q_iconst (x := 0) rfl dX10_round_37 ?_
      refine q_bind hyp (fun h4 e5 hyp => ?_)
      refine q_callV (as := [.int 5, .int 0]) (st := []) kY_X10_laysLines kL_X10_320 (okX10_laysLines (l := l) e5) (by decide) rfl (obX10_laysLines e5) (Nat.le_of_ble_eq_true rfl) dX10_round_38 ?_
      refine q_to (ls' := [(0, .ref v0)]) (st' := []) rfl rfl ?_
      refine q_iconst (x := 0) rfl dX10_round_41 ?_
      exact q_iretH rfl rfl dX10_round_42 hyp
    · have hyp := q_neg c3 hyp
      refine q_aload_n 0 rfl dX10_round_23 ?_
      refine q_bind hyp (fun p6 e10 hyp => ?_)
      refine q_callV (as := []) (st := []) kY_X10_readsLine kL_X10_317 (okX10_readsLine (l := l) e10) (by decide) rfl (obX10_readsLine e10) (Nat.le_of_ble_eq_true rfl) dX10_round_24 ?_
      refine q_to (ls' := [(0, .ref v0)]) (st' := [.int p6.1]) rfl rfl ?_
      refine q_if_ne (tgt := 16) dX10_round_27 (by decide) (fun c7 => ?_) (fun c7 => ?_)
      · have hyp := q_neg c7 hyp
        exact q_sub [0] rfl (ih v0 p6.2 hyp)
      · have hyp := q_pos c7 hyp
        refine q_aload_n 0 rfl dX10_round_30 ?_
        refine q_bind hyp (fun x8 e9 hyp => ?_)
        refine q_getI kF_X10_172 dX10_round_31 e9 ?_
        exact q_iretH rfl rfl dX10_round_34 hyp
def fX10_round (n : Nat) (v0 : Nat) (h : qH) : Option (Int32 × qH) :=
  (isO h v0 10).bind fun _ =>
  (pF h v0 10 0 (.int 0)).bind fun h1 =>
  (gR h1 v0 10 34).bind fun x3 =>
  (sI .int h1 x3 5 0).bind fun h5 =>
  (fX10_begins n v0 h5).bind fun h7 =>
  fX10_round_b16 n n v0 h7
theorem obX10_round {n : Nat} {v0 : Nat} {h : qH} {p : Int32 × qH} (hyp : fX10_round n v0 h = some p) : ∃ fs, h.1 v0 = some (.inr (10, fs)) := by
  unfold fX10_round at hyp
  exact q_bind hyp (fun _ e _ => isO_some e)
set_option maxHeartbeats 4000000 in
set_option maxRecDepth 100000 in
theorem okX10_round {l : Launch} {n : Nat} {v0 : Nat} {h : qH} {p : Int32 × qH} (hyp : fX10_round n v0 h = some p) : q_M l 5 yX10_round cX10_round 1 (some .int) [.ref v0] h (some (.int p.1)) p.2 := by
  obtain ⟨r, h'⟩ := p
  unfold fX10_round at hyp
  refine q_bind hyp (fun _ _ hyp => ?_)
  refine q_M.of (by decide) (Nat.le_of_ble_eq_true rfl) ?_
  refine q_to (ls' := [(0, .ref v0)]) (st' := []) rfl rfl ?_
  refine q_aload_n 0 rfl dX10_round_0 ?_
  refine q_iconst (x := 0) rfl dX10_round_1 ?_
  refine q_bind hyp (fun h1 e2 hyp => ?_)
  refine q_putF kF_X10_136 (fun _ => ⟨rfl, rfl⟩) dX10_round_2 e2 ?_
  refine q_aload_n 0 rfl dX10_round_5 ?_
  refine q_bind hyp (fun x3 e4 hyp => ?_)
  refine q_getR kF_X10_78 dX10_round_6 e4 ?_
  refine q_iconst (x := 5) rfl dX10_round_9 ?_
  refine q_iconst (x := 0) rfl dX10_round_10 ?_
  refine q_bind hyp (fun h5 e6 hyp => ?_)
  refine q_iast dX10_round_11 e6 ?_
  refine q_aload_n 0 rfl dX10_round_12 ?_
  refine q_bind hyp (fun h7 e8 hyp => ?_)
  refine q_callV (as := []) (st := []) kY_X10_begins kL_X10_286 (okX10_begins (l := l) e8) (by decide) rfl (obX10_begins e8) (Nat.le_of_ble_eq_true rfl) dX10_round_13 ?_
  refine q_to (ls' := [(0, .ref v0)]) (st' := []) rfl rfl ?_
  exact q_sub [0] rfl (okX10_round_b16 _ v0 h7 hyp)
theorem dX10_see_0 : decode cX10_see 0 = .ok (.aload_n 0, 1) := by decide +kernel
theorem dX10_see_1 : decode cX10_see 1 = .ok (.iconst 0, 1) := by decide +kernel
theorem dX10_see_2 : decode cX10_see 2 = .ok (.putfield 136, 3) := by decide +kernel
theorem dX10_see_5 : decode cX10_see 5 = .ok (.iload_n 1, 1) := by decide +kernel
theorem dX10_see_6 : decode cX10_see 6 = .ok (.iconst 0, 1) := by decide +kernel
theorem dX10_see_7 : decode cX10_see 7 = .ok (.bipush 9, 2) := by decide +kernel
theorem dX10_see_9 : decode cX10_see 9 = .ok (.invokestatic 252, 3) := by decide +kernel
theorem dX10_see_12 : decode cX10_see 12 = .ok (.ifCond .eq 24, 3) := by decide +kernel
theorem dX10_see_15 : decode cX10_see 15 = .ok (.iload_n 2, 1) := by decide +kernel
theorem dX10_see_16 : decode cX10_see 16 = .ok (.iconst 0, 1) := by decide +kernel
theorem dX10_see_17 : decode cX10_see 17 = .ok (.bipush 40, 2) := by decide +kernel
theorem dX10_see_19 : decode cX10_see 19 = .ok (.invokestatic 252, 3) := by decide +kernel
theorem dX10_see_22 : decode cX10_see 22 = .ok (.ifCond .eq 14, 3) := by decide +kernel
theorem dX10_see_25 : decode cX10_see 25 = .ok (.aload_n 0, 1) := by decide +kernel
theorem dX10_see_26 : decode cX10_see 26 = .ok (.getfield 87, 3) := by decide +kernel
theorem dX10_see_29 : decode cX10_see 29 = .ok (.iconst 0, 1) := by decide +kernel
theorem dX10_see_30 : decode cX10_see 30 = .ok (.iaload, 1) := by decide +kernel
theorem dX10_see_31 : decode cX10_see 31 = .ok (.bipush 8, 2) := by decide +kernel
theorem dX10_see_33 : decode cX10_see 33 = .ok (.if_icmp .ne 5, 3) := by decide +kernel
theorem dX10_see_36 : decode cX10_see 36 = .ok (.iconst 0, 1) := by decide +kernel
theorem dX10_see_37 : decode cX10_see 37 = .ok (.ireturn, 1) := by decide +kernel
theorem dX10_see_38 : decode cX10_see 38 = .ok (.aload_n 0, 1) := by decide +kernel
theorem dX10_see_39 : decode cX10_see 39 = .ok (.getfield 90, 3) := by decide +kernel
theorem dX10_see_42 : decode cX10_see 42 = .ok (.aload_n 0, 1) := by decide +kernel
theorem dX10_see_43 : decode cX10_see 43 = .ok (.getfield 87, 3) := by decide +kernel
theorem dX10_see_46 : decode cX10_see 46 = .ok (.iconst 0, 1) := by decide +kernel
theorem dX10_see_47 : decode cX10_see 47 = .ok (.iaload, 1) := by decide +kernel
theorem dX10_see_48 : decode cX10_see 48 = .ok (.iload_n 1, 1) := by decide +kernel
theorem dX10_see_49 : decode cX10_see 49 = .ok (.iastore, 1) := by decide +kernel
theorem dX10_see_50 : decode cX10_see 50 = .ok (.aload_n 0, 1) := by decide +kernel
theorem dX10_see_51 : decode cX10_see 51 = .ok (.getfield 93, 3) := by decide +kernel
theorem dX10_see_54 : decode cX10_see 54 = .ok (.aload_n 0, 1) := by decide +kernel
theorem dX10_see_55 : decode cX10_see 55 = .ok (.getfield 87, 3) := by decide +kernel
theorem dX10_see_58 : decode cX10_see 58 = .ok (.iconst 0, 1) := by decide +kernel
theorem dX10_see_59 : decode cX10_see 59 = .ok (.iaload, 1) := by decide +kernel
theorem dX10_see_60 : decode cX10_see 60 = .ok (.iload_n 2, 1) := by decide +kernel
theorem dX10_see_61 : decode cX10_see 61 = .ok (.iastore, 1) := by decide +kernel
theorem dX10_see_62 : decode cX10_see 62 = .ok (.aload_n 0, 1) := by decide +kernel
theorem dX10_see_63 : decode cX10_see 63 = .ok (.getfield 96, 3) := by decide +kernel
theorem dX10_see_66 : decode cX10_see 66 = .ok (.aload_n 0, 1) := by decide +kernel
theorem dX10_see_67 : decode cX10_see 67 = .ok (.getfield 87, 3) := by decide +kernel
theorem dX10_see_70 : decode cX10_see 70 = .ok (.iconst 0, 1) := by decide +kernel
theorem dX10_see_71 : decode cX10_see 71 = .ok (.iaload, 1) := by decide +kernel
theorem dX10_see_72 : decode cX10_see 72 = .ok (.iload_n 3, 1) := by decide +kernel
theorem dX10_see_73 : decode cX10_see 73 = .ok (.bastore, 1) := by decide +kernel
theorem dX10_see_74 : decode cX10_see 74 = .ok (.aload_n 0, 1) := by decide +kernel
theorem dX10_see_75 : decode cX10_see 75 = .ok (.getfield 87, 3) := by decide +kernel
theorem dX10_see_78 : decode cX10_see 78 = .ok (.iconst 0, 1) := by decide +kernel
theorem dX10_see_79 : decode cX10_see 79 = .ok (.dup2, 1) := by decide +kernel
theorem dX10_see_80 : decode cX10_see 80 = .ok (.iaload, 1) := by decide +kernel
theorem dX10_see_81 : decode cX10_see 81 = .ok (.iconst 1, 1) := by decide +kernel
theorem dX10_see_82 : decode cX10_see 82 = .ok (.iadd, 1) := by decide +kernel
theorem dX10_see_83 : decode cX10_see 83 = .ok (.iastore, 1) := by decide +kernel
theorem dX10_see_84 : decode cX10_see 84 = .ok (.iconst 1, 1) := by decide +kernel
theorem dX10_see_85 : decode cX10_see 85 = .ok (.ireturn, 1) := by decide +kernel
def fX10_see (v0 : Nat) (v1 : Int32) (v2 : Int32) (v3 : Int32) (h : qH) : Option (Int32 × qH) :=
  (isO h v0 10).bind fun _ =>
  (pF h v0 10 0 (.int 0)).bind fun h1 =>
  (fX10_within v1 0 9 h1).bind fun p3 =>
  if p3.1 = 0 then
  (some (0, p3.2))
  else
  ((fX10_within v2 0 40 p3.2).bind fun p5 =>
  if p5.1 = 0 then
  (some (0, p5.2))
  else
  ((gR p5.2 v0 10 37).bind fun x7 =>
  (aI .int p5.2 x7 0).bind fun x9 =>
  if x9 = 8 then
  (some (0, p5.2))
  else
  ((gR p5.2 v0 10 38).bind fun x12 =>
  (gR p5.2 v0 10 37).bind fun x14 =>
  (aI .int p5.2 x14 0).bind fun x16 =>
  (sI .int p5.2 x12 x16 v1).bind fun h18 =>
  (gR h18 v0 10 39).bind fun x20 =>
  (gR h18 v0 10 37).bind fun x22 =>
  (aI .int h18 x22 0).bind fun x24 =>
  (sI .int h18 x20 x24 v2).bind fun h26 =>
  (gR h26 v0 10 40).bind fun x28 =>
  (gR h26 v0 10 37).bind fun x30 =>
  (aI .int h26 x30 0).bind fun x32 =>
  (sI .boolean h26 x28 x32 v3).bind fun h34 =>
  (gR h34 v0 10 37).bind fun x36 =>
  (aI .int h34 x36 0).bind fun x38 =>
  (sI .int h34 x36 0 (x38 + 1)).bind fun h40 =>
  some (1, h40))))
theorem obX10_see {v0 : Nat} {v1 : Int32} {v2 : Int32} {v3 : Int32} {h : qH} {p : Int32 × qH} (hyp : fX10_see v0 v1 v2 v3 h = some p) : ∃ fs, h.1 v0 = some (.inr (10, fs)) := by
  unfold fX10_see at hyp
  exact q_bind hyp (fun _ e _ => isO_some e)
set_option maxHeartbeats 4000000 in
set_option maxRecDepth 100000 in
theorem okX10_see {l : Launch} {v0 : Nat} {v1 : Int32} {v2 : Int32} {v3 : Int32} {h : qH} {p : Int32 × qH} (hyp : fX10_see v0 v1 v2 v3 h = some p) : q_M l 2 yX10_see cX10_see 4 (some .boolean) [.ref v0, .int v1, .int v2, .int v3] h (some (.int p.1)) p.2 := by
  obtain ⟨r, h'⟩ := p
  unfold fX10_see at hyp
  refine q_bind hyp (fun _ _ hyp => ?_)
  refine q_M.of (by decide) (Nat.le_of_ble_eq_true rfl) ?_
  refine q_to (ls' := [(0, .ref v0), (1, .int v1), (2, .int v2), (3, .int v3)]) (st' := []) rfl rfl ?_
  refine q_aload_n 0 rfl dX10_see_0 ?_
  refine q_iconst (x := 0) rfl dX10_see_1 ?_
  refine q_bind hyp (fun h1 e2 hyp => ?_)
  refine q_putF kF_X10_136 (fun _ => ⟨rfl, rfl⟩) dX10_see_2 e2 ?_
  refine q_iload_n 1 rfl dX10_see_5 ?_
  refine q_iconst (x := 0) rfl dX10_see_6 ?_
  refine q_bipush (x := 9) (by decide) dX10_see_7 ?_
  refine q_bind hyp (fun p3 e43 hyp => ?_)
  refine q_callS (as := [.int v1, .int 0, .int 9]) (st := []) kY_X10_within kS_X10_within kL_X10_252 (okX10_within (l := l) e43) (by decide) rfl (Nat.le_of_ble_eq_true rfl) dX10_see_9 ?_
  refine q_to (ls' := [(0, .ref v0), (1, .int v1), (2, .int v2), (3, .int v3)]) (st' := [.int p3.1]) rfl rfl ?_
  refine q_if_eq (tgt := 36) dX10_see_12 (by decide) (fun c4 => ?_) (fun c4 => ?_)
  · have hyp := q_pos c4 hyp
    refine q_iconst (x := 0) rfl dX10_see_36 ?_
    exact q_iretH rfl rfl dX10_see_37 hyp
  · have hyp := q_neg c4 hyp
    refine q_iload_n 2 rfl dX10_see_15 ?_
    refine q_iconst (x := 0) rfl dX10_see_16 ?_
    refine q_bipush (x := 40) (by decide) dX10_see_17 ?_
    refine q_bind hyp (fun p5 e42 hyp => ?_)
    refine q_callS (as := [.int v2, .int 0, .int 40]) (st := []) kY_X10_within kS_X10_within kL_X10_252 (okX10_within (l := l) e42) (by decide) rfl (Nat.le_of_ble_eq_true rfl) dX10_see_19 ?_
    refine q_to (ls' := [(0, .ref v0), (1, .int v1), (2, .int v2), (3, .int v3)]) (st' := [.int p5.1]) rfl rfl ?_
    refine q_if_eq (tgt := 36) dX10_see_22 (by decide) (fun c6 => ?_) (fun c6 => ?_)
    · have hyp := q_pos c6 hyp
      refine q_iconst (x := 0) rfl dX10_see_36 ?_
      exact q_iretH rfl rfl dX10_see_37 hyp
    · have hyp := q_neg c6 hyp
      refine q_aload_n 0 rfl dX10_see_25 ?_
      refine q_bind hyp (fun x7 e8 hyp => ?_)
      refine q_getR kF_X10_87 dX10_see_26 e8 ?_
      refine q_iconst (x := 0) rfl dX10_see_29 ?_
      refine q_bind hyp (fun x9 e10 hyp => ?_)
      refine q_iald dX10_see_30 e10 ?_
      refine q_bipush (x := 8) (by decide) dX10_see_31 ?_
      refine q_icmp_ne (tgt := 38) dX10_see_33 (by decide) (fun c11 => ?_) (fun c11 => ?_)
      · have hyp := q_neg c11 hyp
        refine q_aload_n 0 rfl dX10_see_38 ?_
        refine q_bind hyp (fun x12 e13 hyp => ?_)
        refine q_getR kF_X10_90 dX10_see_39 e13 ?_
        refine q_aload_n 0 rfl dX10_see_42 ?_
        refine q_bind hyp (fun x14 e15 hyp => ?_)
        refine q_getR kF_X10_87 dX10_see_43 e15 ?_
        refine q_iconst (x := 0) rfl dX10_see_46 ?_
        refine q_bind hyp (fun x16 e17 hyp => ?_)
        refine q_iald dX10_see_47 e17 ?_
        refine q_iload_n 1 rfl dX10_see_48 ?_
        refine q_bind hyp (fun h18 e19 hyp => ?_)
        refine q_iast dX10_see_49 e19 ?_
        refine q_aload_n 0 rfl dX10_see_50 ?_
        refine q_bind hyp (fun x20 e21 hyp => ?_)
        refine q_getR kF_X10_93 dX10_see_51 e21 ?_
        refine q_aload_n 0 rfl dX10_see_54 ?_
        refine q_bind hyp (fun x22 e23 hyp => ?_)
        refine q_getR kF_X10_87 dX10_see_55 e23 ?_
        refine q_iconst (x := 0) rfl dX10_see_58 ?_
        refine q_bind hyp (fun x24 e25 hyp => ?_)
        refine q_iald dX10_see_59 e25 ?_
        refine q_iload_n 2 rfl dX10_see_60 ?_
        refine q_bind hyp (fun h26 e27 hyp => ?_)
        refine q_iast dX10_see_61 e27 ?_
        refine q_aload_n 0 rfl dX10_see_62 ?_
        refine q_bind hyp (fun x28 e29 hyp => ?_)
        refine q_getR kF_X10_96 dX10_see_63 e29 ?_
        refine q_aload_n 0 rfl dX10_see_66 ?_
        refine q_bind hyp (fun x30 e31 hyp => ?_)
        refine q_getR kF_X10_87 dX10_see_67 e31 ?_
        refine q_iconst (x := 0) rfl dX10_see_70 ?_
        refine q_bind hyp (fun x32 e33 hyp => ?_)
        refine q_iald dX10_see_71 e33 ?_
        refine q_iload_n 3 rfl dX10_see_72 ?_
        refine q_bind hyp (fun h34 e35 hyp => ?_)
        refine q_zast dX10_see_73 e35 ?_
        refine q_aload_n 0 rfl dX10_see_74 ?_
        refine q_bind hyp (fun x36 e37 hyp => ?_)
        refine q_getR kF_X10_87 dX10_see_75 e37 ?_
        refine q_iconst (x := 0) rfl dX10_see_78 ?_
        refine q_dup2 rfl rfl dX10_see_79 ?_
        refine q_bind hyp (fun x38 e39 hyp => ?_)
        refine q_iald dX10_see_80 e39 ?_
        refine q_iconst (x := 1) rfl dX10_see_81 ?_
        refine q_iadd dX10_see_82 ?_
        refine q_bind hyp (fun h40 e41 hyp => ?_)
        refine q_iast dX10_see_83 e41 ?_
        refine q_iconst (x := 1) rfl dX10_see_84 ?_
        exact q_iretH rfl rfl dX10_see_85 hyp
      · have hyp := q_pos c11 hyp
        refine q_iconst (x := 0) rfl dX10_see_36 ?_
        exact q_iretH rfl rfl dX10_see_37 hyp
theorem dX10_sourest_0 : decode cX10_sourest 0 = .ok (.aload_n 0, 1) := by decide +kernel
theorem dX10_sourest_1 : decode cX10_sourest 1 = .ok (.iconst 0, 1) := by decide +kernel
theorem dX10_sourest_2 : decode cX10_sourest 2 = .ok (.putfield 136, 3) := by decide +kernel
theorem dX10_sourest_5 : decode cX10_sourest 5 = .ok (.iconst (-1), 1) := by decide +kernel
theorem dX10_sourest_6 : decode cX10_sourest 6 = .ok (.istore_n 1, 1) := by decide +kernel
theorem dX10_sourest_7 : decode cX10_sourest 7 = .ok (.iconst 0, 1) := by decide +kernel
theorem dX10_sourest_8 : decode cX10_sourest 8 = .ok (.istore_n 2, 1) := by decide +kernel
theorem dX10_sourest_9 : decode cX10_sourest 9 = .ok (.iload_n 2, 1) := by decide +kernel
theorem dX10_sourest_10 : decode cX10_sourest 10 = .ok (.aload_n 0, 1) := by decide +kernel
theorem dX10_sourest_11 : decode cX10_sourest 11 = .ok (.getfield 13, 3) := by decide +kernel
theorem dX10_sourest_14 : decode cX10_sourest 14 = .ok (.iconst 0, 1) := by decide +kernel
theorem dX10_sourest_15 : decode cX10_sourest 15 = .ok (.iaload, 1) := by decide +kernel
theorem dX10_sourest_16 : decode cX10_sourest 16 = .ok (.if_icmp .ge 38, 3) := by decide +kernel
theorem dX10_sourest_19 : decode cX10_sourest 19 = .ok (.aload_n 0, 1) := by decide +kernel
theorem dX10_sourest_20 : decode cX10_sourest 20 = .ok (.getfield 99, 3) := by decide +kernel
theorem dX10_sourest_23 : decode cX10_sourest 23 = .ok (.iconst 2, 1) := by decide +kernel
theorem dX10_sourest_24 : decode cX10_sourest 24 = .ok (.iload_n 2, 1) := by decide +kernel
theorem dX10_sourest_25 : decode cX10_sourest 25 = .ok (.iadd, 1) := by decide +kernel
theorem dX10_sourest_26 : decode cX10_sourest 26 = .ok (.iaload, 1) := by decide +kernel
theorem dX10_sourest_27 : decode cX10_sourest 27 = .ok (.iload_n 1, 1) := by decide +kernel
theorem dX10_sourest_28 : decode cX10_sourest 28 = .ok (.ifCond .ge 7, 3) := by decide +kernel
theorem dX10_sourest_31 : decode cX10_sourest 31 = .ok (.iconst 0, 1) := by decide +kernel
theorem dX10_sourest_32 : decode cX10_sourest 32 = .ok (.goto 11, 3) := by decide +kernel
theorem dX10_sourest_35 : decode cX10_sourest 35 = .ok (.aload_n 0, 1) := by decide +kernel
theorem dX10_sourest_36 : decode cX10_sourest 36 = .ok (.getfield 99, 3) := by decide +kernel
theorem dX10_sourest_39 : decode cX10_sourest 39 = .ok (.iconst 2, 1) := by decide +kernel
theorem dX10_sourest_40 : decode cX10_sourest 40 = .ok (.iload_n 1, 1) := by decide +kernel
theorem dX10_sourest_41 : decode cX10_sourest 41 = .ok (.iadd, 1) := by decide +kernel
theorem dX10_sourest_42 : decode cX10_sourest 42 = .ok (.iaload, 1) := by decide +kernel
theorem dX10_sourest_43 : decode cX10_sourest 43 = .ok (.if_icmp .le 5, 3) := by decide +kernel
theorem dX10_sourest_46 : decode cX10_sourest 46 = .ok (.iload_n 2, 1) := by decide +kernel
theorem dX10_sourest_47 : decode cX10_sourest 47 = .ok (.istore_n 1, 1) := by decide +kernel
theorem dX10_sourest_48 : decode cX10_sourest 48 = .ok (.iinc 2 1, 3) := by decide +kernel
theorem dX10_sourest_51 : decode cX10_sourest 51 = .ok (.goto (-42), 3) := by decide +kernel
theorem dX10_sourest_54 : decode cX10_sourest 54 = .ok (.iload_n 1, 1) := by decide +kernel
theorem dX10_sourest_55 : decode cX10_sourest 55 = .ok (.ireturn, 1) := by decide +kernel
def fX10_sourest_b43 (n : Nat) (K9 : Nat → Int32 → Int32 → qH → Option (Int32 × qH)) (v0 : Nat) (v1 : Int32) (v2 : Int32) (s0 : Int32) (s1 : Int32) (h : qH) : Option (Int32 × qH) :=
  if s1 ≤ s0 then
  (K9 v0 v1 (v2 + 1) h)
  else
  (K9 v0 v2 (v2 + 1) h)
set_option maxHeartbeats 4000000 in
set_option maxRecDepth 100000 in
theorem okX10_sourest_b43 {l : Launch} {n : Nat} {K9 : Nat → Int32 → Int32 → qH → Option (Int32 × qH)} {v0 : Nat} {v1 : Int32} {v2 : Int32} {s0 : Int32} {s1 : Int32} {h : qH} {r : Int32} {h' : qH} (hK9 : ∀ (v0 : Nat) (v1 : Int32) (v2 : Int32) (h : qH), K9 v0 v1 v2 h = some (r, h') → q_W l 1 yX10_sourest cX10_sourest 3 (some .int) (some (.int r)) h' 9 [(0, .ref v0), (1, .int v1), (2, .int v2)] [] h) (hyp : fX10_sourest_b43 n K9 v0 v1 v2 s0 s1 h = some (r, h')) : q_W l 1 yX10_sourest cX10_sourest 3 (some .int) (some (.int r)) h' 43 [(0, .ref v0), (1, .int v1), (2, .int v2)] [.int s0, .int s1] h := by
  unfold fX10_sourest_b43 at hyp
  refine q_icmp_le (tgt := 48) dX10_sourest_43 (by decide) (fun c1 => ?_) (fun c1 => ?_)
  · have hyp := q_pos c1 hyp
    refine q_iinc (ls' := [(2, .int (v2 + 1)), (0, .ref v0), (1, .int v1)]) 2 rfl rfl (by decide) rfl dX10_sourest_48 ?_
    refine q_goto (tgt := 9) dX10_sourest_51 (by decide) ?_
    exact q_sub [1, 2, 0] rfl (hK9 v0 v1 (v2 + 1) h hyp)
  · have hyp := q_neg c1 hyp
    refine q_iload_n 2 rfl dX10_sourest_46 ?_
    refine q_istore_n (ls' := [(1, .int v2), (0, .ref v0), (2, .int v2)]) (by decide) rfl dX10_sourest_47 ?_
    refine q_iinc (ls' := [(2, .int (v2 + 1)), (1, .int v2), (0, .ref v0)]) 2 rfl rfl (by decide) rfl dX10_sourest_48 ?_
    refine q_goto (tgt := 9) dX10_sourest_51 (by decide) ?_
    exact q_sub [2, 1, 0] rfl (hK9 v0 v2 (v2 + 1) h hyp)
def fX10_sourest_b9 (n : Nat) : Nat → Nat → Int32 → Int32 → qH → Option (Int32 × qH)
  | 0, _, _, _, _ => none
  | w + 1, v0, v1, v2, h =>
    (gR h v0 10 10).bind fun x1 =>
    (aI .int h x1 0).bind fun x3 =>
    if x3 ≤ v2 then
    (some (v1, h))
    else
    ((gR h v0 10 41).bind fun x6 =>
    (aI .int h x6 (2 + v2)).bind fun x8 =>
    if 0 ≤ v1 then
    ((gR h v0 10 41).bind fun x11 =>
    (aI .int h x11 (2 + v1)).bind fun x13 =>
    fX10_sourest_b43 n (fX10_sourest_b9 n w) v0 v1 v2 x13 x8 h)
    else
    (fX10_sourest_b43 n (fX10_sourest_b9 n w) v0 v1 v2 0 x8 h))
set_option maxHeartbeats 4000000 in
set_option maxRecDepth 100000 in
theorem okX10_sourest_b9 {l : Launch} {n : Nat} {r : Int32} {h' : qH} : ∀ (w : Nat) (v0 : Nat) (v1 : Int32) (v2 : Int32) (h : qH), fX10_sourest_b9 n w v0 v1 v2 h = some (r, h') → q_W l 1 yX10_sourest cX10_sourest 3 (some .int) (some (.int r)) h' 9 [(0, .ref v0), (1, .int v1), (2, .int v2)] [] h := by
  intro w
  induction w with
  | zero => intro v0 v1 v2 h hyp; cases hyp
  | succ w ih =>
    intro v0 v1 v2 h hyp
    unfold fX10_sourest_b9 at hyp
    refine q_iload_n 2 rfl dX10_sourest_9 ?_
    refine q_aload_n 0 rfl dX10_sourest_10 ?_
    refine q_bind hyp (fun x1 e2 hyp => ?_)
    refine q_getR kF_X10_13 dX10_sourest_11 e2 ?_
    refine q_iconst (x := 0) rfl dX10_sourest_14 ?_
    refine q_bind hyp (fun x3 e4 hyp => ?_)
    refine q_iald dX10_sourest_15 e4 ?_
    refine q_icmp_ge (tgt := 54) dX10_sourest_16 (by decide) (fun c5 => ?_) (fun c5 => ?_)
    · have hyp := q_pos c5 hyp
      refine q_iload_n 1 rfl dX10_sourest_54 ?_
      exact q_iretH rfl rfl dX10_sourest_55 hyp
    · have hyp := q_neg c5 hyp
      refine q_aload_n 0 rfl dX10_sourest_19 ?_
      refine q_bind hyp (fun x6 e7 hyp => ?_)
      refine q_getR kF_X10_99 dX10_sourest_20 e7 ?_
      refine q_iconst (x := 2) rfl dX10_sourest_23 ?_
      refine q_iload_n 2 rfl dX10_sourest_24 ?_
      refine q_iadd dX10_sourest_25 ?_
      refine q_bind hyp (fun x8 e9 hyp => ?_)
      refine q_iald dX10_sourest_26 e9 ?_
      refine q_iload_n 1 rfl dX10_sourest_27 ?_
      refine q_if_ge (tgt := 35) dX10_sourest_28 (by decide) (fun c10 => ?_) (fun c10 => ?_)
      · have hyp := q_pos c10 hyp
        refine q_aload_n 0 rfl dX10_sourest_35 ?_
        refine q_bind hyp (fun x11 e12 hyp => ?_)
        refine q_getR kF_X10_99 dX10_sourest_36 e12 ?_
        refine q_iconst (x := 2) rfl dX10_sourest_39 ?_
        refine q_iload_n 1 rfl dX10_sourest_40 ?_
        refine q_iadd dX10_sourest_41 ?_
        refine q_bind hyp (fun x13 e14 hyp => ?_)
        refine q_iald dX10_sourest_42 e14 ?_
        exact q_sub [0, 1, 2] rfl (okX10_sourest_b43 ih hyp)
      · have hyp := q_neg c10 hyp
        refine q_iconst (x := 0) rfl dX10_sourest_31 ?_
        refine q_goto (tgt := 43) dX10_sourest_32 (by decide) ?_
        exact q_sub [0, 1, 2] rfl (okX10_sourest_b43 ih hyp)
def fX10_sourest (n : Nat) (v0 : Nat) (h : qH) : Option (Int32 × qH) :=
  (isO h v0 10).bind fun _ =>
  (pF h v0 10 0 (.int 0)).bind fun h1 =>
  fX10_sourest_b9 n n v0 ((-1)) 0 h1
theorem obX10_sourest {n : Nat} {v0 : Nat} {h : qH} {p : Int32 × qH} (hyp : fX10_sourest n v0 h = some p) : ∃ fs, h.1 v0 = some (.inr (10, fs)) := by
  unfold fX10_sourest at hyp
  exact q_bind hyp (fun _ e _ => isO_some e)
set_option maxHeartbeats 4000000 in
set_option maxRecDepth 100000 in
theorem okX10_sourest {l : Launch} {n : Nat} {v0 : Nat} {h : qH} {p : Int32 × qH} (hyp : fX10_sourest n v0 h = some p) : q_M l 1 yX10_sourest cX10_sourest 3 (some .int) [.ref v0] h (some (.int p.1)) p.2 := by
  obtain ⟨r, h'⟩ := p
  unfold fX10_sourest at hyp
  refine q_bind hyp (fun _ _ hyp => ?_)
  refine q_M.of (by decide) (Nat.le_of_ble_eq_true rfl) ?_
  refine q_to (ls' := [(0, .ref v0)]) (st' := []) rfl rfl ?_
  refine q_aload_n 0 rfl dX10_sourest_0 ?_
  refine q_iconst (x := 0) rfl dX10_sourest_1 ?_
  refine q_bind hyp (fun h1 e2 hyp => ?_)
  refine q_putF kF_X10_136 (fun _ => ⟨rfl, rfl⟩) dX10_sourest_2 e2 ?_
  refine q_iconst (x := (-1)) rfl dX10_sourest_5 ?_
  refine q_istore_n (ls' := [(1, .int ((-1))), (0, .ref v0)]) (by decide) rfl dX10_sourest_6 ?_
  refine q_iconst (x := 0) rfl dX10_sourest_7 ?_
  refine q_istore_n (ls' := [(2, .int 0), (1, .int ((-1))), (0, .ref v0)]) (by decide) rfl dX10_sourest_8 ?_
  exact q_sub [2, 1, 0] rfl (okX10_sourest_b9 _ v0 ((-1)) 0 h1 hyp)
theorem dX10_spread_0 : decode cX10_spread 0 = .ok (.aload_n 0, 1) := by decide +kernel
theorem dX10_spread_1 : decode cX10_spread 1 = .ok (.iconst 0, 1) := by decide +kernel
theorem dX10_spread_2 : decode cX10_spread 2 = .ok (.putfield 136, 3) := by decide +kernel
theorem dX10_spread_5 : decode cX10_spread 5 = .ok (.aload_n 0, 1) := by decide +kernel
theorem dX10_spread_6 : decode cX10_spread 6 = .ok (.iload_n 1, 1) := by decide +kernel
theorem dX10_spread_7 : decode cX10_spread 7 = .ok (.invokevirtual 346, 3) := by decide +kernel
theorem dX10_spread_10 : decode cX10_spread 10 = .ok (.ifCond .eq 17, 3) := by decide +kernel
theorem dX10_spread_13 : decode cX10_spread 13 = .ok (.aload_n 0, 1) := by decide +kernel
theorem dX10_spread_14 : decode cX10_spread 14 = .ok (.getfield 99, 3) := by decide +kernel
theorem dX10_spread_17 : decode cX10_spread 17 = .ok (.iconst 1, 1) := by decide +kernel
theorem dX10_spread_18 : decode cX10_spread 18 = .ok (.iaload, 1) := by decide +kernel
theorem dX10_spread_19 : decode cX10_spread 19 = .ok (.aload_n 0, 1) := by decide +kernel
theorem dX10_spread_20 : decode cX10_spread 20 = .ok (.iload_n 1, 1) := by decide +kernel
theorem dX10_spread_21 : decode cX10_spread 21 = .ok (.invokevirtual 331, 3) := by decide +kernel
theorem dX10_spread_24 : decode cX10_spread 24 = .ok (.if_icmp .ge 5, 3) := by decide +kernel
theorem dX10_spread_27 : decode cX10_spread 27 = .ok (.iconst (-1), 1) := by decide +kernel
theorem dX10_spread_28 : decode cX10_spread 28 = .ok (.ireturn, 1) := by decide +kernel
theorem dX10_spread_29 : decode cX10_spread 29 = .ok (.aload_n 0, 1) := by decide +kernel
theorem dX10_spread_30 : decode cX10_spread 30 = .ok (.invokevirtual 359, 3) := by decide +kernel
theorem dX10_spread_33 : decode cX10_spread 33 = .ok (.aload_n 0, 1) := by decide +kernel
theorem dX10_spread_34 : decode cX10_spread 34 = .ok (.iload_n 1, 1) := by decide +kernel
theorem dX10_spread_35 : decode cX10_spread 35 = .ok (.invokevirtual 362, 3) := by decide +kernel
theorem dX10_spread_38 : decode cX10_spread 38 = .ok (.aload_n 0, 1) := by decide +kernel
theorem dX10_spread_39 : decode cX10_spread 39 = .ok (.getfield 99, 3) := by decide +kernel
theorem dX10_spread_42 : decode cX10_spread 42 = .ok (.iconst 2, 1) := by decide +kernel
theorem dX10_spread_43 : decode cX10_spread 43 = .ok (.iload_n 1, 1) := by decide +kernel
theorem dX10_spread_44 : decode cX10_spread 44 = .ok (.iadd, 1) := by decide +kernel
theorem dX10_spread_45 : decode cX10_spread 45 = .ok (.iaload, 1) := by decide +kernel
theorem dX10_spread_46 : decode cX10_spread 46 = .ok (.ireturn, 1) := by decide +kernel
def fX10_spread (n : Nat) (v0 : Nat) (v1 : Int32) (h : qH) : Option (Int32 × qH) :=
  (isO h v0 10).bind fun _ =>
  (pF h v0 10 0 (.int 0)).bind fun h1 =>
  (fX10_isMatter v0 v1 h1).bind fun p3 =>
  if p3.1 = 0 then
  (some ((-1), p3.2))
  else
  ((gR p3.2 v0 10 41).bind fun x5 =>
  (aI .int p3.2 x5 1).bind fun x7 =>
  (fX10_priceOf v0 v1 p3.2).bind fun p9 =>
  if p9.1 ≤ x7 then
  ((fX10_keeps n v0 p9.2).bind fun h11 =>
  (fX10_coats n v0 v1 h11).bind fun h12 =>
  (gR h12 v0 10 41).bind fun x13 =>
  (aI .int h12 x13 (2 + v1)).bind fun x15 =>
  some (x15, h12))
  else
  (some ((-1), p9.2)))
theorem obX10_spread {n : Nat} {v0 : Nat} {v1 : Int32} {h : qH} {p : Int32 × qH} (hyp : fX10_spread n v0 v1 h = some p) : ∃ fs, h.1 v0 = some (.inr (10, fs)) := by
  unfold fX10_spread at hyp
  exact q_bind hyp (fun _ e _ => isO_some e)
set_option maxHeartbeats 4000000 in
set_option maxRecDepth 100000 in
theorem okX10_spread {l : Launch} {n : Nat} {v0 : Nat} {v1 : Int32} {h : qH} {p : Int32 × qH} (hyp : fX10_spread n v0 v1 h = some p) : q_M l 6 yX10_spread cX10_spread 2 (some .int) [.ref v0, .int v1] h (some (.int p.1)) p.2 := by
  obtain ⟨r, h'⟩ := p
  unfold fX10_spread at hyp
  refine q_bind hyp (fun _ _ hyp => ?_)
  refine q_M.of (by decide) (Nat.le_of_ble_eq_true rfl) ?_
  refine q_to (ls' := [(0, .ref v0), (1, .int v1)]) (st' := []) rfl rfl ?_
  refine q_aload_n 0 rfl dX10_spread_0 ?_
  refine q_iconst (x := 0) rfl dX10_spread_1 ?_
  refine q_bind hyp (fun h1 e2 hyp => ?_)
  refine q_putF kF_X10_136 (fun _ => ⟨rfl, rfl⟩) dX10_spread_2 e2 ?_
  refine q_aload_n 0 rfl dX10_spread_5 ?_
  refine q_iload_n 1 rfl dX10_spread_6 ?_
  refine q_bind hyp (fun p3 e20 hyp => ?_)
  refine q_callV (as := [.int v1]) (st := []) kY_X10_isMatter kL_X10_346 (okX10_isMatter (l := l) e20) (by decide) rfl (obX10_isMatter e20) (Nat.le_of_ble_eq_true rfl) dX10_spread_7 ?_
  refine q_to (ls' := [(0, .ref v0), (1, .int v1)]) (st' := [.int p3.1]) rfl rfl ?_
  refine q_if_eq (tgt := 27) dX10_spread_10 (by decide) (fun c4 => ?_) (fun c4 => ?_)
  · have hyp := q_pos c4 hyp
    refine q_iconst (x := (-1)) rfl dX10_spread_27 ?_
    exact q_iretH rfl rfl dX10_spread_28 hyp
  · have hyp := q_neg c4 hyp
    refine q_aload_n 0 rfl dX10_spread_13 ?_
    refine q_bind hyp (fun x5 e6 hyp => ?_)
    refine q_getR kF_X10_99 dX10_spread_14 e6 ?_
    refine q_iconst (x := 1) rfl dX10_spread_17 ?_
    refine q_bind hyp (fun x7 e8 hyp => ?_)
    refine q_iald dX10_spread_18 e8 ?_
    refine q_aload_n 0 rfl dX10_spread_19 ?_
    refine q_iload_n 1 rfl dX10_spread_20 ?_
    refine q_bind hyp (fun p9 e19 hyp => ?_)
    refine q_callV (as := [.int v1]) (st := [.int x7]) kY_X10_priceOf kL_X10_331 (okX10_priceOf (l := l) e19) (by decide) rfl (obX10_priceOf e19) (Nat.le_of_ble_eq_true rfl) dX10_spread_21 ?_
    refine q_to (ls' := [(0, .ref v0), (1, .int v1)]) (st' := [.int p9.1, .int x7]) rfl rfl ?_
    refine q_icmp_ge (tgt := 29) dX10_spread_24 (by decide) (fun c10 => ?_) (fun c10 => ?_)
    · have hyp := q_pos c10 hyp
      refine q_aload_n 0 rfl dX10_spread_29 ?_
      refine q_bind hyp (fun h11 e18 hyp => ?_)
      refine q_callV (as := []) (st := []) kY_X10_keeps kL_X10_359 (okX10_keeps (l := l) e18) (by decide) rfl (obX10_keeps e18) (Nat.le_of_ble_eq_true rfl) dX10_spread_30 ?_
      refine q_to (ls' := [(0, .ref v0), (1, .int v1)]) (st' := []) rfl rfl ?_
      refine q_aload_n 0 rfl dX10_spread_33 ?_
      refine q_iload_n 1 rfl dX10_spread_34 ?_
      refine q_bind hyp (fun h12 e17 hyp => ?_)
      refine q_callV (as := [.int v1]) (st := []) kY_X10_coats kL_X10_362 (okX10_coats (l := l) e17) (by decide) rfl (obX10_coats e17) (Nat.le_of_ble_eq_true rfl) dX10_spread_35 ?_
      refine q_to (ls' := [(0, .ref v0), (1, .int v1)]) (st' := []) rfl rfl ?_
      refine q_aload_n 0 rfl dX10_spread_38 ?_
      refine q_bind hyp (fun x13 e14 hyp => ?_)
      refine q_getR kF_X10_99 dX10_spread_39 e14 ?_
      refine q_iconst (x := 2) rfl dX10_spread_42 ?_
      refine q_iload_n 1 rfl dX10_spread_43 ?_
      refine q_iadd dX10_spread_44 ?_
      refine q_bind hyp (fun x15 e16 hyp => ?_)
      refine q_iald dX10_spread_45 e16 ?_
      exact q_iretH rfl rfl dX10_spread_46 hyp
    · have hyp := q_neg c10 hyp
      refine q_iconst (x := (-1)) rfl dX10_spread_27 ?_
      exact q_iretH rfl rfl dX10_spread_28 hyp
theorem dX10_story_0 : decode cX10_story 0 = .ok (.aload_n 0, 1) := by decide +kernel
theorem dX10_story_1 : decode cX10_story 1 = .ok (.iconst 0, 1) := by decide +kernel
theorem dX10_story_2 : decode cX10_story 2 = .ok (.putfield 136, 3) := by decide +kernel
theorem dX10_story_5 : decode cX10_story 5 = .ok (.iconst 0, 1) := by decide +kernel
theorem dX10_story_6 : decode cX10_story 6 = .ok (.istore_n 1, 1) := by decide +kernel
theorem dX10_story_7 : decode cX10_story 7 = .ok (.iconst 0, 1) := by decide +kernel
theorem dX10_story_8 : decode cX10_story 8 = .ok (.istore_n 2, 1) := by decide +kernel
theorem dX10_story_9 : decode cX10_story 9 = .ok (.iload_n 2, 1) := by decide +kernel
theorem dX10_story_10 : decode cX10_story 10 = .ok (.bipush 7, 2) := by decide +kernel
theorem dX10_story_12 : decode cX10_story 12 = .ok (.if_icmp .ge 16, 3) := by decide +kernel
theorem dX10_story_15 : decode cX10_story 15 = .ok (.aload_n 0, 1) := by decide +kernel
theorem dX10_story_16 : decode cX10_story 16 = .ok (.getfield 123, 3) := by decide +kernel
theorem dX10_story_19 : decode cX10_story 19 = .ok (.iload_n 2, 1) := by decide +kernel
theorem dX10_story_20 : decode cX10_story 20 = .ok (.iconst 1, 1) := by decide +kernel
theorem dX10_story_21 : decode cX10_story 21 = .ok (.iastore, 1) := by decide +kernel
theorem dX10_story_22 : decode cX10_story 22 = .ok (.iinc 2 1, 3) := by decide +kernel
theorem dX10_story_25 : decode cX10_story 25 = .ok (.goto (-16), 3) := by decide +kernel
theorem dX10_story_28 : decode cX10_story 28 = .ok (.iconst 0, 1) := by decide +kernel
theorem dX10_story_29 : decode cX10_story 29 = .ok (.istore_n 2, 1) := by decide +kernel
theorem dX10_story_30 : decode cX10_story 30 = .ok (.iload_n 2, 1) := by decide +kernel
theorem dX10_story_31 : decode cX10_story 31 = .ok (.aload_n 0, 1) := by decide +kernel
theorem dX10_story_32 : decode cX10_story 32 = .ok (.getfield 13, 3) := by decide +kernel
theorem dX10_story_35 : decode cX10_story 35 = .ok (.iconst 0, 1) := by decide +kernel
theorem dX10_story_36 : decode cX10_story 36 = .ok (.iaload, 1) := by decide +kernel
theorem dX10_story_37 : decode cX10_story 37 = .ok (.if_icmp .ge 86, 3) := by decide +kernel
theorem dX10_story_40 : decode cX10_story 40 = .ok (.aload_n 0, 1) := by decide +kernel
theorem dX10_story_41 : decode cX10_story 41 = .ok (.iload_n 2, 1) := by decide +kernel
theorem dX10_story_42 : decode cX10_story 42 = .ok (.invokevirtual 403, 3) := by decide +kernel
theorem dX10_story_45 : decode cX10_story 45 = .ok (.istore_n 3, 1) := by decide +kernel
theorem dX10_story_46 : decode cX10_story 46 = .ok (.iload_n 1, 1) := by decide +kernel
theorem dX10_story_47 : decode cX10_story 47 = .ok (.aload_n 0, 1) := by decide +kernel
theorem dX10_story_48 : decode cX10_story 48 = .ok (.getfield 123, 3) := by decide +kernel
theorem dX10_story_51 : decode cX10_story 51 = .ok (.iload_n 3, 1) := by decide +kernel
theorem dX10_story_52 : decode cX10_story 52 = .ok (.iaload, 1) := by decide +kernel
theorem dX10_story_53 : decode cX10_story 53 = .ok (.invokestatic 337, 3) := by decide +kernel
theorem dX10_story_56 : decode cX10_story 56 = .ok (.istore_n 1, 1) := by decide +kernel
theorem dX10_story_57 : decode cX10_story 57 = .ok (.iconst 0, 1) := by decide +kernel
theorem dX10_story_58 : decode cX10_story 58 = .ok (.istore 4, 2) := by decide +kernel
theorem dX10_story_60 : decode cX10_story 60 = .ok (.iload 4, 2) := by decide +kernel
theorem dX10_story_62 : decode cX10_story 62 = .ok (.aload_n 0, 1) := by decide +kernel
theorem dX10_story_63 : decode cX10_story 63 = .ok (.getfield 13, 3) := by decide +kernel
theorem dX10_story_66 : decode cX10_story 66 = .ok (.iconst 0, 1) := by decide +kernel
theorem dX10_story_67 : decode cX10_story 67 = .ok (.iaload, 1) := by decide +kernel
theorem dX10_story_68 : decode cX10_story 68 = .ok (.if_icmp .ge 49, 3) := by decide +kernel
theorem dX10_story_71 : decode cX10_story 71 = .ok (.aload_n 0, 1) := by decide +kernel
theorem dX10_story_72 : decode cX10_story 72 = .ok (.getfield 29, 3) := by decide +kernel
theorem dX10_story_75 : decode cX10_story 75 = .ok (.iload_n 3, 1) := by decide +kernel
theorem dX10_story_76 : decode cX10_story 76 = .ok (.iaload, 1) := by decide +kernel
theorem dX10_story_77 : decode cX10_story 77 = .ok (.iload 4, 2) := by decide +kernel
theorem dX10_story_79 : decode cX10_story 79 = .ok (.ishr, 1) := by decide +kernel
theorem dX10_story_80 : decode cX10_story 80 = .ok (.iconst 1, 1) := by decide +kernel
theorem dX10_story_81 : decode cX10_story 81 = .ok (.iand, 1) := by decide +kernel
theorem dX10_story_82 : decode cX10_story 82 = .ok (.iconst 1, 1) := by decide +kernel
theorem dX10_story_83 : decode cX10_story 83 = .ok (.if_icmp .ne 28, 3) := by decide +kernel
theorem dX10_story_86 : decode cX10_story 86 = .ok (.aload_n 0, 1) := by decide +kernel
theorem dX10_story_87 : decode cX10_story 87 = .ok (.getfield 123, 3) := by decide +kernel
theorem dX10_story_90 : decode cX10_story 90 = .ok (.iload 4, 2) := by decide +kernel
theorem dX10_story_92 : decode cX10_story 92 = .ok (.aload_n 0, 1) := by decide +kernel
theorem dX10_story_93 : decode cX10_story 93 = .ok (.getfield 123, 3) := by decide +kernel
theorem dX10_story_96 : decode cX10_story 96 = .ok (.iload 4, 2) := by decide +kernel
theorem dX10_story_98 : decode cX10_story 98 = .ok (.iaload, 1) := by decide +kernel
theorem dX10_story_99 : decode cX10_story 99 = .ok (.aload_n 0, 1) := by decide +kernel
theorem dX10_story_100 : decode cX10_story 100 = .ok (.getfield 123, 3) := by decide +kernel
theorem dX10_story_103 : decode cX10_story 103 = .ok (.iload_n 3, 1) := by decide +kernel
theorem dX10_story_104 : decode cX10_story 104 = .ok (.iaload, 1) := by decide +kernel
theorem dX10_story_105 : decode cX10_story 105 = .ok (.iconst 1, 1) := by decide +kernel
theorem dX10_story_106 : decode cX10_story 106 = .ok (.iadd, 1) := by decide +kernel
theorem dX10_story_107 : decode cX10_story 107 = .ok (.invokestatic 337, 3) := by decide +kernel
theorem dX10_story_110 : decode cX10_story 110 = .ok (.iastore, 1) := by decide +kernel
theorem dX10_story_111 : decode cX10_story 111 = .ok (.iinc 4 1, 3) := by decide +kernel
theorem dX10_story_114 : decode cX10_story 114 = .ok (.goto (-54), 3) := by decide +kernel
theorem dX10_story_117 : decode cX10_story 117 = .ok (.iinc 2 1, 3) := by decide +kernel
theorem dX10_story_120 : decode cX10_story 120 = .ok (.goto (-90), 3) := by decide +kernel
theorem dX10_story_123 : decode cX10_story 123 = .ok (.iload_n 1, 1) := by decide +kernel
theorem dX10_story_124 : decode cX10_story 124 = .ok (.ireturn, 1) := by decide +kernel
def fX10_story_b60 (n : Nat) (K30 : Nat → Int32 → Int32 → qH → Option (Int32 × qH)) : Nat → Nat → Int32 → Int32 → Int32 → Int32 → qH → Option (Int32 × qH)
  | 0, _, _, _, _, _, _ => none
  | w + 1, v0, v1, v2, v3, v4, h =>
    (gR h v0 10 10).bind fun x1 =>
    (aI .int h x1 0).bind fun x3 =>
    if x3 ≤ v4 then
    (K30 v0 v1 (v2 + 1) h)
    else
    ((gR h v0 10 15).bind fun x6 =>
    (aI .int h x6 v3).bind fun x8 =>
    if ((x8 >>> (v4 &&& 31)) &&& 1) = 1 then
    ((gR h v0 10 50).bind fun x11 =>
    (gR h v0 10 50).bind fun x13 =>
    (aI .int h x13 v4).bind fun x15 =>
    (gR h v0 10 50).bind fun x17 =>
    (aI .int h x17 v3).bind fun x19 =>
    (sI .int h x11 v4 (if x15 < (x19 + 1) then (x19 + 1) else x15)).bind fun h21 =>
    fX10_story_b60 n K30 w v0 v1 v2 v3 (v4 + 1) h21)
    else
    (fX10_story_b60 n K30 w v0 v1 v2 v3 (v4 + 1) h))
set_option maxHeartbeats 4000000 in
set_option maxRecDepth 100000 in
theorem okX10_story_b60 {l : Launch} {n : Nat} {K30 : Nat → Int32 → Int32 → qH → Option (Int32 × qH)} {r : Int32} {h' : qH} (hK30 : ∀ (v0 : Nat) (v1 : Int32) (v2 : Int32) (h : qH), K30 v0 v1 v2 h = some (r, h') → q_W l 2 yX10_story cX10_story 5 (some .int) (some (.int r)) h' 30 [(0, .ref v0), (1, .int v1), (2, .int v2)] [] h) : ∀ (w : Nat) (v0 : Nat) (v1 : Int32) (v2 : Int32) (v3 : Int32) (v4 : Int32) (h : qH), fX10_story_b60 n K30 w v0 v1 v2 v3 v4 h = some (r, h') → q_W l 2 yX10_story cX10_story 5 (some .int) (some (.int r)) h' 60 [(0, .ref v0), (1, .int v1), (2, .int v2), (3, .int v3), (4, .int v4)] [] h := by
  intro w
  induction w with
  | zero => intro v0 v1 v2 v3 v4 h hyp; cases hyp
  | succ w ih =>
    intro v0 v1 v2 v3 v4 h hyp
    unfold fX10_story_b60 at hyp
    refine q_iload 4 rfl dX10_story_60 ?_
    refine q_aload_n 0 rfl dX10_story_62 ?_
    refine q_bind hyp (fun x1 e2 hyp => ?_)
    refine q_getR kF_X10_13 dX10_story_63 e2 ?_
    refine q_iconst (x := 0) rfl dX10_story_66 ?_
    refine q_bind hyp (fun x3 e4 hyp => ?_)
    refine q_iald dX10_story_67 e4 ?_
    refine q_icmp_ge (tgt := 117) dX10_story_68 (by decide) (fun c5 => ?_) (fun c5 => ?_)
    · have hyp := q_pos c5 hyp
      refine q_iinc (ls' := [(2, .int (v2 + 1)), (0, .ref v0), (1, .int v1), (3, .int v3), (4, .int v4)]) 2 rfl rfl (by decide) rfl dX10_story_117 ?_
      refine q_goto (tgt := 30) dX10_story_120 (by decide) ?_
      exact q_sub [1, 2, 0] rfl (hK30 v0 v1 (v2 + 1) h hyp)
    · have hyp := q_neg c5 hyp
      refine q_aload_n 0 rfl dX10_story_71 ?_
      refine q_bind hyp (fun x6 e7 hyp => ?_)
      refine q_getR kF_X10_29 dX10_story_72 e7 ?_
      refine q_iload_n 3 rfl dX10_story_75 ?_
      refine q_bind hyp (fun x8 e9 hyp => ?_)
      refine q_iald dX10_story_76 e9 ?_
      refine q_iload 4 rfl dX10_story_77 ?_
      refine q_ishr dX10_story_79 ?_
      refine q_iconst (x := 1) rfl dX10_story_80 ?_
      refine q_iand dX10_story_81 ?_
      refine q_iconst (x := 1) rfl dX10_story_82 ?_
      refine q_icmp_ne (tgt := 111) dX10_story_83 (by decide) (fun c10 => ?_) (fun c10 => ?_)
      · have hyp := q_neg c10 hyp
        refine q_iinc (ls' := [(4, .int (v4 + 1)), (0, .ref v0), (1, .int v1), (2, .int v2), (3, .int v3)]) 4 rfl rfl (by decide) rfl dX10_story_111 ?_
        refine q_goto (tgt := 60) dX10_story_114 (by decide) ?_
        exact q_sub [1, 2, 3, 4, 0] rfl (ih v0 v1 v2 v3 (v4 + 1) h hyp)
      · have hyp := q_pos c10 hyp
        refine q_aload_n 0 rfl dX10_story_86 ?_
        refine q_bind hyp (fun x11 e12 hyp => ?_)
        refine q_getR kF_X10_123 dX10_story_87 e12 ?_
        refine q_iload 4 rfl dX10_story_90 ?_
        refine q_aload_n 0 rfl dX10_story_92 ?_
        refine q_bind hyp (fun x13 e14 hyp => ?_)
        refine q_getR kF_X10_123 dX10_story_93 e14 ?_
        refine q_iload 4 rfl dX10_story_96 ?_
        refine q_bind hyp (fun x15 e16 hyp => ?_)
        refine q_iald dX10_story_98 e16 ?_
        refine q_aload_n 0 rfl dX10_story_99 ?_
        refine q_bind hyp (fun x17 e18 hyp => ?_)
        refine q_getR kF_X10_123 dX10_story_100 e18 ?_
        refine q_iload_n 3 rfl dX10_story_103 ?_
        refine q_bind hyp (fun x19 e20 hyp => ?_)
        refine q_iald dX10_story_104 e20 ?_
        refine q_iconst (x := 1) rfl dX10_story_105 ?_
        refine q_iadd dX10_story_106 ?_
        refine q_max kL_X10_337 kS_max kZ_math kD_max (by decide) (Nat.le_of_ble_eq_true rfl) dX10_story_107 ?_
        refine q_bind hyp (fun h21 e22 hyp => ?_)
        refine q_iast dX10_story_110 e22 ?_
        refine q_iinc (ls' := [(4, .int (v4 + 1)), (0, .ref v0), (1, .int v1), (2, .int v2), (3, .int v3)]) 4 rfl rfl (by decide) rfl dX10_story_111 ?_
        refine q_goto (tgt := 60) dX10_story_114 (by decide) ?_
        exact q_sub [1, 2, 3, 4, 0] rfl (ih v0 v1 v2 v3 (v4 + 1) h21 hyp)
def fX10_story_b30 (n : Nat) : Nat → Nat → Int32 → Int32 → qH → Option (Int32 × qH)
  | 0, _, _, _, _ => none
  | w + 1, v0, v1, v2, h =>
    (gR h v0 10 10).bind fun x1 =>
    (aI .int h x1 0).bind fun x3 =>
    if x3 ≤ v2 then
    (some (v1, h))
    else
    ((fX10_byYears n v0 v2 h).bind fun p6 =>
    (gR p6.2 v0 10 50).bind fun x7 =>
    (aI .int p6.2 x7 p6.1).bind fun x9 =>
    fX10_story_b60 n (fX10_story_b30 n w) n v0 (if v1 < x9 then x9 else v1) v2 p6.1 0 p6.2)
set_option maxHeartbeats 4000000 in
set_option maxRecDepth 100000 in
theorem okX10_story_b30 {l : Launch} {n : Nat} {r : Int32} {h' : qH} : ∀ (w : Nat) (v0 : Nat) (v1 : Int32) (v2 : Int32) (h : qH), fX10_story_b30 n w v0 v1 v2 h = some (r, h') → q_W l 2 yX10_story cX10_story 5 (some .int) (some (.int r)) h' 30 [(0, .ref v0), (1, .int v1), (2, .int v2)] [] h := by
  intro w
  induction w with
  | zero => intro v0 v1 v2 h hyp; cases hyp
  | succ w ih =>
    intro v0 v1 v2 h hyp
    unfold fX10_story_b30 at hyp
    refine q_iload_n 2 rfl dX10_story_30 ?_
    refine q_aload_n 0 rfl dX10_story_31 ?_
    refine q_bind hyp (fun x1 e2 hyp => ?_)
    refine q_getR kF_X10_13 dX10_story_32 e2 ?_
    refine q_iconst (x := 0) rfl dX10_story_35 ?_
    refine q_bind hyp (fun x3 e4 hyp => ?_)
    refine q_iald dX10_story_36 e4 ?_
    refine q_icmp_ge (tgt := 123) dX10_story_37 (by decide) (fun c5 => ?_) (fun c5 => ?_)
    · have hyp := q_pos c5 hyp
      refine q_iload_n 1 rfl dX10_story_123 ?_
      exact q_iretH rfl rfl dX10_story_124 hyp
    · have hyp := q_neg c5 hyp
      refine q_aload_n 0 rfl dX10_story_40 ?_
      refine q_iload_n 2 rfl dX10_story_41 ?_
      refine q_bind hyp (fun p6 e11 hyp => ?_)
      refine q_callV (as := [.int v2]) (st := []) kY_X10_byYears kL_X10_403 (okX10_byYears (l := l) e11) (by decide) rfl (obX10_byYears e11) (Nat.le_of_ble_eq_true rfl) dX10_story_42 ?_
      refine q_to (ls' := [(0, .ref v0), (1, .int v1), (2, .int v2)]) (st' := [.int p6.1]) rfl rfl ?_
      refine q_istore_n (ls' := [(3, .int p6.1), (0, .ref v0), (1, .int v1), (2, .int v2)]) (by decide) rfl dX10_story_45 ?_
      refine q_iload_n 2 rfl dX10_story_46 ?_
      refine q_aload_n 1 rfl dX10_story_47 ?_
      refine q_bind hyp (fun x7 e8 hyp => ?_)
      refine q_getR kF_X10_123 dX10_story_48 e8 ?_
      refine q_iload_n 0 rfl dX10_story_51 ?_
      refine q_bind hyp (fun x9 e10 hyp => ?_)
      refine q_iald dX10_story_52 e10 ?_
      refine q_max kL_X10_337 kS_max kZ_math kD_max (by decide) (Nat.le_of_ble_eq_true rfl) dX10_story_53 ?_
      refine q_istore_n (ls' := [(1, .int (if v1 < x9 then x9 else v1)), (3, .int p6.1), (0, .ref v0), (2, .int v2)]) (by decide) rfl dX10_story_56 ?_
      refine q_iconst (x := 0) rfl dX10_story_57 ?_
      refine q_istore (ls' := [(4, .int 0), (1, .int (if v1 < x9 then x9 else v1)), (3, .int p6.1), (0, .ref v0), (2, .int v2)]) (by decide) rfl dX10_story_58 ?_
      exact q_sub [3, 1, 4, 2, 0] rfl (okX10_story_b60 ih _ v0 (if v1 < x9 then x9 else v1) v2 p6.1 0 p6.2 hyp)
def fX10_story_b9 (n : Nat) : Nat → Nat → Int32 → Int32 → qH → Option (Int32 × qH)
  | 0, _, _, _, _ => none
  | w + 1, v0, v1, v2, h =>
    if 7 ≤ v2 then
    (fX10_story_b30 n n v0 v1 0 h)
    else
    ((gR h v0 10 50).bind fun x2 =>
    (sI .int h x2 v2 1).bind fun h4 =>
    fX10_story_b9 n w v0 v1 (v2 + 1) h4)
set_option maxHeartbeats 4000000 in
set_option maxRecDepth 100000 in
theorem okX10_story_b9 {l : Launch} {n : Nat} {r : Int32} {h' : qH} : ∀ (w : Nat) (v0 : Nat) (v1 : Int32) (v2 : Int32) (h : qH), fX10_story_b9 n w v0 v1 v2 h = some (r, h') → q_W l 2 yX10_story cX10_story 5 (some .int) (some (.int r)) h' 9 [(0, .ref v0), (1, .int v1), (2, .int v2)] [] h := by
  intro w
  induction w with
  | zero => intro v0 v1 v2 h hyp; cases hyp
  | succ w ih =>
    intro v0 v1 v2 h hyp
    unfold fX10_story_b9 at hyp
    refine q_iload_n 2 rfl dX10_story_9 ?_
    refine q_bipush (x := 7) (by decide) dX10_story_10 ?_
    refine q_icmp_ge (tgt := 28) dX10_story_12 (by decide) (fun c1 => ?_) (fun c1 => ?_)
    · have hyp := q_pos c1 hyp
      refine q_iconst (x := 0) rfl dX10_story_28 ?_
      refine q_istore_n (ls' := [(2, .int 0), (0, .ref v0), (1, .int v1)]) (by decide) rfl dX10_story_29 ?_
      exact q_sub [1, 2, 0] rfl (okX10_story_b30 _ v0 v1 0 h hyp)
    · have hyp := q_neg c1 hyp
      refine q_aload_n 0 rfl dX10_story_15 ?_
      refine q_bind hyp (fun x2 e3 hyp => ?_)
      refine q_getR kF_X10_123 dX10_story_16 e3 ?_
      refine q_iload_n 2 rfl dX10_story_19 ?_
      refine q_iconst (x := 1) rfl dX10_story_20 ?_
      refine q_bind hyp (fun h4 e5 hyp => ?_)
      refine q_iast dX10_story_21 e5 ?_
      refine q_iinc (ls' := [(2, .int (v2 + 1)), (0, .ref v0), (1, .int v1)]) 2 rfl rfl (by decide) rfl dX10_story_22 ?_
      refine q_goto (tgt := 9) dX10_story_25 (by decide) ?_
      exact q_sub [1, 2, 0] rfl (ih v0 v1 (v2 + 1) h4 hyp)
def fX10_story (n : Nat) (v0 : Nat) (h : qH) : Option (Int32 × qH) :=
  (isO h v0 10).bind fun _ =>
  (pF h v0 10 0 (.int 0)).bind fun h1 =>
  fX10_story_b9 n n v0 0 0 h1
theorem obX10_story {n : Nat} {v0 : Nat} {h : qH} {p : Int32 × qH} (hyp : fX10_story n v0 h = some p) : ∃ fs, h.1 v0 = some (.inr (10, fs)) := by
  unfold fX10_story at hyp
  exact q_bind hyp (fun _ e _ => isO_some e)
set_option maxHeartbeats 4000000 in
set_option maxRecDepth 100000 in
theorem okX10_story {l : Launch} {n : Nat} {v0 : Nat} {h : qH} {p : Int32 × qH} (hyp : fX10_story n v0 h = some p) : q_M l 2 yX10_story cX10_story 5 (some .int) [.ref v0] h (some (.int p.1)) p.2 := by
  obtain ⟨r, h'⟩ := p
  unfold fX10_story at hyp
  refine q_bind hyp (fun _ _ hyp => ?_)
  refine q_M.of (by decide) (Nat.le_of_ble_eq_true rfl) ?_
  refine q_to (ls' := [(0, .ref v0)]) (st' := []) rfl rfl ?_
  refine q_aload_n 0 rfl dX10_story_0 ?_
  refine q_iconst (x := 0) rfl dX10_story_1 ?_
  refine q_bind hyp (fun h1 e2 hyp => ?_)
  refine q_putF kF_X10_136 (fun _ => ⟨rfl, rfl⟩) dX10_story_2 e2 ?_
  refine q_iconst (x := 0) rfl dX10_story_5 ?_
  refine q_istore_n (ls' := [(1, .int 0), (0, .ref v0)]) (by decide) rfl dX10_story_6 ?_
  refine q_iconst (x := 0) rfl dX10_story_7 ?_
  refine q_istore_n (ls' := [(2, .int 0), (1, .int 0), (0, .ref v0)]) (by decide) rfl dX10_story_8 ?_
  exact q_sub [2, 1, 0] rfl (okX10_story_b9 _ v0 0 0 h1 hyp)
theorem dX10_who_0 : decode cX10_who 0 = .ok (.aload_n 0, 1) := by decide +kernel
theorem dX10_who_1 : decode cX10_who 1 = .ok (.iconst 0, 1) := by decide +kernel
theorem dX10_who_2 : decode cX10_who 2 = .ok (.putfield 136, 3) := by decide +kernel
theorem dX10_who_5 : decode cX10_who 5 = .ok (.aload_n 0, 1) := by decide +kernel
theorem dX10_who_6 : decode cX10_who 6 = .ok (.invokevirtual 409, 3) := by decide +kernel
theorem dX10_who_9 : decode cX10_who 9 = .ok (.iconst 0, 1) := by decide +kernel
theorem dX10_who_10 : decode cX10_who 10 = .ok (.istore_n 1, 1) := by decide +kernel
theorem dX10_who_11 : decode cX10_who 11 = .ok (.iconst 0, 1) := by decide +kernel
theorem dX10_who_12 : decode cX10_who 12 = .ok (.istore_n 2, 1) := by decide +kernel
theorem dX10_who_13 : decode cX10_who 13 = .ok (.iload_n 2, 1) := by decide +kernel
theorem dX10_who_14 : decode cX10_who 14 = .ok (.aload_n 0, 1) := by decide +kernel
theorem dX10_who_15 : decode cX10_who 15 = .ok (.getfield 13, 3) := by decide +kernel
theorem dX10_who_18 : decode cX10_who 18 = .ok (.iconst 0, 1) := by decide +kernel
theorem dX10_who_19 : decode cX10_who 19 = .ok (.iaload, 1) := by decide +kernel
theorem dX10_who_20 : decode cX10_who 20 = .ok (.if_icmp .ge 27, 3) := by decide +kernel
theorem dX10_who_23 : decode cX10_who 23 = .ok (.iload_n 1, 1) := by decide +kernel
theorem dX10_who_24 : decode cX10_who 24 = .ok (.aload_n 0, 1) := by decide +kernel
theorem dX10_who_25 : decode cX10_who 25 = .ok (.iload_n 2, 1) := by decide +kernel
theorem dX10_who_26 : decode cX10_who 26 = .ok (.invokevirtual 412, 3) := by decide +kernel
theorem dX10_who_29 : decode cX10_who 29 = .ok (.ifCond .eq 9, 3) := by decide +kernel
theorem dX10_who_32 : decode cX10_who 32 = .ok (.iconst 1, 1) := by decide +kernel
theorem dX10_who_33 : decode cX10_who 33 = .ok (.iload_n 2, 1) := by decide +kernel
theorem dX10_who_34 : decode cX10_who 34 = .ok (.ishl, 1) := by decide +kernel
theorem dX10_who_35 : decode cX10_who 35 = .ok (.goto 4, 3) := by decide +kernel
theorem dX10_who_38 : decode cX10_who 38 = .ok (.iconst 0, 1) := by decide +kernel
theorem dX10_who_39 : decode cX10_who 39 = .ok (.ior, 1) := by decide +kernel
theorem dX10_who_40 : decode cX10_who 40 = .ok (.istore_n 1, 1) := by decide +kernel
theorem dX10_who_41 : decode cX10_who 41 = .ok (.iinc 2 1, 3) := by decide +kernel
theorem dX10_who_44 : decode cX10_who 44 = .ok (.goto (-31), 3) := by decide +kernel
theorem dX10_who_47 : decode cX10_who 47 = .ok (.iload_n 1, 1) := by decide +kernel
theorem dX10_who_48 : decode cX10_who 48 = .ok (.ireturn, 1) := by decide +kernel
def fX10_who_b13 (n : Nat) : Nat → Nat → Int32 → Int32 → qH → Option (Int32 × qH)
  | 0, _, _, _, _ => none
  | w + 1, v0, v1, v2, h =>
    (gR h v0 10 10).bind fun x1 =>
    (aI .int h x1 0).bind fun x3 =>
    if x3 ≤ v2 then
    (some (v1, h))
    else
    ((fX10_isAsSeen n v0 v2 h).bind fun p6 =>
    if p6.1 = 0 then
    (fX10_who_b13 n w v0 (v1 ||| 0) (v2 + 1) p6.2)
    else
    (fX10_who_b13 n w v0 (v1 ||| ((1 : Int32) <<< (v2 &&& 31))) (v2 + 1) p6.2))
set_option maxHeartbeats 4000000 in
set_option maxRecDepth 100000 in
theorem okX10_who_b13 {l : Launch} {n : Nat} {r : Int32} {h' : qH} : ∀ (w : Nat) (v0 : Nat) (v1 : Int32) (v2 : Int32) (h : qH), fX10_who_b13 n w v0 v1 v2 h = some (r, h') → q_W l 7 yX10_who cX10_who 3 (some .int) (some (.int r)) h' 13 [(0, .ref v0), (1, .int v1), (2, .int v2)] [] h := by
  intro w
  induction w with
  | zero => intro v0 v1 v2 h hyp; cases hyp
  | succ w ih =>
    intro v0 v1 v2 h hyp
    unfold fX10_who_b13 at hyp
    refine q_iload_n 2 rfl dX10_who_13 ?_
    refine q_aload_n 0 rfl dX10_who_14 ?_
    refine q_bind hyp (fun x1 e2 hyp => ?_)
    refine q_getR kF_X10_13 dX10_who_15 e2 ?_
    refine q_iconst (x := 0) rfl dX10_who_18 ?_
    refine q_bind hyp (fun x3 e4 hyp => ?_)
    refine q_iald dX10_who_19 e4 ?_
    refine q_icmp_ge (tgt := 47) dX10_who_20 (by decide) (fun c5 => ?_) (fun c5 => ?_)
    · have hyp := q_pos c5 hyp
      refine q_iload_n 1 rfl dX10_who_47 ?_
      exact q_iretH rfl rfl dX10_who_48 hyp
    · have hyp := q_neg c5 hyp
      refine q_iload_n 1 rfl dX10_who_23 ?_
      refine q_aload_n 0 rfl dX10_who_24 ?_
      refine q_iload_n 2 rfl dX10_who_25 ?_
      refine q_bind hyp (fun p6 e8 hyp => ?_)
      refine q_callV (as := [.int v2]) (st := [.int v1]) kY_X10_isAsSeen kL_X10_412 (okX10_isAsSeen (l := l) e8) (by decide) rfl (obX10_isAsSeen e8) (Nat.le_of_ble_eq_true rfl) dX10_who_26 ?_
      refine q_to (ls' := [(0, .ref v0), (1, .int v1), (2, .int v2)]) (st' := [.int p6.1, .int v1]) rfl rfl ?_
      refine q_if_eq (tgt := 38) dX10_who_29 (by decide) (fun c7 => ?_) (fun c7 => ?_)
      · have hyp := q_pos c7 hyp
        refine q_iconst (x := 0) rfl dX10_who_38 ?_
        refine q_ior dX10_who_39 ?_
        refine q_istore_n (ls' := [(1, .int (v1 ||| 0)), (0, .ref v0), (2, .int v2)]) (by decide) rfl dX10_who_40 ?_
        refine q_iinc (ls' := [(2, .int (v2 + 1)), (1, .int (v1 ||| 0)), (0, .ref v0)]) 2 rfl rfl (by decide) rfl dX10_who_41 ?_
        refine q_goto (tgt := 13) dX10_who_44 (by decide) ?_
        exact q_sub [2, 1, 0] rfl (ih v0 (v1 ||| 0) (v2 + 1) p6.2 hyp)
      · have hyp := q_neg c7 hyp
        refine q_iconst (x := 1) rfl dX10_who_32 ?_
        refine q_iload_n 2 rfl dX10_who_33 ?_
        refine q_ishl dX10_who_34 ?_
        refine q_goto (tgt := 39) dX10_who_35 (by decide) ?_
        refine q_ior dX10_who_39 ?_
        refine q_istore_n (ls' := [(1, .int (v1 ||| ((1 : Int32) <<< (v2 &&& 31)))), (0, .ref v0), (2, .int v2)]) (by decide) rfl dX10_who_40 ?_
        refine q_iinc (ls' := [(2, .int (v2 + 1)), (1, .int (v1 ||| ((1 : Int32) <<< (v2 &&& 31)))), (0, .ref v0)]) 2 rfl rfl (by decide) rfl dX10_who_41 ?_
        refine q_goto (tgt := 13) dX10_who_44 (by decide) ?_
        exact q_sub [2, 1, 0] rfl (ih v0 (v1 ||| ((1 : Int32) <<< (v2 &&& 31))) (v2 + 1) p6.2 hyp)
def fX10_who (n : Nat) (v0 : Nat) (h : qH) : Option (Int32 × qH) :=
  (isO h v0 10).bind fun _ =>
  (pF h v0 10 0 (.int 0)).bind fun h1 =>
  (fX10_laysSours n v0 h1).bind fun h3 =>
  fX10_who_b13 n n v0 0 0 h3
theorem obX10_who {n : Nat} {v0 : Nat} {h : qH} {p : Int32 × qH} (hyp : fX10_who n v0 h = some p) : ∃ fs, h.1 v0 = some (.inr (10, fs)) := by
  unfold fX10_who at hyp
  exact q_bind hyp (fun _ e _ => isO_some e)
set_option maxHeartbeats 4000000 in
set_option maxRecDepth 100000 in
theorem okX10_who {l : Launch} {n : Nat} {v0 : Nat} {h : qH} {p : Int32 × qH} (hyp : fX10_who n v0 h = some p) : q_M l 7 yX10_who cX10_who 3 (some .int) [.ref v0] h (some (.int p.1)) p.2 := by
  obtain ⟨r, h'⟩ := p
  unfold fX10_who at hyp
  refine q_bind hyp (fun _ _ hyp => ?_)
  refine q_M.of (by decide) (Nat.le_of_ble_eq_true rfl) ?_
  refine q_to (ls' := [(0, .ref v0)]) (st' := []) rfl rfl ?_
  refine q_aload_n 0 rfl dX10_who_0 ?_
  refine q_iconst (x := 0) rfl dX10_who_1 ?_
  refine q_bind hyp (fun h1 e2 hyp => ?_)
  refine q_putF kF_X10_136 (fun _ => ⟨rfl, rfl⟩) dX10_who_2 e2 ?_
  refine q_aload_n 0 rfl dX10_who_5 ?_
  refine q_bind hyp (fun h3 e4 hyp => ?_)
  refine q_callV (as := []) (st := []) kY_X10_laysSours kL_X10_409 (okX10_laysSours (l := l) e4) (by decide) rfl (obX10_laysSours e4) (Nat.le_of_ble_eq_true rfl) dX10_who_6 ?_
  refine q_to (ls' := [(0, .ref v0)]) (st' := []) rfl rfl ?_
  refine q_iconst (x := 0) rfl dX10_who_9 ?_
  refine q_istore_n (ls' := [(1, .int 0), (0, .ref v0)]) (by decide) rfl dX10_who_10 ?_
  refine q_iconst (x := 0) rfl dX10_who_11 ?_
  refine q_istore_n (ls' := [(2, .int 0), (1, .int 0), (0, .ref v0)]) (by decide) rfl dX10_who_12 ?_
  exact q_sub [2, 1, 0] rfl (okX10_who_b13 _ v0 0 0 h3 hyp)
theorem dX10_taste_0 : decode cX10_taste 0 = .ok (.aload_n 0, 1) := by decide +kernel
theorem dX10_taste_1 : decode cX10_taste 1 = .ok (.iconst 0, 1) := by decide +kernel
theorem dX10_taste_2 : decode cX10_taste 2 = .ok (.putfield 136, 3) := by decide +kernel
theorem dX10_taste_5 : decode cX10_taste 5 = .ok (.aload_n 0, 1) := by decide +kernel
theorem dX10_taste_6 : decode cX10_taste 6 = .ok (.invokevirtual 415, 3) := by decide +kernel
theorem dX10_taste_9 : decode cX10_taste 9 = .ok (.istore_n 1, 1) := by decide +kernel
theorem dX10_taste_10 : decode cX10_taste 10 = .ok (.iload_n 1, 1) := by decide +kernel
theorem dX10_taste_11 : decode cX10_taste 11 = .ok (.invokestatic 371, 3) := by decide +kernel
theorem dX10_taste_14 : decode cX10_taste 14 = .ok (.istore_n 2, 1) := by decide +kernel
theorem dX10_taste_15 : decode cX10_taste 15 = .ok (.iload_n 2, 1) := by decide +kernel
theorem dX10_taste_16 : decode cX10_taste 16 = .ok (.istore_n 3, 1) := by decide +kernel
theorem dX10_taste_17 : decode cX10_taste 17 = .ok (.iconst (-1), 1) := by decide +kernel
theorem dX10_taste_18 : decode cX10_taste 18 = .ok (.istore 4, 2) := by decide +kernel
theorem dX10_taste_20 : decode cX10_taste 20 = .ok (.iconst 0, 1) := by decide +kernel
theorem dX10_taste_21 : decode cX10_taste 21 = .ok (.istore 5, 2) := by decide +kernel
theorem dX10_taste_23 : decode cX10_taste 23 = .ok (.iload 5, 2) := by decide +kernel
theorem dX10_taste_25 : decode cX10_taste 25 = .ok (.bipush 10, 2) := by decide +kernel
theorem dX10_taste_27 : decode cX10_taste 27 = .ok (.if_icmp .ge 119, 3) := by decide +kernel
theorem dX10_taste_30 : decode cX10_taste 30 = .ok (.iconst 0, 1) := by decide +kernel
theorem dX10_taste_31 : decode cX10_taste 31 = .ok (.istore 6, 2) := by decide +kernel
theorem dX10_taste_33 : decode cX10_taste 33 = .ok (.iload 6, 2) := by decide +kernel
theorem dX10_taste_35 : decode cX10_taste 35 = .ok (.bipush 41, 2) := by decide +kernel
theorem dX10_taste_37 : decode cX10_taste 37 = .ok (.if_icmp .ge 103, 3) := by decide +kernel
theorem dX10_taste_40 : decode cX10_taste 40 = .ok (.iconst 0, 1) := by decide +kernel
theorem dX10_taste_41 : decode cX10_taste 41 = .ok (.istore 7, 2) := by decide +kernel
theorem dX10_taste_43 : decode cX10_taste 43 = .ok (.iconst 0, 1) := by decide +kernel
theorem dX10_taste_44 : decode cX10_taste 44 = .ok (.istore 8, 2) := by decide +kernel
theorem dX10_taste_46 : decode cX10_taste 46 = .ok (.iload 8, 2) := by decide +kernel
theorem dX10_taste_48 : decode cX10_taste 48 = .ok (.aload_n 0, 1) := by decide +kernel
theorem dX10_taste_49 : decode cX10_taste 49 = .ok (.getfield 13, 3) := by decide +kernel
theorem dX10_taste_52 : decode cX10_taste 52 = .ok (.iconst 0, 1) := by decide +kernel
theorem dX10_taste_53 : decode cX10_taste 53 = .ok (.iaload, 1) := by decide +kernel
theorem dX10_taste_54 : decode cX10_taste 54 = .ok (.if_icmp .ge 47, 3) := by decide +kernel
theorem dX10_taste_57 : decode cX10_taste 57 = .ok (.iload 7, 2) := by decide +kernel
theorem dX10_taste_59 : decode cX10_taste 59 = .ok (.iload_n 1, 1) := by decide +kernel
theorem dX10_taste_60 : decode cX10_taste 60 = .ok (.iload 8, 2) := by decide +kernel
theorem dX10_taste_62 : decode cX10_taste 62 = .ok (.ishr, 1) := by decide +kernel
theorem dX10_taste_63 : decode cX10_taste 63 = .ok (.iconst 1, 1) := by decide +kernel
theorem dX10_taste_64 : decode cX10_taste 64 = .ok (.iand, 1) := by decide +kernel
theorem dX10_taste_65 : decode cX10_taste 65 = .ok (.iconst 1, 1) := by decide +kernel
theorem dX10_taste_66 : decode cX10_taste 66 = .ok (.if_icmp .ne 25, 3) := by decide +kernel
theorem dX10_taste_69 : decode cX10_taste 69 = .ok (.aload_n 0, 1) := by decide +kernel
theorem dX10_taste_70 : decode cX10_taste 70 = .ok (.getfield 126, 3) := by decide +kernel
theorem dX10_taste_73 : decode cX10_taste 73 = .ok (.bipush 10, 2) := by decide +kernel
theorem dX10_taste_75 : decode cX10_taste 75 = .ok (.iload 8, 2) := by decide +kernel
theorem dX10_taste_77 : decode cX10_taste 77 = .ok (.imul, 1) := by decide +kernel
theorem dX10_taste_78 : decode cX10_taste 78 = .ok (.iload 5, 2) := by decide +kernel
theorem dX10_taste_80 : decode cX10_taste 80 = .ok (.iadd, 1) := by decide +kernel
theorem dX10_taste_81 : decode cX10_taste 81 = .ok (.iaload, 1) := by decide +kernel
theorem dX10_taste_82 : decode cX10_taste 82 = .ok (.iload 6, 2) := by decide +kernel
theorem dX10_taste_84 : decode cX10_taste 84 = .ok (.if_icmp .gt 7, 3) := by decide +kernel
theorem dX10_taste_87 : decode cX10_taste 87 = .ok (.iconst 1, 1) := by decide +kernel
theorem dX10_taste_88 : decode cX10_taste 88 = .ok (.goto 4, 3) := by decide +kernel
theorem dX10_taste_91 : decode cX10_taste 91 = .ok (.iconst 0, 1) := by decide +kernel
theorem dX10_taste_92 : decode cX10_taste 92 = .ok (.iadd, 1) := by decide +kernel
theorem dX10_taste_93 : decode cX10_taste 93 = .ok (.istore 7, 2) := by decide +kernel
theorem dX10_taste_95 : decode cX10_taste 95 = .ok (.iinc 8 1, 3) := by decide +kernel
theorem dX10_taste_98 : decode cX10_taste 98 = .ok (.goto (-52), 3) := by decide +kernel
theorem dX10_taste_101 : decode cX10_taste 101 = .ok (.iload 7, 2) := by decide +kernel
theorem dX10_taste_103 : decode cX10_taste 103 = .ok (.iload_n 2, 1) := by decide +kernel
theorem dX10_taste_104 : decode cX10_taste 104 = .ok (.iload 7, 2) := by decide +kernel
theorem dX10_taste_106 : decode cX10_taste 106 = .ok (.isub, 1) := by decide +kernel
theorem dX10_taste_107 : decode cX10_taste 107 = .ok (.invokestatic 337, 3) := by decide +kernel
theorem dX10_taste_110 : decode cX10_taste 110 = .ok (.istore 7, 2) := by decide +kernel
theorem dX10_taste_112 : decode cX10_taste 112 = .ok (.iload 7, 2) := by decide +kernel
theorem dX10_taste_114 : decode cX10_taste 114 = .ok (.iload_n 3, 1) := by decide +kernel
theorem dX10_taste_115 : decode cX10_taste 115 = .ok (.if_icmp .lt 6, 3) := by decide +kernel
theorem dX10_taste_118 : decode cX10_taste 118 = .ok (.goto 16, 3) := by decide +kernel
theorem dX10_taste_121 : decode cX10_taste 121 = .ok (.iload 7, 2) := by decide +kernel
theorem dX10_taste_123 : decode cX10_taste 123 = .ok (.istore_n 3, 1) := by decide +kernel
theorem dX10_taste_124 : decode cX10_taste 124 = .ok (.bipush 100, 2) := by decide +kernel
theorem dX10_taste_126 : decode cX10_taste 126 = .ok (.iload 5, 2) := by decide +kernel
theorem dX10_taste_128 : decode cX10_taste 128 = .ok (.imul, 1) := by decide +kernel
theorem dX10_taste_129 : decode cX10_taste 129 = .ok (.iload 6, 2) := by decide +kernel
theorem dX10_taste_131 : decode cX10_taste 131 = .ok (.iadd, 1) := by decide +kernel
theorem dX10_taste_132 : decode cX10_taste 132 = .ok (.istore 4, 2) := by decide +kernel
theorem dX10_taste_134 : decode cX10_taste 134 = .ok (.iinc 6 1, 3) := by decide +kernel
theorem dX10_taste_137 : decode cX10_taste 137 = .ok (.goto (-104), 3) := by decide +kernel
theorem dX10_taste_140 : decode cX10_taste 140 = .ok (.iinc 5 1, 3) := by decide +kernel
theorem dX10_taste_143 : decode cX10_taste 143 = .ok (.goto (-120), 3) := by decide +kernel
theorem dX10_taste_146 : decode cX10_taste 146 = .ok (.iload 4, 2) := by decide +kernel
theorem dX10_taste_148 : decode cX10_taste 148 = .ok (.ireturn, 1) := by decide +kernel
def fX10_taste_b46 (n : Nat) (K33 : Nat → Int32 → Int32 → Int32 → Int32 → Int32 → Int32 → qH → Option (Int32 × qH)) : Nat → Nat → Int32 → Int32 → Int32 → Int32 → Int32 → Int32 → Int32 → Int32 → qH → Option (Int32 × qH)
  | 0, _, _, _, _, _, _, _, _, _, _ => none
  | w + 1, v0, v1, v2, v3, v4, v5, v6, v7, v8, h =>
    (gR h v0 10 10).bind fun x1 =>
    (aI .int h x1 0).bind fun x3 =>
    if x3 ≤ v8 then
    (if (if v7 < (v2 - v7) then (v2 - v7) else v7) < v3 then
    (K33 v0 v1 v2 (if v7 < (v2 - v7) then (v2 - v7) else v7) ((100 * v5) + v6) v5 (v6 + 1) h)
    else
    (K33 v0 v1 v2 v3 v4 v5 (v6 + 1) h))
    else
    (if ((v1 >>> (v8 &&& 31)) &&& 1) = 1 then
    ((gR h v0 10 51).bind fun x8 =>
    (aI .int h x8 ((10 * v8) + v5)).bind fun x10 =>
    if v6 < x10 then
    (fX10_taste_b46 n K33 w v0 v1 v2 v3 v4 v5 v6 (v7 + 0) (v8 + 1) h)
    else
    (fX10_taste_b46 n K33 w v0 v1 v2 v3 v4 v5 v6 (v7 + 1) (v8 + 1) h))
    else
    (fX10_taste_b46 n K33 w v0 v1 v2 v3 v4 v5 v6 (v7 + 0) (v8 + 1) h))
set_option maxHeartbeats 4000000 in
set_option maxRecDepth 100000 in
theorem okX10_taste_b46 {l : Launch} {n : Nat} {K33 : Nat → Int32 → Int32 → Int32 → Int32 → Int32 → Int32 → qH → Option (Int32 × qH)} {r : Int32} {h' : qH} (hK33 : ∀ (v0 : Nat) (v1 : Int32) (v2 : Int32) (v3 : Int32) (v4 : Int32) (v5 : Int32) (v6 : Int32) (h : qH), K33 v0 v1 v2 v3 v4 v5 v6 h = some (r, h') → q_W l 8 yX10_taste cX10_taste 9 (some .int) (some (.int r)) h' 33 [(0, .ref v0), (1, .int v1), (2, .int v2), (3, .int v3), (4, .int v4), (5, .int v5), (6, .int v6)] [] h) : ∀ (w : Nat) (v0 : Nat) (v1 : Int32) (v2 : Int32) (v3 : Int32) (v4 : Int32) (v5 : Int32) (v6 : Int32) (v7 : Int32) (v8 : Int32) (h : qH), fX10_taste_b46 n K33 w v0 v1 v2 v3 v4 v5 v6 v7 v8 h = some (r, h') → q_W l 8 yX10_taste cX10_taste 9 (some .int) (some (.int r)) h' 46 [(0, .ref v0), (1, .int v1), (2, .int v2), (3, .int v3), (4, .int v4), (5, .int v5), (6, .int v6), (7, .int v7), (8, .int v8)] [] h := by
  intro w
  induction w with
  | zero => intro v0 v1 v2 v3 v4 v5 v6 v7 v8 h hyp; cases hyp
  | succ w ih =>
    intro v0 v1 v2 v3 v4 v5 v6 v7 v8 h hyp
    unfold fX10_taste_b46 at hyp
    refine q_iload 8 rfl dX10_taste_46 ?_
    refine q_aload_n 0 rfl dX10_taste_48 ?_
    refine q_bind hyp (fun x1 e2 hyp => ?_)
    refine q_getR kF_X10_13 dX10_taste_49 e2 ?_
    refine q_iconst (x := 0) rfl dX10_taste_52 ?_
    refine q_bind hyp (fun x3 e4 hyp => ?_)
    refine q_iald dX10_taste_53 e4 ?_
    refine q_icmp_ge (tgt := 101) dX10_taste_54 (by decide) (fun c5 => ?_) (fun c5 => ?_)
    · have hyp := q_pos c5 hyp
      refine q_iload 7 rfl dX10_taste_101 ?_
      refine q_iload_n 2 rfl dX10_taste_103 ?_
      refine q_iload 7 rfl dX10_taste_104 ?_
      refine q_isub dX10_taste_106 ?_
      refine q_max kL_X10_337 kS_max kZ_math kD_max (by decide) (Nat.le_of_ble_eq_true rfl) dX10_taste_107 ?_
      refine q_istore (ls' := [(7, .int (if v7 < (v2 - v7) then (v2 - v7) else v7)), (0, .ref v0), (1, .int v1), (2, .int v2), (3, .int v3), (4, .int v4), (5, .int v5), (6, .int v6), (8, .int v8)]) (by decide) rfl dX10_taste_110 ?_
      refine q_iload 0 rfl dX10_taste_112 ?_
      refine q_iload_n 4 rfl dX10_taste_114 ?_
      refine q_icmp_lt (tgt := 121) dX10_taste_115 (by decide) (fun c6 => ?_) (fun c6 => ?_)
      · have hyp := q_pos c6 hyp
        refine q_iload 0 rfl dX10_taste_121 ?_
        refine q_istore_n (ls' := [(3, .int (if v7 < (v2 - v7) then (v2 - v7) else v7)), (7, .int (if v7 < (v2 - v7) then (v2 - v7) else v7)), (0, .ref v0), (1, .int v1), (2, .int v2), (4, .int v4), (5, .int v5), (6, .int v6), (8, .int v8)]) (by decide) rfl dX10_taste_123 ?_
        refine q_bipush (x := 100) (by decide) dX10_taste_124 ?_
        refine q_iload 6 rfl dX10_taste_126 ?_
        refine q_imul dX10_taste_128 ?_
        refine q_iload 7 rfl dX10_taste_129 ?_
        refine q_iadd dX10_taste_131 ?_
        refine q_istore (ls' := [(4, .int ((100 * v5) + v6)), (3, .int (if v7 < (v2 - v7) then (v2 - v7) else v7)), (7, .int (if v7 < (v2 - v7) then (v2 - v7) else v7)), (0, .ref v0), (1, .int v1), (2, .int v2), (5, .int v5), (6, .int v6), (8, .int v8)]) (by decide) rfl dX10_taste_132 ?_
        refine q_iinc (ls' := [(6, .int (v6 + 1)), (4, .int ((100 * v5) + v6)), (3, .int (if v7 < (v2 - v7) then (v2 - v7) else v7)), (7, .int (if v7 < (v2 - v7) then (v2 - v7) else v7)), (0, .ref v0), (1, .int v1), (2, .int v2), (5, .int v5), (8, .int v8)]) 7 rfl rfl (by decide) rfl dX10_taste_134 ?_
        refine q_goto (tgt := 33) dX10_taste_137 (by decide) ?_
        exact q_sub [4, 5, 6, 2, 1, 7, 0] rfl (hK33 v0 v1 v2 (if v7 < (v2 - v7) then (v2 - v7) else v7) ((100 * v5) + v6) v5 (v6 + 1) h hyp)
      · have hyp := q_neg c6 hyp
        refine q_goto (tgt := 134) dX10_taste_118 (by decide) ?_
        refine q_iinc (ls' := [(6, .int (v6 + 1)), (7, .int (if v7 < (v2 - v7) then (v2 - v7) else v7)), (0, .ref v0), (1, .int v1), (2, .int v2), (3, .int v3), (4, .int v4), (5, .int v5), (8, .int v8)]) 7 rfl rfl (by decide) rfl dX10_taste_134 ?_
        refine q_goto (tgt := 33) dX10_taste_137 (by decide) ?_
        exact q_sub [2, 3, 4, 5, 6, 7, 0] rfl (hK33 v0 v1 v2 v3 v4 v5 (v6 + 1) h hyp)
    · have hyp := q_neg c5 hyp
      refine q_iload 7 rfl dX10_taste_57 ?_
      refine q_iload_n 1 rfl dX10_taste_59 ?_
      refine q_iload 8 rfl dX10_taste_60 ?_
      refine q_ishr dX10_taste_62 ?_
      refine q_iconst (x := 1) rfl dX10_taste_63 ?_
      refine q_iand dX10_taste_64 ?_
      refine q_iconst (x := 1) rfl dX10_taste_65 ?_
      refine q_icmp_ne (tgt := 91) dX10_taste_66 (by decide) (fun c7 => ?_) (fun c7 => ?_)
      · have hyp := q_neg c7 hyp
        refine q_iconst (x := 0) rfl dX10_taste_91 ?_
        refine q_iadd dX10_taste_92 ?_
        refine q_istore (ls' := [(7, .int (v7 + 0)), (0, .ref v0), (1, .int v1), (2, .int v2), (3, .int v3), (4, .int v4), (5, .int v5), (6, .int v6), (8, .int v8)]) (by decide) rfl dX10_taste_93 ?_
        refine q_iinc (ls' := [(8, .int (v8 + 1)), (7, .int (v7 + 0)), (0, .ref v0), (1, .int v1), (2, .int v2), (3, .int v3), (4, .int v4), (5, .int v5), (6, .int v6)]) 8 rfl rfl (by decide) rfl dX10_taste_95 ?_
        refine q_goto (tgt := 46) dX10_taste_98 (by decide) ?_
        exact q_sub [2, 3, 4, 5, 6, 7, 8, 1, 0] rfl (ih v0 v1 v2 v3 v4 v5 v6 (v7 + 0) (v8 + 1) h hyp)
      · have hyp := q_pos c7 hyp
        refine q_aload_n 0 rfl dX10_taste_69 ?_
        refine q_bind hyp (fun x8 e9 hyp => ?_)
        refine q_getR kF_X10_126 dX10_taste_70 e9 ?_
        refine q_bipush (x := 10) (by decide) dX10_taste_73 ?_
        refine q_iload 8 rfl dX10_taste_75 ?_
        refine q_imul dX10_taste_77 ?_
        refine q_iload 5 rfl dX10_taste_78 ?_
        refine q_iadd dX10_taste_80 ?_
        refine q_bind hyp (fun x10 e11 hyp => ?_)
        refine q_iald dX10_taste_81 e11 ?_
        refine q_iload 6 rfl dX10_taste_82 ?_
        refine q_icmp_gt (tgt := 91) dX10_taste_84 (by decide) (fun c12 => ?_) (fun c12 => ?_)
        · have hyp := q_pos c12 hyp
          refine q_iconst (x := 0) rfl dX10_taste_91 ?_
          refine q_iadd dX10_taste_92 ?_
          refine q_istore (ls' := [(7, .int (v7 + 0)), (0, .ref v0), (1, .int v1), (2, .int v2), (3, .int v3), (4, .int v4), (5, .int v5), (6, .int v6), (8, .int v8)]) (by decide) rfl dX10_taste_93 ?_
          refine q_iinc (ls' := [(8, .int (v8 + 1)), (7, .int (v7 + 0)), (0, .ref v0), (1, .int v1), (2, .int v2), (3, .int v3), (4, .int v4), (5, .int v5), (6, .int v6)]) 8 rfl rfl (by decide) rfl dX10_taste_95 ?_
          refine q_goto (tgt := 46) dX10_taste_98 (by decide) ?_
          exact q_sub [2, 3, 4, 5, 6, 7, 8, 1, 0] rfl (ih v0 v1 v2 v3 v4 v5 v6 (v7 + 0) (v8 + 1) h hyp)
        · have hyp := q_neg c12 hyp
          refine q_iconst (x := 1) rfl dX10_taste_87 ?_
          refine q_goto (tgt := 92) dX10_taste_88 (by decide) ?_
          refine q_iadd dX10_taste_92 ?_
          refine q_istore (ls' := [(7, .int (v7 + 1)), (0, .ref v0), (1, .int v1), (2, .int v2), (3, .int v3), (4, .int v4), (5, .int v5), (6, .int v6), (8, .int v8)]) (by decide) rfl dX10_taste_93 ?_
          refine q_iinc (ls' := [(8, .int (v8 + 1)), (7, .int (v7 + 1)), (0, .ref v0), (1, .int v1), (2, .int v2), (3, .int v3), (4, .int v4), (5, .int v5), (6, .int v6)]) 8 rfl rfl (by decide) rfl dX10_taste_95 ?_
          refine q_goto (tgt := 46) dX10_taste_98 (by decide) ?_
          exact q_sub [2, 3, 4, 5, 6, 7, 8, 1, 0] rfl (ih v0 v1 v2 v3 v4 v5 v6 (v7 + 1) (v8 + 1) h hyp)
def fX10_taste_b33 (n : Nat) (K23 : Nat → Int32 → Int32 → Int32 → Int32 → Int32 → qH → Option (Int32 × qH)) : Nat → Nat → Int32 → Int32 → Int32 → Int32 → Int32 → Int32 → qH → Option (Int32 × qH)
  | 0, _, _, _, _, _, _, _, _ => none
  | w + 1, v0, v1, v2, v3, v4, v5, v6, h =>
    if 41 ≤ v6 then
    (K23 v0 v1 v2 v3 v4 (v5 + 1) h)
    else
    (fX10_taste_b46 n (fX10_taste_b33 n K23 w) n v0 v1 v2 v3 v4 v5 v6 0 0 h)
set_option maxHeartbeats 4000000 in
set_option maxRecDepth 100000 in
theorem okX10_taste_b33 {l : Launch} {n : Nat} {K23 : Nat → Int32 → Int32 → Int32 → Int32 → Int32 → qH → Option (Int32 × qH)} {r : Int32} {h' : qH} (hK23 : ∀ (v0 : Nat) (v1 : Int32) (v2 : Int32) (v3 : Int32) (v4 : Int32) (v5 : Int32) (h : qH), K23 v0 v1 v2 v3 v4 v5 h = some (r, h') → q_W l 8 yX10_taste cX10_taste 9 (some .int) (some (.int r)) h' 23 [(0, .ref v0), (1, .int v1), (2, .int v2), (3, .int v3), (4, .int v4), (5, .int v5)] [] h) : ∀ (w : Nat) (v0 : Nat) (v1 : Int32) (v2 : Int32) (v3 : Int32) (v4 : Int32) (v5 : Int32) (v6 : Int32) (h : qH), fX10_taste_b33 n K23 w v0 v1 v2 v3 v4 v5 v6 h = some (r, h') → q_W l 8 yX10_taste cX10_taste 9 (some .int) (some (.int r)) h' 33 [(0, .ref v0), (1, .int v1), (2, .int v2), (3, .int v3), (4, .int v4), (5, .int v5), (6, .int v6)] [] h := by
  intro w
  induction w with
  | zero => intro v0 v1 v2 v3 v4 v5 v6 h hyp; cases hyp
  | succ w ih =>
    intro v0 v1 v2 v3 v4 v5 v6 h hyp
    unfold fX10_taste_b33 at hyp
    refine q_iload 6 rfl dX10_taste_33 ?_
    refine q_bipush (x := 41) (by decide) dX10_taste_35 ?_
    refine q_icmp_ge (tgt := 140) dX10_taste_37 (by decide) (fun c1 => ?_) (fun c1 => ?_)
    · have hyp := q_pos c1 hyp
      refine q_iinc (ls' := [(5, .int (v5 + 1)), (0, .ref v0), (1, .int v1), (2, .int v2), (3, .int v3), (4, .int v4), (6, .int v6)]) 5 rfl rfl (by decide) rfl dX10_taste_140 ?_
      refine q_goto (tgt := 23) dX10_taste_143 (by decide) ?_
      exact q_sub [1, 2, 3, 4, 5, 0] rfl (hK23 v0 v1 v2 v3 v4 (v5 + 1) h hyp)
    · have hyp := q_neg c1 hyp
      refine q_iconst (x := 0) rfl dX10_taste_40 ?_
      refine q_istore (ls' := [(7, .int 0), (0, .ref v0), (1, .int v1), (2, .int v2), (3, .int v3), (4, .int v4), (5, .int v5), (6, .int v6)]) (by decide) rfl dX10_taste_41 ?_
      refine q_iconst (x := 0) rfl dX10_taste_43 ?_
      refine q_istore (ls' := [(8, .int 0), (7, .int 0), (0, .ref v0), (1, .int v1), (2, .int v2), (3, .int v3), (4, .int v4), (5, .int v5), (6, .int v6)]) (by decide) rfl dX10_taste_44 ?_
      exact q_sub [2, 3, 4, 5, 6, 7, 8, 1, 0] rfl (okX10_taste_b46 ih _ v0 v1 v2 v3 v4 v5 v6 0 0 h hyp)
def fX10_taste_b23 (n : Nat) : Nat → Nat → Int32 → Int32 → Int32 → Int32 → Int32 → qH → Option (Int32 × qH)
  | 0, _, _, _, _, _, _, _ => none
  | w + 1, v0, v1, v2, v3, v4, v5, h =>
    if 10 ≤ v5 then
    (some (v4, h))
    else
    (fX10_taste_b33 n (fX10_taste_b23 n w) n v0 v1 v2 v3 v4 v5 0 h)
set_option maxHeartbeats 4000000 in
set_option maxRecDepth 100000 in
theorem okX10_taste_b23 {l : Launch} {n : Nat} {r : Int32} {h' : qH} : ∀ (w : Nat) (v0 : Nat) (v1 : Int32) (v2 : Int32) (v3 : Int32) (v4 : Int32) (v5 : Int32) (h : qH), fX10_taste_b23 n w v0 v1 v2 v3 v4 v5 h = some (r, h') → q_W l 8 yX10_taste cX10_taste 9 (some .int) (some (.int r)) h' 23 [(0, .ref v0), (1, .int v1), (2, .int v2), (3, .int v3), (4, .int v4), (5, .int v5)] [] h := by
  intro w
  induction w with
  | zero => intro v0 v1 v2 v3 v4 v5 h hyp; cases hyp
  | succ w ih =>
    intro v0 v1 v2 v3 v4 v5 h hyp
    unfold fX10_taste_b23 at hyp
    refine q_iload 5 rfl dX10_taste_23 ?_
    refine q_bipush (x := 10) (by decide) dX10_taste_25 ?_
    refine q_icmp_ge (tgt := 146) dX10_taste_27 (by decide) (fun c1 => ?_) (fun c1 => ?_)
    · have hyp := q_pos c1 hyp
      refine q_iload 4 rfl dX10_taste_146 ?_
      exact q_iretH rfl rfl dX10_taste_148 hyp
    · have hyp := q_neg c1 hyp
      refine q_iconst (x := 0) rfl dX10_taste_30 ?_
      refine q_istore (ls' := [(6, .int 0), (0, .ref v0), (1, .int v1), (2, .int v2), (3, .int v3), (4, .int v4), (5, .int v5)]) (by decide) rfl dX10_taste_31 ?_
      exact q_sub [1, 2, 3, 4, 5, 6, 0] rfl (okX10_taste_b33 ih _ v0 v1 v2 v3 v4 v5 0 h hyp)
def fX10_taste (n : Nat) (v0 : Nat) (h : qH) : Option (Int32 × qH) :=
  (isO h v0 10).bind fun _ =>
  (pF h v0 10 0 (.int 0)).bind fun h1 =>
  (fX10_who n v0 h1).bind fun p3 =>
  (fX10_bits n p3.1 p3.2).bind fun p4 =>
  fX10_taste_b23 n n v0 p3.1 p4.1 p4.1 ((-1)) 0 p4.2
theorem obX10_taste {n : Nat} {v0 : Nat} {h : qH} {p : Int32 × qH} (hyp : fX10_taste n v0 h = some p) : ∃ fs, h.1 v0 = some (.inr (10, fs)) := by
  unfold fX10_taste at hyp
  exact q_bind hyp (fun _ e _ => isO_some e)
set_option maxHeartbeats 4000000 in
set_option maxRecDepth 100000 in
theorem okX10_taste {l : Launch} {n : Nat} {v0 : Nat} {h : qH} {p : Int32 × qH} (hyp : fX10_taste n v0 h = some p) : q_M l 8 yX10_taste cX10_taste 9 (some .int) [.ref v0] h (some (.int p.1)) p.2 := by
  obtain ⟨r, h'⟩ := p
  unfold fX10_taste at hyp
  refine q_bind hyp (fun _ _ hyp => ?_)
  refine q_M.of (by decide) (Nat.le_of_ble_eq_true rfl) ?_
  refine q_to (ls' := [(0, .ref v0)]) (st' := []) rfl rfl ?_
  refine q_aload_n 0 rfl dX10_taste_0 ?_
  refine q_iconst (x := 0) rfl dX10_taste_1 ?_
  refine q_bind hyp (fun h1 e2 hyp => ?_)
  refine q_putF kF_X10_136 (fun _ => ⟨rfl, rfl⟩) dX10_taste_2 e2 ?_
  refine q_aload_n 0 rfl dX10_taste_5 ?_
  refine q_bind hyp (fun p3 e6 hyp => ?_)
  refine q_callV (as := []) (st := []) kY_X10_who kL_X10_415 (okX10_who (l := l) e6) (by decide) rfl (obX10_who e6) (Nat.le_of_ble_eq_true rfl) dX10_taste_6 ?_
  refine q_to (ls' := [(0, .ref v0)]) (st' := [.int p3.1]) rfl rfl ?_
  refine q_istore_n (ls' := [(1, .int p3.1), (0, .ref v0)]) (by decide) rfl dX10_taste_9 ?_
  refine q_iload_n 0 rfl dX10_taste_10 ?_
  refine q_bind hyp (fun p4 e5 hyp => ?_)
  refine q_callS (as := [.int p3.1]) (st := []) kY_X10_bits kS_X10_bits kL_X10_371 (okX10_bits (l := l) e5) (by decide) rfl (Nat.le_of_ble_eq_true rfl) dX10_taste_11 ?_
  refine q_to (ls' := [(1, .int p3.1), (0, .ref v0)]) (st' := [.int p4.1]) rfl rfl ?_
  refine q_istore_n (ls' := [(2, .int p4.1), (1, .int p3.1), (0, .ref v0)]) (by decide) rfl dX10_taste_14 ?_
  refine q_iload_n 0 rfl dX10_taste_15 ?_
  refine q_istore_n (ls' := [(3, .int p4.1), (2, .int p4.1), (1, .int p3.1), (0, .ref v0)]) (by decide) rfl dX10_taste_16 ?_
  refine q_iconst (x := (-1)) rfl dX10_taste_17 ?_
  refine q_istore (ls' := [(4, .int ((-1))), (3, .int p4.1), (2, .int p4.1), (1, .int p3.1), (0, .ref v0)]) (by decide) rfl dX10_taste_18 ?_
  refine q_iconst (x := 0) rfl dX10_taste_20 ?_
  refine q_istore (ls' := [(5, .int 0), (4, .int ((-1))), (3, .int p4.1), (2, .int p4.1), (1, .int p3.1), (0, .ref v0)]) (by decide) rfl dX10_taste_21 ?_
  exact q_sub [5, 4, 3, 2, 1, 0] rfl (okX10_taste_b23 _ v0 p3.1 p4.1 p4.1 ((-1)) 0 p4.2 hyp)
