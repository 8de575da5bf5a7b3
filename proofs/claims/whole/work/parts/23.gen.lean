/-! Functions over the abstract heap, and that the machine computes them (written by gen.py). -/
theorem dX10_causes_0 : decode cX10_causes 0 = .ok (.aload_n 0, 1) := by decide +kernel
theorem dX10_causes_1 : decode cX10_causes 1 = .ok (.iconst 0, 1) := by decide +kernel
theorem dX10_causes_2 : decode cX10_causes 2 = .ok (.putfield 136, 3) := by decide +kernel
theorem dX10_causes_5 : decode cX10_causes 5 = .ok (.aload_n 0, 1) := by decide +kernel
theorem dX10_causes_6 : decode cX10_causes 6 = .ok (.iload_n 1, 1) := by decide +kernel
theorem dX10_causes_7 : decode cX10_causes 7 = .ok (.invokevirtual 346, 3) := by decide +kernel
theorem dX10_causes_10 : decode cX10_causes 10 = .ok (.ifCond .ne 5, 3) := by decide +kernel
theorem dX10_causes_13 : decode cX10_causes 13 = .ok (.iconst (-1), 1) := by decide +kernel
theorem dX10_causes_14 : decode cX10_causes 14 = .ok (.ireturn, 1) := by decide +kernel
theorem dX10_causes_15 : decode cX10_causes 15 = .ok (.iconst 0, 1) := by decide +kernel
theorem dX10_causes_16 : decode cX10_causes 16 = .ok (.istore_n 2, 1) := by decide +kernel
theorem dX10_causes_17 : decode cX10_causes 17 = .ok (.iconst 0, 1) := by decide +kernel
theorem dX10_causes_18 : decode cX10_causes 18 = .ok (.istore_n 3, 1) := by decide +kernel
theorem dX10_causes_19 : decode cX10_causes 19 = .ok (.iload_n 3, 1) := by decide +kernel
theorem dX10_causes_20 : decode cX10_causes 20 = .ok (.aload_n 0, 1) := by decide +kernel
theorem dX10_causes_21 : decode cX10_causes 21 = .ok (.getfield 13, 3) := by decide +kernel
theorem dX10_causes_24 : decode cX10_causes 24 = .ok (.iconst 0, 1) := by decide +kernel
theorem dX10_causes_25 : decode cX10_causes 25 = .ok (.iaload, 1) := by decide +kernel
theorem dX10_causes_26 : decode cX10_causes 26 = .ok (.if_icmp .ge 24, 3) := by decide +kernel
theorem dX10_causes_29 : decode cX10_causes 29 = .ok (.iload_n 2, 1) := by decide +kernel
theorem dX10_causes_30 : decode cX10_causes 30 = .ok (.aload_n 0, 1) := by decide +kernel
theorem dX10_causes_31 : decode cX10_causes 31 = .ok (.getfield 117, 3) := by decide +kernel
theorem dX10_causes_34 : decode cX10_causes 34 = .ok (.iload_n 3, 1) := by decide +kernel
theorem dX10_causes_35 : decode cX10_causes 35 = .ok (.iaload, 1) := by decide +kernel
theorem dX10_causes_36 : decode cX10_causes 36 = .ok (.iload_n 1, 1) := by decide +kernel
theorem dX10_causes_37 : decode cX10_causes 37 = .ok (.ishr, 1) := by decide +kernel
theorem dX10_causes_38 : decode cX10_causes 38 = .ok (.iconst 1, 1) := by decide +kernel
theorem dX10_causes_39 : decode cX10_causes 39 = .ok (.iand, 1) := by decide +kernel
theorem dX10_causes_40 : decode cX10_causes 40 = .ok (.iload_n 3, 1) := by decide +kernel
theorem dX10_causes_41 : decode cX10_causes 41 = .ok (.ishl, 1) := by decide +kernel
theorem dX10_causes_42 : decode cX10_causes 42 = .ok (.ior, 1) := by decide +kernel
theorem dX10_causes_43 : decode cX10_causes 43 = .ok (.istore_n 2, 1) := by decide +kernel
theorem dX10_causes_44 : decode cX10_causes 44 = .ok (.iinc 3 1, 3) := by decide +kernel
theorem dX10_causes_47 : decode cX10_causes 47 = .ok (.goto (-28), 3) := by decide +kernel
theorem dX10_causes_50 : decode cX10_causes 50 = .ok (.iload_n 2, 1) := by decide +kernel
theorem dX10_causes_51 : decode cX10_causes 51 = .ok (.ireturn, 1) := by decide +kernel
def fX10_causes_b19 (n : Nat) : Nat → Nat → Int32 → Int32 → Int32 → qH → Option (Int32 × qH)
  | 0, _, _, _, _, _ => none
  | w + 1, v0, v1, v2, v3, h =>
    (gR h v0 10 10).bind fun x1 =>
    (aI .int h x1 0).bind fun x3 =>
    if x3 ≤ v3 then
    (some (v2, h))
    else
    ((gR h v0 10 48).bind fun x6 =>
    (aI .int h x6 v3).bind fun x8 =>
    fX10_causes_b19 n w v0 v1 (v2 ||| (((x8 >>> (v1 &&& 31)) &&& 1) <<< (v3 &&& 31))) (v3 + 1) h)
set_option maxHeartbeats 4000000 in
set_option maxRecDepth 100000 in
theorem okX10_causes_b19 {l : Launch} {n : Nat} {r : Int32} {h' : qH} : ∀ (w : Nat) (v0 : Nat) (v1 : Int32) (v2 : Int32) (v3 : Int32) (h : qH), fX10_causes_b19 n w v0 v1 v2 v3 h = some (r, h') → q_W l 2 yX10_causes cX10_causes 4 (some .int) (some (.int r)) h' 19 [(0, .ref v0), (1, .int v1), (2, .int v2), (3, .int v3)] [] h := by
  intro w
  induction w with
  | zero => intro v0 v1 v2 v3 h hyp; cases hyp
  | succ w ih =>
    intro v0 v1 v2 v3 h hyp
    unfold fX10_causes_b19 at hyp
    refine q_iload_n 3 rfl dX10_causes_19 ?_
    refine q_aload_n 0 rfl dX10_causes_20 ?_
    refine q_bind hyp (fun x1 e2 hyp => ?_)
    refine q_getR kF_X10_13 dX10_causes_21 e2 ?_
    refine q_iconst (x := 0) rfl dX10_causes_24 ?_
    refine q_bind hyp (fun x3 e4 hyp => ?_)
    refine q_iald dX10_causes_25 e4 ?_
    refine q_icmp_ge (tgt := 50) dX10_causes_26 (by decide) (fun c5 => ?_) (fun c5 => ?_)
    · have hyp := q_pos c5 hyp
      refine q_iload_n 2 rfl dX10_causes_50 ?_
      exact q_iretH rfl rfl dX10_causes_51 hyp
    · have hyp := q_neg c5 hyp
      refine q_iload_n 2 rfl dX10_causes_29 ?_
      refine q_aload_n 0 rfl dX10_causes_30 ?_
      refine q_bind hyp (fun x6 e7 hyp => ?_)
      refine q_getR kF_X10_117 dX10_causes_31 e7 ?_
      refine q_iload_n 3 rfl dX10_causes_34 ?_
      refine q_bind hyp (fun x8 e9 hyp => ?_)
      refine q_iald dX10_causes_35 e9 ?_
      refine q_iload_n 1 rfl dX10_causes_36 ?_
      refine q_ishr dX10_causes_37 ?_
      refine q_iconst (x := 1) rfl dX10_causes_38 ?_
      refine q_iand dX10_causes_39 ?_
      refine q_iload_n 3 rfl dX10_causes_40 ?_
      refine q_ishl dX10_causes_41 ?_
      refine q_ior dX10_causes_42 ?_
      refine q_istore_n (ls' := [(2, .int (v2 ||| (((x8 >>> (v1 &&& 31)) &&& 1) <<< (v3 &&& 31)))), (0, .ref v0), (1, .int v1), (3, .int v3)]) (by decide) rfl dX10_causes_43 ?_
      refine q_iinc (ls' := [(3, .int (v3 + 1)), (2, .int (v2 ||| (((x8 >>> (v1 &&& 31)) &&& 1) <<< (v3 &&& 31)))), (0, .ref v0), (1, .int v1)]) 3 rfl rfl (by decide) rfl dX10_causes_44 ?_
      refine q_goto (tgt := 19) dX10_causes_47 (by decide) ?_
      exact q_sub [2, 3, 1, 0] rfl (ih v0 v1 (v2 ||| (((x8 >>> (v1 &&& 31)) &&& 1) <<< (v3 &&& 31))) (v3 + 1) h hyp)
def fX10_causes (n : Nat) (v0 : Nat) (v1 : Int32) (h : qH) : Option (Int32 × qH) :=
  (isO h v0 10).bind fun _ =>
  (pF h v0 10 0 (.int 0)).bind fun h1 =>
  (fX10_isMatter v0 v1 h1).bind fun p3 =>
  if p3.1 = 0 then
  (some ((-1), p3.2))
  else
  (fX10_causes_b19 n n v0 v1 0 0 p3.2)
theorem obX10_causes {n : Nat} {v0 : Nat} {v1 : Int32} {h : qH} {p : Int32 × qH} (hyp : fX10_causes n v0 v1 h = some p) : ∃ fs, h.1 v0 = some (.inr (10, fs)) := by
  unfold fX10_causes at hyp
  exact q_bind hyp (fun _ e _ => isO_some e)
set_option maxHeartbeats 4000000 in
set_option maxRecDepth 100000 in
theorem okX10_causes {l : Launch} {n : Nat} {v0 : Nat} {v1 : Int32} {h : qH} {p : Int32 × qH} (hyp : fX10_causes n v0 v1 h = some p) : q_M l 2 yX10_causes cX10_causes 4 (some .int) [.ref v0, .int v1] h (some (.int p.1)) p.2 := by
  obtain ⟨r, h'⟩ := p
  unfold fX10_causes at hyp
  refine q_bind hyp (fun _ _ hyp => ?_)
  refine q_M.of (by decide) (Nat.le_of_ble_eq_true rfl) ?_
  refine q_to (ls' := [(0, .ref v0), (1, .int v1)]) (st' := []) rfl rfl ?_
  refine q_aload_n 0 rfl dX10_causes_0 ?_
  refine q_iconst (x := 0) rfl dX10_causes_1 ?_
  refine q_bind hyp (fun h1 e2 hyp => ?_)
  refine q_putF kF_X10_136 (fun _ => ⟨rfl, rfl⟩) dX10_causes_2 e2 ?_
  refine q_aload_n 0 rfl dX10_causes_5 ?_
  refine q_iload_n 1 rfl dX10_causes_6 ?_
  refine q_bind hyp (fun p3 e5 hyp => ?_)
  refine q_callV (as := [.int v1]) (st := []) kY_X10_isMatter kL_X10_346 (okX10_isMatter (l := l) e5) (by decide) rfl (obX10_isMatter e5) (Nat.le_of_ble_eq_true rfl) dX10_causes_7 ?_
  refine q_to (ls' := [(0, .ref v0), (1, .int v1)]) (st' := [.int p3.1]) rfl rfl ?_
  refine q_if_ne (tgt := 15) dX10_causes_10 (by decide) (fun c4 => ?_) (fun c4 => ?_)
  · have hyp := q_neg c4 hyp
    refine q_iconst (x := 0) rfl dX10_causes_15 ?_
    refine q_istore_n (ls' := [(2, .int 0), (0, .ref v0), (1, .int v1)]) (by decide) rfl dX10_causes_16 ?_
    refine q_iconst (x := 0) rfl dX10_causes_17 ?_
    refine q_istore_n (ls' := [(3, .int 0), (2, .int 0), (0, .ref v0), (1, .int v1)]) (by decide) rfl dX10_causes_18 ?_
    exact q_sub [2, 3, 1, 0] rfl (okX10_causes_b19 _ v0 v1 0 0 p3.2 hyp)
  · have hyp := q_pos c4 hyp
    refine q_iconst (x := (-1)) rfl dX10_causes_13 ?_
    exact q_iretH rfl rfl dX10_causes_14 hyp
theorem dX10_coats_0 : decode cX10_coats 0 = .ok (.aload_n 0, 1) := by decide +kernel
theorem dX10_coats_1 : decode cX10_coats 1 = .ok (.getfield 99, 3) := by decide +kernel
theorem dX10_coats_4 : decode cX10_coats 4 = .ok (.iconst 1, 1) := by decide +kernel
theorem dX10_coats_5 : decode cX10_coats 5 = .ok (.dup2, 1) := by decide +kernel
theorem dX10_coats_6 : decode cX10_coats 6 = .ok (.iaload, 1) := by decide +kernel
theorem dX10_coats_7 : decode cX10_coats 7 = .ok (.aload_n 0, 1) := by decide +kernel
theorem dX10_coats_8 : decode cX10_coats 8 = .ok (.iload_n 1, 1) := by decide +kernel
theorem dX10_coats_9 : decode cX10_coats 9 = .ok (.invokevirtual 331, 3) := by decide +kernel
theorem dX10_coats_12 : decode cX10_coats 12 = .ok (.isub, 1) := by decide +kernel
theorem dX10_coats_13 : decode cX10_coats 13 = .ok (.iastore, 1) := by decide +kernel
theorem dX10_coats_14 : decode cX10_coats 14 = .ok (.aload_n 0, 1) := by decide +kernel
theorem dX10_coats_15 : decode cX10_coats 15 = .ok (.getfield 20, 3) := by decide +kernel
theorem dX10_coats_18 : decode cX10_coats 18 = .ok (.iload_n 1, 1) := by decide +kernel
theorem dX10_coats_19 : decode cX10_coats 19 = .ok (.iaload, 1) := by decide +kernel
theorem dX10_coats_20 : decode cX10_coats 20 = .ok (.iconst 3, 1) := by decide +kernel
theorem dX10_coats_21 : decode cX10_coats 21 = .ok (.if_icmp .ne 4, 3) := by decide +kernel
theorem dX10_coats_24 : decode cX10_coats 24 = .ok (.return_, 1) := by decide +kernel
theorem dX10_coats_25 : decode cX10_coats 25 = .ok (.aload_n 0, 1) := by decide +kernel
theorem dX10_coats_26 : decode cX10_coats 26 = .ok (.getfield 99, 3) := by decide +kernel
theorem dX10_coats_29 : decode cX10_coats 29 = .ok (.iconst 2, 1) := by decide +kernel
theorem dX10_coats_30 : decode cX10_coats 30 = .ok (.iload_n 1, 1) := by decide +kernel
theorem dX10_coats_31 : decode cX10_coats 31 = .ok (.iadd, 1) := by decide +kernel
theorem dX10_coats_32 : decode cX10_coats 32 = .ok (.iconst 0, 1) := by decide +kernel
theorem dX10_coats_33 : decode cX10_coats 33 = .ok (.aload_n 0, 1) := by decide +kernel
theorem dX10_coats_34 : decode cX10_coats 34 = .ok (.getfield 99, 3) := by decide +kernel
theorem dX10_coats_37 : decode cX10_coats 37 = .ok (.iconst 2, 1) := by decide +kernel
theorem dX10_coats_38 : decode cX10_coats 38 = .ok (.iload_n 1, 1) := by decide +kernel
theorem dX10_coats_39 : decode cX10_coats 39 = .ok (.iadd, 1) := by decide +kernel
theorem dX10_coats_40 : decode cX10_coats 40 = .ok (.iaload, 1) := by decide +kernel
theorem dX10_coats_41 : decode cX10_coats 41 = .ok (.aload_n 0, 1) := by decide +kernel
theorem dX10_coats_42 : decode cX10_coats 42 = .ok (.iload_n 1, 1) := by decide +kernel
theorem dX10_coats_43 : decode cX10_coats 43 = .ok (.aload_n 0, 1) := by decide +kernel
theorem dX10_coats_44 : decode cX10_coats 44 = .ok (.getfield 99, 3) := by decide +kernel
theorem dX10_coats_47 : decode cX10_coats 47 = .ok (.iconst 2, 1) := by decide +kernel
theorem dX10_coats_48 : decode cX10_coats 48 = .ok (.iload_n 1, 1) := by decide +kernel
theorem dX10_coats_49 : decode cX10_coats 49 = .ok (.iadd, 1) := by decide +kernel
theorem dX10_coats_50 : decode cX10_coats 50 = .ok (.iaload, 1) := by decide +kernel
theorem dX10_coats_51 : decode cX10_coats 51 = .ok (.aload_n 0, 1) := by decide +kernel
theorem dX10_coats_52 : decode cX10_coats 52 = .ok (.getfield 99, 3) := by decide +kernel
theorem dX10_coats_55 : decode cX10_coats 55 = .ok (.bipush 9, 2) := by decide +kernel
theorem dX10_coats_57 : decode cX10_coats 57 = .ok (.iload_n 1, 1) := by decide +kernel
theorem dX10_coats_58 : decode cX10_coats 58 = .ok (.iadd, 1) := by decide +kernel
theorem dX10_coats_59 : decode cX10_coats 59 = .ok (.iaload, 1) := by decide +kernel
theorem dX10_coats_60 : decode cX10_coats 60 = .ok (.invokevirtual 334, 3) := by decide +kernel
theorem dX10_coats_63 : decode cX10_coats 63 = .ok (.isub, 1) := by decide +kernel
theorem dX10_coats_64 : decode cX10_coats 64 = .ok (.invokestatic 337, 3) := by decide +kernel
theorem dX10_coats_67 : decode cX10_coats 67 = .ok (.iastore, 1) := by decide +kernel
theorem dX10_coats_68 : decode cX10_coats 68 = .ok (.aload_n 0, 1) := by decide +kernel
theorem dX10_coats_69 : decode cX10_coats 69 = .ok (.getfield 99, 3) := by decide +kernel
theorem dX10_coats_72 : decode cX10_coats 72 = .ok (.bipush 9, 2) := by decide +kernel
theorem dX10_coats_74 : decode cX10_coats 74 = .ok (.iload_n 1, 1) := by decide +kernel
theorem dX10_coats_75 : decode cX10_coats 75 = .ok (.iadd, 1) := by decide +kernel
theorem dX10_coats_76 : decode cX10_coats 76 = .ok (.dup2, 1) := by decide +kernel
theorem dX10_coats_77 : decode cX10_coats 77 = .ok (.iaload, 1) := by decide +kernel
theorem dX10_coats_78 : decode cX10_coats 78 = .ok (.iconst 1, 1) := by decide +kernel
theorem dX10_coats_79 : decode cX10_coats 79 = .ok (.iadd, 1) := by decide +kernel
theorem dX10_coats_80 : decode cX10_coats 80 = .ok (.iastore, 1) := by decide +kernel
theorem dX10_coats_81 : decode cX10_coats 81 = .ok (.return_, 1) := by decide +kernel
def fX10_coats (n : Nat) (v0 : Nat) (v1 : Int32) (h : qH) : Option (qH) :=
  (isO h v0 10).bind fun _ =>
  (gR h v0 10 41).bind fun x1 =>
  (aI .int h x1 1).bind fun x3 =>
  (fX10_priceOf v0 v1 h).bind fun p5 =>
  (sI .int p5.2 x1 1 (x3 - p5.1)).bind fun h6 =>
  (gR h6 v0 10 12).bind fun x8 =>
  (aI .int h6 x8 v1).bind fun x10 =>
  if x10 = 3 then
  (some h6)
  else
  ((gR h6 v0 10 41).bind fun x13 =>
  (gR h6 v0 10 41).bind fun x15 =>
  (aI .int h6 x15 (2 + v1)).bind fun x17 =>
  (gR h6 v0 10 41).bind fun x19 =>
  (aI .int h6 x19 (2 + v1)).bind fun x21 =>
  (gR h6 v0 10 41).bind fun x23 =>
  (aI .int h6 x23 (9 + v1)).bind fun x25 =>
  (fX10_takenBy n v0 v1 x21 x25 h6).bind fun p27 =>
  (sI .int p27.2 x13 (2 + v1) (if (0 : Int32) < (x17 - p27.1) then (x17 - p27.1) else (0 : Int32))).bind fun h28 =>
  (gR h28 v0 10 41).bind fun x30 =>
  (aI .int h28 x30 (9 + v1)).bind fun x32 =>
  (sI .int h28 x30 (9 + v1) (x32 + 1)).bind fun h34 =>
  some h34)
theorem obX10_coats {n : Nat} {v0 : Nat} {v1 : Int32} {h : qH} {p : qH} (hyp : fX10_coats n v0 v1 h = some p) : ∃ fs, h.1 v0 = some (.inr (10, fs)) := by
  unfold fX10_coats at hyp
  exact q_bind hyp (fun _ e _ => isO_some e)
set_option maxHeartbeats 4000000 in
set_option maxRecDepth 100000 in
theorem okX10_coats {l : Launch} {n : Nat} {v0 : Nat} {v1 : Int32} {h : qH} {h' : qH} (hyp : fX10_coats n v0 v1 h = some h') : q_M l 5 yX10_coats cX10_coats 2 none [.ref v0, .int v1] h none h' := by
  unfold fX10_coats at hyp
  refine q_bind hyp (fun _ _ hyp => ?_)
  refine q_M.of (by decide) (Nat.le_of_ble_eq_true rfl) ?_
  refine q_to (ls' := [(0, .ref v0), (1, .int v1)]) (st' := []) rfl rfl ?_
  refine q_aload_n 0 rfl dX10_coats_0 ?_
  refine q_bind hyp (fun x1 e2 hyp => ?_)
  refine q_getR kF_X10_99 dX10_coats_1 e2 ?_
  refine q_iconst (x := 1) rfl dX10_coats_4 ?_
  refine q_dup2 rfl rfl dX10_coats_5 ?_
  refine q_bind hyp (fun x3 e4 hyp => ?_)
  refine q_iald dX10_coats_6 e4 ?_
  refine q_aload_n 0 rfl dX10_coats_7 ?_
  refine q_iload_n 1 rfl dX10_coats_8 ?_
  refine q_bind hyp (fun p5 e37 hyp => ?_)
  refine q_callV (as := [.int v1]) (st := [.int x3, .int 1, .ref x1]) kY_X10_priceOf kL_X10_331 (okX10_priceOf (l := l) e37) (by decide) rfl (obX10_priceOf e37) (Nat.le_of_ble_eq_true rfl) dX10_coats_9 ?_
  refine q_to (ls' := [(0, .ref v0), (1, .int v1)]) (st' := [.int p5.1, .int x3, .int 1, .ref x1]) rfl rfl ?_
  refine q_isub dX10_coats_12 ?_
  refine q_bind hyp (fun h6 e7 hyp => ?_)
  refine q_iast dX10_coats_13 e7 ?_
  refine q_aload_n 0 rfl dX10_coats_14 ?_
  refine q_bind hyp (fun x8 e9 hyp => ?_)
  refine q_getR kF_X10_20 dX10_coats_15 e9 ?_
  refine q_iload_n 1 rfl dX10_coats_18 ?_
  refine q_bind hyp (fun x10 e11 hyp => ?_)
  refine q_iald dX10_coats_19 e11 ?_
  refine q_iconst (x := 3) rfl dX10_coats_20 ?_
  refine q_icmp_ne (tgt := 25) dX10_coats_21 (by decide) (fun c12 => ?_) (fun c12 => ?_)
  · have hyp := q_neg c12 hyp
    refine q_aload_n 0 rfl dX10_coats_25 ?_
    refine q_bind hyp (fun x13 e14 hyp => ?_)
    refine q_getR kF_X10_99 dX10_coats_26 e14 ?_
    refine q_iconst (x := 2) rfl dX10_coats_29 ?_
    refine q_iload_n 1 rfl dX10_coats_30 ?_
    refine q_iadd dX10_coats_31 ?_
    refine q_iconst (x := 0) rfl dX10_coats_32 ?_
    refine q_aload_n 0 rfl dX10_coats_33 ?_
    refine q_bind hyp (fun x15 e16 hyp => ?_)
    refine q_getR kF_X10_99 dX10_coats_34 e16 ?_
    refine q_iconst (x := 2) rfl dX10_coats_37 ?_
    refine q_iload_n 1 rfl dX10_coats_38 ?_
    refine q_iadd dX10_coats_39 ?_
    refine q_bind hyp (fun x17 e18 hyp => ?_)
    refine q_iald dX10_coats_40 e18 ?_
    refine q_aload_n 0 rfl dX10_coats_41 ?_
    refine q_iload_n 1 rfl dX10_coats_42 ?_
    refine q_aload_n 0 rfl dX10_coats_43 ?_
    refine q_bind hyp (fun x19 e20 hyp => ?_)
    refine q_getR kF_X10_99 dX10_coats_44 e20 ?_
    refine q_iconst (x := 2) rfl dX10_coats_47 ?_
    refine q_iload_n 1 rfl dX10_coats_48 ?_
    refine q_iadd dX10_coats_49 ?_
    refine q_bind hyp (fun x21 e22 hyp => ?_)
    refine q_iald dX10_coats_50 e22 ?_
    refine q_aload_n 0 rfl dX10_coats_51 ?_
    refine q_bind hyp (fun x23 e24 hyp => ?_)
    refine q_getR kF_X10_99 dX10_coats_52 e24 ?_
    refine q_bipush (x := 9) (by decide) dX10_coats_55 ?_
    refine q_iload_n 1 rfl dX10_coats_57 ?_
    refine q_iadd dX10_coats_58 ?_
    refine q_bind hyp (fun x25 e26 hyp => ?_)
    refine q_iald dX10_coats_59 e26 ?_
    refine q_bind hyp (fun p27 e36 hyp => ?_)
    refine q_callV (as := [.int v1, .int x21, .int x25]) (st := [.int x17, .int 0, .int (2 + v1), .ref x13]) kY_X10_takenBy kL_X10_334 (okX10_takenBy (l := l) e36) (by decide) rfl (obX10_takenBy e36) (Nat.le_of_ble_eq_true rfl) dX10_coats_60 ?_
    refine q_to (ls' := [(0, .ref v0), (1, .int v1)]) (st' := [.int p27.1, .int x17, .int 0, .int (2 + v1), .ref x13]) rfl rfl ?_
    refine q_isub dX10_coats_63 ?_
    refine q_max kL_X10_337 kS_max kZ_math kD_max (by decide) (Nat.le_of_ble_eq_true rfl) dX10_coats_64 ?_
    refine q_bind hyp (fun h28 e29 hyp => ?_)
    refine q_iast dX10_coats_67 e29 ?_
    refine q_aload_n 0 rfl dX10_coats_68 ?_
    refine q_bind hyp (fun x30 e31 hyp => ?_)
    refine q_getR kF_X10_99 dX10_coats_69 e31 ?_
    refine q_bipush (x := 9) (by decide) dX10_coats_72 ?_
    refine q_iload_n 1 rfl dX10_coats_74 ?_
    refine q_iadd dX10_coats_75 ?_
    refine q_dup2 rfl rfl dX10_coats_76 ?_
    refine q_bind hyp (fun x32 e33 hyp => ?_)
    refine q_iald dX10_coats_77 e33 ?_
    refine q_iconst (x := 1) rfl dX10_coats_78 ?_
    refine q_iadd dX10_coats_79 ?_
    refine q_bind hyp (fun h34 e35 hyp => ?_)
    refine q_iast dX10_coats_80 e35 ?_
    exact q_vretH rfl dX10_coats_81 hyp
  · have hyp := q_pos c12 hyp
    exact q_vretH rfl dX10_coats_24 hyp
theorem dX10_within_0 : decode cX10_within 0 = .ok (.iload_n 0, 1) := by decide +kernel
theorem dX10_within_1 : decode cX10_within 1 = .ok (.iload_n 1, 1) := by decide +kernel
theorem dX10_within_2 : decode cX10_within 2 = .ok (.if_icmp .lt 12, 3) := by decide +kernel
theorem dX10_within_5 : decode cX10_within 5 = .ok (.iload_n 0, 1) := by decide +kernel
theorem dX10_within_6 : decode cX10_within 6 = .ok (.iload_n 2, 1) := by decide +kernel
theorem dX10_within_7 : decode cX10_within 7 = .ok (.if_icmp .gt 7, 3) := by decide +kernel
theorem dX10_within_10 : decode cX10_within 10 = .ok (.iconst 1, 1) := by decide +kernel
theorem dX10_within_11 : decode cX10_within 11 = .ok (.goto 4, 3) := by decide +kernel
theorem dX10_within_14 : decode cX10_within 14 = .ok (.iconst 0, 1) := by decide +kernel
theorem dX10_within_15 : decode cX10_within 15 = .ok (.ireturn, 1) := by decide +kernel
def fX10_within (v0 : Int32) (v1 : Int32) (v2 : Int32) (h : qH) : Option (Int32 × qH) :=
  if v0 < v1 then
  (some (0, h))
  else
  (if v2 < v0 then
  (some (0, h))
  else
  (some (1, h)))
set_option maxHeartbeats 4000000 in
set_option maxRecDepth 100000 in
theorem okX10_within {l : Launch} {v0 : Int32} {v1 : Int32} {v2 : Int32} {h : qH} {p : Int32 × qH} (hyp : fX10_within v0 v1 v2 h = some p) : q_M l 1 yX10_within cX10_within 3 (some .boolean) [.int v0, .int v1, .int v2] h (some (.int p.1)) p.2 := by
  obtain ⟨r, h'⟩ := p
  unfold fX10_within at hyp
  refine q_M.of (by decide) (Nat.le_of_ble_eq_true rfl) ?_
  refine q_to (ls' := [(0, .int v0), (1, .int v1), (2, .int v2)]) (st' := []) rfl rfl ?_
  refine q_iload_n 0 rfl dX10_within_0 ?_
  refine q_iload_n 1 rfl dX10_within_1 ?_
  refine q_icmp_lt (tgt := 14) dX10_within_2 (by decide) (fun c1 => ?_) (fun c1 => ?_)
  · have hyp := q_pos c1 hyp
    refine q_iconst (x := 0) rfl dX10_within_14 ?_
    exact q_iretH rfl rfl dX10_within_15 hyp
  · have hyp := q_neg c1 hyp
    refine q_iload_n 0 rfl dX10_within_5 ?_
    refine q_iload_n 2 rfl dX10_within_6 ?_
    refine q_icmp_gt (tgt := 14) dX10_within_7 (by decide) (fun c2 => ?_) (fun c2 => ?_)
    · have hyp := q_pos c2 hyp
      refine q_iconst (x := 0) rfl dX10_within_14 ?_
      exact q_iretH rfl rfl dX10_within_15 hyp
    · have hyp := q_neg c2 hyp
      refine q_iconst (x := 1) rfl dX10_within_10 ?_
      refine q_goto (tgt := 15) dX10_within_11 (by decide) ?_
      exact q_iretH rfl rfl dX10_within_15 hyp
theorem dX10_chance_0 : decode cX10_chance 0 = .ok (.aload_n 0, 1) := by decide +kernel
theorem dX10_chance_1 : decode cX10_chance 1 = .ok (.iconst 0, 1) := by decide +kernel
theorem dX10_chance_2 : decode cX10_chance 2 = .ok (.putfield 136, 3) := by decide +kernel
theorem dX10_chance_5 : decode cX10_chance 5 = .ok (.aload_n 0, 1) := by decide +kernel
theorem dX10_chance_6 : decode cX10_chance 6 = .ok (.iload_n 1, 1) := by decide +kernel
theorem dX10_chance_7 : decode cX10_chance 7 = .ok (.invokevirtual 346, 3) := by decide +kernel
theorem dX10_chance_10 : decode cX10_chance 10 = .ok (.ifCond .eq 23, 3) := by decide +kernel
theorem dX10_chance_13 : decode cX10_chance 13 = .ok (.iload_n 2, 1) := by decide +kernel
theorem dX10_chance_14 : decode cX10_chance 14 = .ok (.iconst 1, 1) := by decide +kernel
theorem dX10_chance_15 : decode cX10_chance 15 = .ok (.bipush 6, 2) := by decide +kernel
theorem dX10_chance_17 : decode cX10_chance 17 = .ok (.invokestatic 252, 3) := by decide +kernel
theorem dX10_chance_20 : decode cX10_chance 20 = .ok (.ifCond .eq 13, 3) := by decide +kernel
theorem dX10_chance_23 : decode cX10_chance 23 = .ok (.iload_n 3, 1) := by decide +kernel
theorem dX10_chance_24 : decode cX10_chance 24 = .ok (.iconst 0, 1) := by decide +kernel
theorem dX10_chance_25 : decode cX10_chance 25 = .ok (.bipush 10, 2) := by decide +kernel
theorem dX10_chance_27 : decode cX10_chance 27 = .ok (.invokestatic 252, 3) := by decide +kernel
theorem dX10_chance_30 : decode cX10_chance 30 = .ok (.ifCond .ne 5, 3) := by decide +kernel
theorem dX10_chance_33 : decode cX10_chance 33 = .ok (.iconst (-1), 1) := by decide +kernel
theorem dX10_chance_34 : decode cX10_chance 34 = .ok (.ireturn, 1) := by decide +kernel
theorem dX10_chance_35 : decode cX10_chance 35 = .ok (.lconst 0, 1) := by decide +kernel
theorem dX10_chance_36 : decode cX10_chance 36 = .ok (.lstore 4, 2) := by decide +kernel
theorem dX10_chance_38 : decode cX10_chance 38 = .ok (.lconst 1, 1) := by decide +kernel
theorem dX10_chance_39 : decode cX10_chance 39 = .ok (.lstore 6, 2) := by decide +kernel
theorem dX10_chance_41 : decode cX10_chance 41 = .ok (.iconst 0, 1) := by decide +kernel
theorem dX10_chance_42 : decode cX10_chance 42 = .ok (.istore 8, 2) := by decide +kernel
theorem dX10_chance_44 : decode cX10_chance 44 = .ok (.iload 8, 2) := by decide +kernel
theorem dX10_chance_46 : decode cX10_chance 46 = .ok (.iload_n 2, 1) := by decide +kernel
theorem dX10_chance_47 : decode cX10_chance 47 = .ok (.if_icmp .ge 17, 3) := by decide +kernel
theorem dX10_chance_50 : decode cX10_chance 50 = .ok (.lload 6, 2) := by decide +kernel
theorem dX10_chance_52 : decode cX10_chance 52 = .ok (.ldc2_w 418, 3) := by decide +kernel
theorem dX10_chance_55 : decode cX10_chance 55 = .ok (.lmul, 1) := by decide +kernel
theorem dX10_chance_56 : decode cX10_chance 56 = .ok (.lstore 6, 2) := by decide +kernel
theorem dX10_chance_58 : decode cX10_chance 58 = .ok (.iinc 8 1, 3) := by decide +kernel
theorem dX10_chance_61 : decode cX10_chance 61 = .ok (.goto (-17), 3) := by decide +kernel
theorem dX10_chance_64 : decode cX10_chance 64 = .ok (.aload_n 0, 1) := by decide +kernel
theorem dX10_chance_65 : decode cX10_chance 65 = .ok (.getfield 99, 3) := by decide +kernel
theorem dX10_chance_68 : decode cX10_chance 68 = .ok (.iconst 0, 1) := by decide +kernel
theorem dX10_chance_69 : decode cX10_chance 69 = .ok (.aload_n 0, 1) := by decide +kernel
theorem dX10_chance_70 : decode cX10_chance 70 = .ok (.getfield 105, 3) := by decide +kernel
theorem dX10_chance_73 : decode cX10_chance 73 = .ok (.iconst 0, 1) := by decide +kernel
theorem dX10_chance_74 : decode cX10_chance 74 = .ok (.invokestatic 355, 3) := by decide +kernel
theorem dX10_chance_77 : decode cX10_chance 77 = .ok (.iconst 0, 1) := by decide +kernel
theorem dX10_chance_78 : decode cX10_chance 78 = .ok (.istore 8, 2) := by decide +kernel
theorem dX10_chance_80 : decode cX10_chance 80 = .ok (.iload 8, 2) := by decide +kernel
theorem dX10_chance_82 : decode cX10_chance 82 = .ok (.iconst 1, 1) := by decide +kernel
theorem dX10_chance_83 : decode cX10_chance 83 = .ok (.iload_n 2, 1) := by decide +kernel
theorem dX10_chance_84 : decode cX10_chance 84 = .ok (.ishl, 1) := by decide +kernel
theorem dX10_chance_85 : decode cX10_chance 85 = .ok (.if_icmp .ge 124, 3) := by decide +kernel
theorem dX10_chance_88 : decode cX10_chance 88 = .ok (.lconst 1, 1) := by decide +kernel
theorem dX10_chance_89 : decode cX10_chance 89 = .ok (.lstore 9, 2) := by decide +kernel
theorem dX10_chance_91 : decode cX10_chance 91 = .ok (.iconst 0, 1) := by decide +kernel
theorem dX10_chance_92 : decode cX10_chance 92 = .ok (.istore 11, 2) := by decide +kernel
theorem dX10_chance_94 : decode cX10_chance 94 = .ok (.iload 11, 2) := by decide +kernel
theorem dX10_chance_96 : decode cX10_chance 96 = .ok (.iload_n 2, 1) := by decide +kernel
theorem dX10_chance_97 : decode cX10_chance 97 = .ok (.if_icmp .ge 75, 3) := by decide +kernel
theorem dX10_chance_100 : decode cX10_chance 100 = .ok (.iload 8, 2) := by decide +kernel
theorem dX10_chance_102 : decode cX10_chance 102 = .ok (.iload 11, 2) := by decide +kernel
theorem dX10_chance_104 : decode cX10_chance 104 = .ok (.ishr, 1) := by decide +kernel
theorem dX10_chance_105 : decode cX10_chance 105 = .ok (.iconst 1, 1) := by decide +kernel
theorem dX10_chance_106 : decode cX10_chance 106 = .ok (.iand, 1) := by decide +kernel
theorem dX10_chance_107 : decode cX10_chance 107 = .ok (.iconst 1, 1) := by decide +kernel
theorem dX10_chance_108 : decode cX10_chance 108 = .ok (.if_icmp .ne 7, 3) := by decide +kernel
theorem dX10_chance_111 : decode cX10_chance 111 = .ok (.iconst 1, 1) := by decide +kernel
theorem dX10_chance_112 : decode cX10_chance 112 = .ok (.goto 4, 3) := by decide +kernel
theorem dX10_chance_115 : decode cX10_chance 115 = .ok (.iconst 0, 1) := by decide +kernel
theorem dX10_chance_116 : decode cX10_chance 116 = .ok (.istore 12, 2) := by decide +kernel
theorem dX10_chance_118 : decode cX10_chance 118 = .ok (.lload 9, 2) := by decide +kernel
theorem dX10_chance_120 : decode cX10_chance 120 = .ok (.iload 12, 2) := by decide +kernel
theorem dX10_chance_122 : decode cX10_chance 122 = .ok (.ifCond .eq 8, 3) := by decide +kernel
theorem dX10_chance_125 : decode cX10_chance 125 = .ok (.iload_n 3, 1) := by decide +kernel
theorem dX10_chance_126 : decode cX10_chance 126 = .ok (.i2l, 1) := by decide +kernel
theorem dX10_chance_127 : decode cX10_chance 127 = .ok (.goto 8, 3) := by decide +kernel
theorem dX10_chance_130 : decode cX10_chance 130 = .ok (.bipush 10, 2) := by decide +kernel
theorem dX10_chance_132 : decode cX10_chance 132 = .ok (.iload_n 3, 1) := by decide +kernel
theorem dX10_chance_133 : decode cX10_chance 133 = .ok (.isub, 1) := by decide +kernel
theorem dX10_chance_134 : decode cX10_chance 134 = .ok (.i2l, 1) := by decide +kernel
theorem dX10_chance_135 : decode cX10_chance 135 = .ok (.lmul, 1) := by decide +kernel
theorem dX10_chance_136 : decode cX10_chance 136 = .ok (.lstore 9, 2) := by decide +kernel
theorem dX10_chance_138 : decode cX10_chance 138 = .ok (.iload 12, 2) := by decide +kernel
theorem dX10_chance_140 : decode cX10_chance 140 = .ok (.ifCond .eq 22, 3) := by decide +kernel
theorem dX10_chance_143 : decode cX10_chance 143 = .ok (.aload_n 0, 1) := by decide +kernel
theorem dX10_chance_144 : decode cX10_chance 144 = .ok (.getfield 99, 3) := by decide +kernel
theorem dX10_chance_147 : decode cX10_chance 147 = .ok (.iconst 1, 1) := by decide +kernel
theorem dX10_chance_148 : decode cX10_chance 148 = .ok (.iaload, 1) := by decide +kernel
theorem dX10_chance_149 : decode cX10_chance 149 = .ok (.aload_n 0, 1) := by decide +kernel
theorem dX10_chance_150 : decode cX10_chance 150 = .ok (.iload_n 1, 1) := by decide +kernel
theorem dX10_chance_151 : decode cX10_chance 151 = .ok (.invokevirtual 331, 3) := by decide +kernel
theorem dX10_chance_154 : decode cX10_chance 154 = .ok (.if_icmp .lt 8, 3) := by decide +kernel
theorem dX10_chance_157 : decode cX10_chance 157 = .ok (.aload_n 0, 1) := by decide +kernel
theorem dX10_chance_158 : decode cX10_chance 158 = .ok (.iload_n 1, 1) := by decide +kernel
theorem dX10_chance_159 : decode cX10_chance 159 = .ok (.invokevirtual 362, 3) := by decide +kernel
theorem dX10_chance_162 : decode cX10_chance 162 = .ok (.aload_n 0, 1) := by decide +kernel
theorem dX10_chance_163 : decode cX10_chance 163 = .ok (.invokevirtual 368, 3) := by decide +kernel
theorem dX10_chance_166 : decode cX10_chance 166 = .ok (.iinc 11 1, 3) := by decide +kernel
theorem dX10_chance_169 : decode cX10_chance 169 = .ok (.goto (-75), 3) := by decide +kernel
theorem dX10_chance_172 : decode cX10_chance 172 = .ok (.aload_n 0, 1) := by decide +kernel
theorem dX10_chance_173 : decode cX10_chance 173 = .ok (.getfield 99, 3) := by decide +kernel
theorem dX10_chance_176 : decode cX10_chance 176 = .ok (.iconst 2, 1) := by decide +kernel
theorem dX10_chance_177 : decode cX10_chance 177 = .ok (.iload_n 1, 1) := by decide +kernel
theorem dX10_chance_178 : decode cX10_chance 178 = .ok (.iadd, 1) := by decide +kernel
theorem dX10_chance_179 : decode cX10_chance 179 = .ok (.iaload, 1) := by decide +kernel
theorem dX10_chance_180 : decode cX10_chance 180 = .ok (.ifCond .ne 10, 3) := by decide +kernel
theorem dX10_chance_183 : decode cX10_chance 183 = .ok (.lload 4, 2) := by decide +kernel
theorem dX10_chance_185 : decode cX10_chance 185 = .ok (.lload 9, 2) := by decide +kernel
theorem dX10_chance_187 : decode cX10_chance 187 = .ok (.ladd, 1) := by decide +kernel
theorem dX10_chance_188 : decode cX10_chance 188 = .ok (.lstore 4, 2) := by decide +kernel
theorem dX10_chance_190 : decode cX10_chance 190 = .ok (.aload_n 0, 1) := by decide +kernel
theorem dX10_chance_191 : decode cX10_chance 191 = .ok (.getfield 105, 3) := by decide +kernel
theorem dX10_chance_194 : decode cX10_chance 194 = .ok (.iconst 0, 1) := by decide +kernel
theorem dX10_chance_195 : decode cX10_chance 195 = .ok (.aload_n 0, 1) := by decide +kernel
theorem dX10_chance_196 : decode cX10_chance 196 = .ok (.getfield 99, 3) := by decide +kernel
theorem dX10_chance_199 : decode cX10_chance 199 = .ok (.iconst 0, 1) := by decide +kernel
theorem dX10_chance_200 : decode cX10_chance 200 = .ok (.invokestatic 355, 3) := by decide +kernel
theorem dX10_chance_203 : decode cX10_chance 203 = .ok (.iinc 8 1, 3) := by decide +kernel
theorem dX10_chance_206 : decode cX10_chance 206 = .ok (.goto (-126), 3) := by decide +kernel
theorem dX10_chance_209 : decode cX10_chance 209 = .ok (.lload 4, 2) := by decide +kernel
theorem dX10_chance_211 : decode cX10_chance 211 = .ok (.ldc2_w 420, 3) := by decide +kernel
theorem dX10_chance_214 : decode cX10_chance 214 = .ok (.lmul, 1) := by decide +kernel
theorem dX10_chance_215 : decode cX10_chance 215 = .ok (.lload 6, 2) := by decide +kernel
theorem dX10_chance_217 : decode cX10_chance 217 = .ok (.ldiv, 1) := by decide +kernel
theorem dX10_chance_218 : decode cX10_chance 218 = .ok (.l2i, 1) := by decide +kernel
theorem dX10_chance_219 : decode cX10_chance 219 = .ok (.ireturn, 1) := by decide +kernel
def fX10_chance_b190 (n : Nat) (K80 : Nat → Int32 → Int32 → Int32 → Int64 → Int64 → Int32 → qH → Option (Int32 × qH)) (v0 : Nat) (v1 : Int32) (v2 : Int32) (v3 : Int32) (v4 : Int64) (v6 : Int64) (v8 : Int32) (h : qH) : Option (Int32 × qH) :=
  (gR h v0 10 43).bind fun x1 =>
  (gR h v0 10 41).bind fun x3 =>
  (fX10_copies n x1 0 x3 0 h).bind fun h5 =>
  K80 v0 v1 v2 v3 v4 v6 (v8 + 1) h5
set_option maxHeartbeats 4000000 in
set_option maxRecDepth 100000 in
theorem okX10_chance_b190 {l : Launch} {n : Nat} {K80 : Nat → Int32 → Int32 → Int32 → Int64 → Int64 → Int32 → qH → Option (Int32 × qH)} {v0 : Nat} {v1 : Int32} {v2 : Int32} {v3 : Int32} {v4 : Int64} {v6 : Int64} {v8 : Int32} {h : qH} {r : Int32} {h' : qH} (hK80 : ∀ (v0 : Nat) (v1 : Int32) (v2 : Int32) (v3 : Int32) (v4 : Int64) (v6 : Int64) (v8 : Int32) (h : qH), K80 v0 v1 v2 v3 v4 v6 v8 h = some (r, h') → q_W l 6 yX10_chance cX10_chance 13 (some .int) (some (.int r)) h' 80 [(0, .ref v0), (1, .int v1), (2, .int v2), (3, .int v3), (4, .long v4), (6, .long v6), (8, .int v8)] [] h) (hyp : fX10_chance_b190 n K80 v0 v1 v2 v3 v4 v6 v8 h = some (r, h')) : q_W l 6 yX10_chance cX10_chance 13 (some .int) (some (.int r)) h' 190 [(0, .ref v0), (1, .int v1), (2, .int v2), (3, .int v3), (4, .long v4), (6, .long v6), (8, .int v8)] [] h := by
  unfold fX10_chance_b190 at hyp
  refine q_aload_n 0 rfl dX10_chance_190 ?_
  refine q_bind hyp (fun x1 e2 hyp => ?_)
  refine q_getR kF_X10_105 dX10_chance_191 e2 ?_
  refine q_iconst (x := 0) rfl dX10_chance_194 ?_
  refine q_aload_n 0 rfl dX10_chance_195 ?_
  refine q_bind hyp (fun x3 e4 hyp => ?_)
  refine q_getR kF_X10_99 dX10_chance_196 e4 ?_
  refine q_iconst (x := 0) rfl dX10_chance_199 ?_
  refine q_bind hyp (fun h5 e6 hyp => ?_)
  refine q_callS (as := [.ref x1, .int 0, .ref x3, .int 0]) (st := []) kY_X10_copies kS_X10_copies kL_X10_355 (okX10_copies (l := l) e6) (by decide) rfl (Nat.le_of_ble_eq_true rfl) dX10_chance_200 ?_
  refine q_to (ls' := [(0, .ref v0), (1, .int v1), (2, .int v2), (3, .int v3), (4, .long v4), (6, .long v6), (8, .int v8)]) (st' := []) rfl rfl ?_
  refine q_iinc (ls' := [(8, .int (v8 + 1)), (0, .ref v0), (1, .int v1), (2, .int v2), (3, .int v3), (4, .long v4), (6, .long v6)]) 6 rfl rfl (by decide) rfl dX10_chance_203 ?_
  refine q_goto (tgt := 80) dX10_chance_206 (by decide) ?_
  exact q_sub [1, 2, 3, 4, 5, 6, 0] rfl (hK80 v0 v1 v2 v3 v4 v6 (v8 + 1) h5 hyp)
def fX10_chance_b162 (n : Nat) (K94 : Nat → Int32 → Int32 → Int32 → Int64 → Int64 → Int32 → Int64 → Int32 → qH → Option (Int32 × qH)) (v0 : Nat) (v1 : Int32) (v2 : Int32) (v3 : Int32) (v4 : Int64) (v6 : Int64) (v8 : Int32) (v9 : Int64) (v11 : Int32) (h : qH) : Option (Int32 × qH) :=
  (fX10_passes n v0 h).bind fun h1 =>
  K94 v0 v1 v2 v3 v4 v6 v8 v9 (v11 + 1) h1
set_option maxHeartbeats 4000000 in
set_option maxRecDepth 100000 in
theorem okX10_chance_b162 {l : Launch} {n : Nat} {K94 : Nat → Int32 → Int32 → Int32 → Int64 → Int64 → Int32 → Int64 → Int32 → qH → Option (Int32 × qH)} {v0 : Nat} {v1 : Int32} {v2 : Int32} {v3 : Int32} {v4 : Int64} {v6 : Int64} {v8 : Int32} {v9 : Int64} {v11 : Int32} {h : qH} {r : Int32} {h' : qH} (hK94 : ∀ (v0 : Nat) (v1 : Int32) (v2 : Int32) (v3 : Int32) (v4 : Int64) (v6 : Int64) (v8 : Int32) (v9 : Int64) (v11 : Int32) (h : qH), K94 v0 v1 v2 v3 v4 v6 v8 v9 v11 h = some (r, h') → q_W l 6 yX10_chance cX10_chance 13 (some .int) (some (.int r)) h' 94 [(0, .ref v0), (1, .int v1), (2, .int v2), (3, .int v3), (4, .long v4), (6, .long v6), (8, .int v8), (9, .long v9), (11, .int v11)] [] h) (hyp : fX10_chance_b162 n K94 v0 v1 v2 v3 v4 v6 v8 v9 v11 h = some (r, h')) : q_W l 6 yX10_chance cX10_chance 13 (some .int) (some (.int r)) h' 162 [(0, .ref v0), (1, .int v1), (2, .int v2), (3, .int v3), (4, .long v4), (6, .long v6), (8, .int v8), (9, .long v9), (11, .int v11)] [] h := by
  unfold fX10_chance_b162 at hyp
  refine q_aload_n 0 rfl dX10_chance_162 ?_
  refine q_bind hyp (fun h1 e2 hyp => ?_)
  refine q_callV (as := []) (st := []) kY_X10_passes kL_X10_368 (okX10_passes (l := l) e2) (by decide) rfl (obX10_passes e2) (Nat.le_of_ble_eq_true rfl) dX10_chance_163 ?_
  refine q_to (ls' := [(0, .ref v0), (1, .int v1), (2, .int v2), (3, .int v3), (4, .long v4), (6, .long v6), (8, .int v8), (9, .long v9), (11, .int v11)]) (st' := []) rfl rfl ?_
  refine q_iinc (ls' := [(11, .int (v11 + 1)), (0, .ref v0), (1, .int v1), (2, .int v2), (3, .int v3), (4, .long v4), (6, .long v6), (8, .int v8), (9, .long v9)]) 8 rfl rfl (by decide) rfl dX10_chance_166 ?_
  refine q_goto (tgt := 94) dX10_chance_169 (by decide) ?_
  exact q_sub [1, 2, 3, 4, 5, 6, 7, 8, 0] rfl (hK94 v0 v1 v2 v3 v4 v6 v8 v9 (v11 + 1) h1 hyp)
def fX10_chance_b135 (n : Nat) (K94 : Nat → Int32 → Int32 → Int32 → Int64 → Int64 → Int32 → Int64 → Int32 → qH → Option (Int32 × qH)) (v0 : Nat) (v1 : Int32) (v2 : Int32) (v3 : Int32) (v4 : Int64) (v6 : Int64) (v8 : Int32) (v11 : Int32) (v12 : Int32) (s0 : Int64) (s1 : Int64) (h : qH) : Option (Int32 × qH) :=
  if v12 = 0 then
  (fX10_chance_b162 n K94 v0 v1 v2 v3 v4 v6 v8 (s1 * s0) v11 h)
  else
  ((gR h v0 10 41).bind fun x2 =>
  (aI .int h x2 1).bind fun x4 =>
  (fX10_priceOf v0 v1 h).bind fun p6 =>
  if x4 < p6.1 then
  (fX10_chance_b162 n K94 v0 v1 v2 v3 v4 v6 v8 (s1 * s0) v11 p6.2)
  else
  ((fX10_coats n v0 v1 p6.2).bind fun h8 =>
  fX10_chance_b162 n K94 v0 v1 v2 v3 v4 v6 v8 (s1 * s0) v11 h8))
set_option maxHeartbeats 4000000 in
set_option maxRecDepth 100000 in
theorem okX10_chance_b135 {l : Launch} {n : Nat} {K94 : Nat → Int32 → Int32 → Int32 → Int64 → Int64 → Int32 → Int64 → Int32 → qH → Option (Int32 × qH)} {v0 : Nat} {v1 : Int32} {v2 : Int32} {v3 : Int32} {v4 : Int64} {v6 : Int64} {v8 : Int32} {v11 : Int32} {v12 : Int32} {s0 : Int64} {s1 : Int64} {h : qH} {r : Int32} {h' : qH} (hK94 : ∀ (v0 : Nat) (v1 : Int32) (v2 : Int32) (v3 : Int32) (v4 : Int64) (v6 : Int64) (v8 : Int32) (v9 : Int64) (v11 : Int32) (h : qH), K94 v0 v1 v2 v3 v4 v6 v8 v9 v11 h = some (r, h') → q_W l 6 yX10_chance cX10_chance 13 (some .int) (some (.int r)) h' 94 [(0, .ref v0), (1, .int v1), (2, .int v2), (3, .int v3), (4, .long v4), (6, .long v6), (8, .int v8), (9, .long v9), (11, .int v11)] [] h) (hyp : fX10_chance_b135 n K94 v0 v1 v2 v3 v4 v6 v8 v11 v12 s0 s1 h = some (r, h')) : q_W l 6 yX10_chance cX10_chance 13 (some .int) (some (.int r)) h' 135 [(0, .ref v0), (1, .int v1), (2, .int v2), (3, .int v3), (4, .long v4), (6, .long v6), (8, .int v8), (11, .int v11), (12, .int v12)] [.long s0, .long s1] h := by
  unfold fX10_chance_b135 at hyp
  refine q_lmul dX10_chance_135 ?_
  refine q_lstore (ls' := [(9, .long (s1 * s0)), (0, .ref v0), (1, .int v1), (2, .int v2), (3, .int v3), (4, .long v4), (6, .long v6), (8, .int v8), (11, .int v11), (12, .int v12)]) (by decide) rfl dX10_chance_136 ?_
  refine q_iload 9 rfl dX10_chance_138 ?_
  refine q_if_eq (tgt := 162) dX10_chance_140 (by decide) (fun c1 => ?_) (fun c1 => ?_)
  · have hyp := q_pos c1 hyp
    exact q_sub [1, 2, 3, 4, 5, 6, 7, 0, 8] rfl (okX10_chance_b162 hK94 hyp)
  · have hyp := q_neg c1 hyp
    refine q_aload_n 1 rfl dX10_chance_143 ?_
    refine q_bind hyp (fun x2 e3 hyp => ?_)
    refine q_getR kF_X10_99 dX10_chance_144 e3 ?_
    refine q_iconst (x := 1) rfl dX10_chance_147 ?_
    refine q_bind hyp (fun x4 e5 hyp => ?_)
    refine q_iald dX10_chance_148 e5 ?_
    refine q_aload_n 1 rfl dX10_chance_149 ?_
    refine q_iload_n 2 rfl dX10_chance_150 ?_
    refine q_bind hyp (fun p6 e10 hyp => ?_)
    refine q_callV (as := [.int v1]) (st := [.int x4]) kY_X10_priceOf kL_X10_331 (okX10_priceOf (l := l) e10) (by decide) rfl (obX10_priceOf e10) (Nat.le_of_ble_eq_true rfl) dX10_chance_151 ?_
    refine q_to (ls' := [(9, .long (s1 * s0)), (0, .ref v0), (1, .int v1), (2, .int v2), (3, .int v3), (4, .long v4), (6, .long v6), (8, .int v8), (11, .int v11), (12, .int v12)]) (st' := [.int p6.1, .int x4]) rfl rfl ?_
    refine q_icmp_lt (tgt := 162) dX10_chance_154 (by decide) (fun c7 => ?_) (fun c7 => ?_)
    · have hyp := q_pos c7 hyp
      exact q_sub [1, 2, 3, 4, 5, 6, 7, 0, 8] rfl (okX10_chance_b162 hK94 hyp)
    · have hyp := q_neg c7 hyp
      refine q_aload_n 1 rfl dX10_chance_157 ?_
      refine q_iload_n 2 rfl dX10_chance_158 ?_
      refine q_bind hyp (fun h8 e9 hyp => ?_)
      refine q_callV (as := [.int v1]) (st := []) kY_X10_coats kL_X10_362 (okX10_coats (l := l) e9) (by decide) rfl (obX10_coats e9) (Nat.le_of_ble_eq_true rfl) dX10_chance_159 ?_
      refine q_to (ls' := [(9, .long (s1 * s0)), (0, .ref v0), (1, .int v1), (2, .int v2), (3, .int v3), (4, .long v4), (6, .long v6), (8, .int v8), (11, .int v11), (12, .int v12)]) (st' := []) rfl rfl ?_
      exact q_sub [1, 2, 3, 4, 5, 6, 7, 0, 8] rfl (okX10_chance_b162 hK94 hyp)
def fX10_chance_b116 (n : Nat) (K94 : Nat → Int32 → Int32 → Int32 → Int64 → Int64 → Int32 → Int64 → Int32 → qH → Option (Int32 × qH)) (v0 : Nat) (v1 : Int32) (v2 : Int32) (v3 : Int32) (v4 : Int64) (v6 : Int64) (v8 : Int32) (v9 : Int64) (v11 : Int32) (s0 : Int32) (h : qH) : Option (Int32 × qH) :=
  if s0 = 0 then
  (fX10_chance_b135 n K94 v0 v1 v2 v3 v4 v6 v8 v11 s0 ((10 - v3).toInt64) v9 h)
  else
  (fX10_chance_b135 n K94 v0 v1 v2 v3 v4 v6 v8 v11 s0 v3.toInt64 v9 h)
set_option maxHeartbeats 4000000 in
set_option maxRecDepth 100000 in
theorem okX10_chance_b116 {l : Launch} {n : Nat} {K94 : Nat → Int32 → Int32 → Int32 → Int64 → Int64 → Int32 → Int64 → Int32 → qH → Option (Int32 × qH)} {v0 : Nat} {v1 : Int32} {v2 : Int32} {v3 : Int32} {v4 : Int64} {v6 : Int64} {v8 : Int32} {v9 : Int64} {v11 : Int32} {s0 : Int32} {h : qH} {r : Int32} {h' : qH} (hK94 : ∀ (v0 : Nat) (v1 : Int32) (v2 : Int32) (v3 : Int32) (v4 : Int64) (v6 : Int64) (v8 : Int32) (v9 : Int64) (v11 : Int32) (h : qH), K94 v0 v1 v2 v3 v4 v6 v8 v9 v11 h = some (r, h') → q_W l 6 yX10_chance cX10_chance 13 (some .int) (some (.int r)) h' 94 [(0, .ref v0), (1, .int v1), (2, .int v2), (3, .int v3), (4, .long v4), (6, .long v6), (8, .int v8), (9, .long v9), (11, .int v11)] [] h) (hyp : fX10_chance_b116 n K94 v0 v1 v2 v3 v4 v6 v8 v9 v11 s0 h = some (r, h')) : q_W l 6 yX10_chance cX10_chance 13 (some .int) (some (.int r)) h' 116 [(0, .ref v0), (1, .int v1), (2, .int v2), (3, .int v3), (4, .long v4), (6, .long v6), (8, .int v8), (9, .long v9), (11, .int v11)] [.int s0] h := by
  unfold fX10_chance_b116 at hyp
  refine q_istore (ls' := [(12, .int s0), (0, .ref v0), (1, .int v1), (2, .int v2), (3, .int v3), (4, .long v4), (6, .long v6), (8, .int v8), (9, .long v9), (11, .int v11)]) (by decide) rfl dX10_chance_116 ?_
  refine q_lload 8 rfl dX10_chance_118 ?_
  refine q_iload 0 rfl dX10_chance_120 ?_
  refine q_if_eq (tgt := 130) dX10_chance_122 (by decide) (fun c1 => ?_) (fun c1 => ?_)
  · have hyp := q_pos c1 hyp
    refine q_bipush (x := 10) (by decide) dX10_chance_130 ?_
    refine q_iload_n 4 rfl dX10_chance_132 ?_
    refine q_isub dX10_chance_133 ?_
    refine q_i2l dX10_chance_134 ?_
    exact q_sub [1, 2, 3, 4, 5, 6, 7, 9, 0] rfl (okX10_chance_b135 hK94 hyp)
  · have hyp := q_neg c1 hyp
    refine q_iload_n 4 rfl dX10_chance_125 ?_
    refine q_i2l dX10_chance_126 ?_
    refine q_goto (tgt := 135) dX10_chance_127 (by decide) ?_
    exact q_sub [1, 2, 3, 4, 5, 6, 7, 9, 0] rfl (okX10_chance_b135 hK94 hyp)
def fX10_chance_b94 (n : Nat) (K80 : Nat → Int32 → Int32 → Int32 → Int64 → Int64 → Int32 → qH → Option (Int32 × qH)) : Nat → Nat → Int32 → Int32 → Int32 → Int64 → Int64 → Int32 → Int64 → Int32 → qH → Option (Int32 × qH)
  | 0, _, _, _, _, _, _, _, _, _, _ => none
  | w + 1, v0, v1, v2, v3, v4, v6, v8, v9, v11, h =>
    if v2 ≤ v11 then
    ((gR h v0 10 41).bind fun x2 =>
    (aI .int h x2 (2 + v1)).bind fun x4 =>
    if x4 = 0 then
    (fX10_chance_b190 n K80 v0 v1 v2 v3 (v4 + v9) v6 v8 h)
    else
    (fX10_chance_b190 n K80 v0 v1 v2 v3 v4 v6 v8 h))
    else
    (if ((v8 >>> (v11 &&& 31)) &&& 1) = 1 then
    (fX10_chance_b116 n (fX10_chance_b94 n K80 w) v0 v1 v2 v3 v4 v6 v8 v9 v11 1 h)
    else
    (fX10_chance_b116 n (fX10_chance_b94 n K80 w) v0 v1 v2 v3 v4 v6 v8 v9 v11 0 h))
set_option maxHeartbeats 4000000 in
set_option maxRecDepth 100000 in
theorem okX10_chance_b94 {l : Launch} {n : Nat} {K80 : Nat → Int32 → Int32 → Int32 → Int64 → Int64 → Int32 → qH → Option (Int32 × qH)} {r : Int32} {h' : qH} (hK80 : ∀ (v0 : Nat) (v1 : Int32) (v2 : Int32) (v3 : Int32) (v4 : Int64) (v6 : Int64) (v8 : Int32) (h : qH), K80 v0 v1 v2 v3 v4 v6 v8 h = some (r, h') → q_W l 6 yX10_chance cX10_chance 13 (some .int) (some (.int r)) h' 80 [(0, .ref v0), (1, .int v1), (2, .int v2), (3, .int v3), (4, .long v4), (6, .long v6), (8, .int v8)] [] h) : ∀ (w : Nat) (v0 : Nat) (v1 : Int32) (v2 : Int32) (v3 : Int32) (v4 : Int64) (v6 : Int64) (v8 : Int32) (v9 : Int64) (v11 : Int32) (h : qH), fX10_chance_b94 n K80 w v0 v1 v2 v3 v4 v6 v8 v9 v11 h = some (r, h') → q_W l 6 yX10_chance cX10_chance 13 (some .int) (some (.int r)) h' 94 [(0, .ref v0), (1, .int v1), (2, .int v2), (3, .int v3), (4, .long v4), (6, .long v6), (8, .int v8), (9, .long v9), (11, .int v11)] [] h := by
  intro w
  induction w with
  | zero => intro v0 v1 v2 v3 v4 v6 v8 v9 v11 h hyp; cases hyp
  | succ w ih =>
    intro v0 v1 v2 v3 v4 v6 v8 v9 v11 h hyp
    unfold fX10_chance_b94 at hyp
    refine q_iload 8 rfl dX10_chance_94 ?_
    refine q_iload_n 2 rfl dX10_chance_96 ?_
    refine q_icmp_ge (tgt := 172) dX10_chance_97 (by decide) (fun c1 => ?_) (fun c1 => ?_)
    · have hyp := q_pos c1 hyp
      refine q_aload_n 0 rfl dX10_chance_172 ?_
      refine q_bind hyp (fun x2 e3 hyp => ?_)
      refine q_getR kF_X10_99 dX10_chance_173 e3 ?_
      refine q_iconst (x := 2) rfl dX10_chance_176 ?_
      refine q_iload_n 1 rfl dX10_chance_177 ?_
      refine q_iadd dX10_chance_178 ?_
      refine q_bind hyp (fun x4 e5 hyp => ?_)
      refine q_iald dX10_chance_179 e5 ?_
      refine q_if_ne (tgt := 190) dX10_chance_180 (by decide) (fun c6 => ?_) (fun c6 => ?_)
      · have hyp := q_neg c6 hyp
        exact q_sub [0, 1, 2, 3, 4, 5, 6] rfl (okX10_chance_b190 hK80 hyp)
      · have hyp := q_pos c6 hyp
        refine q_lload 4 rfl dX10_chance_183 ?_
        refine q_lload 7 rfl dX10_chance_185 ?_
        refine q_ladd dX10_chance_187 ?_
        refine q_lstore (ls' := [(4, .long (v4 + v9)), (0, .ref v0), (1, .int v1), (2, .int v2), (3, .int v3), (6, .long v6), (8, .int v8), (9, .long v9), (11, .int v11)]) (by decide) rfl dX10_chance_188 ?_
        exact q_sub [1, 2, 3, 4, 0, 5, 6] rfl (okX10_chance_b190 hK80 hyp)
    · have hyp := q_neg c1 hyp
      refine q_iload 6 rfl dX10_chance_100 ?_
      refine q_iload 8 rfl dX10_chance_102 ?_
      refine q_ishr dX10_chance_104 ?_
      refine q_iconst (x := 1) rfl dX10_chance_105 ?_
      refine q_iand dX10_chance_106 ?_
      refine q_iconst (x := 1) rfl dX10_chance_107 ?_
      refine q_icmp_ne (tgt := 115) dX10_chance_108 (by decide) (fun c7 => ?_) (fun c7 => ?_)
      · have hyp := q_neg c7 hyp
        refine q_iconst (x := 0) rfl dX10_chance_115 ?_
        exact q_sub [0, 1, 2, 3, 4, 5, 6, 7, 8] rfl (okX10_chance_b116 ih hyp)
      · have hyp := q_pos c7 hyp
        refine q_iconst (x := 1) rfl dX10_chance_111 ?_
        refine q_goto (tgt := 116) dX10_chance_112 (by decide) ?_
        exact q_sub [0, 1, 2, 3, 4, 5, 6, 7, 8] rfl (okX10_chance_b116 ih hyp)
def fX10_chance_b80 (n : Nat) : Nat → Nat → Int32 → Int32 → Int32 → Int64 → Int64 → Int32 → qH → Option (Int32 × qH)
  | 0, _, _, _, _, _, _, _, _ => none
  | w + 1, v0, v1, v2, v3, v4, v6, v8, h =>
    if ((1 : Int32) <<< (v2 &&& 31)) ≤ v8 then
    ((qZL v6).bind fun _ =>
    some (((v4 * 1000000) / v6).toInt32, h))
    else
    (fX10_chance_b94 n (fX10_chance_b80 n w) n v0 v1 v2 v3 v4 v6 v8 1 0 h)
set_option maxHeartbeats 4000000 in
set_option maxRecDepth 100000 in
theorem okX10_chance_b80 {l : Launch} {n : Nat} {r : Int32} {h' : qH} : ∀ (w : Nat) (v0 : Nat) (v1 : Int32) (v2 : Int32) (v3 : Int32) (v4 : Int64) (v6 : Int64) (v8 : Int32) (h : qH), fX10_chance_b80 n w v0 v1 v2 v3 v4 v6 v8 h = some (r, h') → q_W l 6 yX10_chance cX10_chance 13 (some .int) (some (.int r)) h' 80 [(0, .ref v0), (1, .int v1), (2, .int v2), (3, .int v3), (4, .long v4), (6, .long v6), (8, .int v8)] [] h := by
  intro w
  induction w with
  | zero => intro v0 v1 v2 v3 v4 v6 v8 h hyp; cases hyp
  | succ w ih =>
    intro v0 v1 v2 v3 v4 v6 v8 h hyp
    unfold fX10_chance_b80 at hyp
    refine q_iload 6 rfl dX10_chance_80 ?_
    refine q_iconst (x := 1) rfl dX10_chance_82 ?_
    refine q_iload_n 2 rfl dX10_chance_83 ?_
    refine q_ishl dX10_chance_84 ?_
    refine q_icmp_ge (tgt := 209) dX10_chance_85 (by decide) (fun c1 => ?_) (fun c1 => ?_)
    · have hyp := q_pos c1 hyp
      refine q_lload 4 rfl dX10_chance_209 ?_
      refine q_ldc2 kK_X10_420 dX10_chance_211 ?_
      refine q_lmul dX10_chance_214 ?_
      refine q_lload 5 rfl dX10_chance_215 ?_
      refine q_bind hyp (fun _ e2 hyp => ?_)
      refine q_ldiv dX10_chance_217 (qZL_some e2) ?_
      refine q_l2i dX10_chance_218 ?_
      exact q_iretH rfl rfl dX10_chance_219 hyp
    · have hyp := q_neg c1 hyp
      refine q_lconst (x := 1) rfl dX10_chance_88 ?_
      refine q_lstore (ls' := [(9, .long 1), (0, .ref v0), (1, .int v1), (2, .int v2), (3, .int v3), (4, .long v4), (6, .long v6), (8, .int v8)]) (by decide) rfl dX10_chance_89 ?_
      refine q_iconst (x := 0) rfl dX10_chance_91 ?_
      refine q_istore (ls' := [(11, .int 0), (9, .long 1), (0, .ref v0), (1, .int v1), (2, .int v2), (3, .int v3), (4, .long v4), (6, .long v6), (8, .int v8)]) (by decide) rfl dX10_chance_92 ?_
      exact q_sub [2, 3, 4, 5, 6, 7, 8, 1, 0] rfl (okX10_chance_b94 ih _ v0 v1 v2 v3 v4 v6 v8 1 0 h hyp)
def fX10_chance_b44 (n : Nat) : Nat → Nat → Int32 → Int32 → Int32 → Int64 → Int64 → Int32 → qH → Option (Int32 × qH)
  | 0, _, _, _, _, _, _, _, _ => none
  | w + 1, v0, v1, v2, v3, v4, v6, v8, h =>
    if v2 ≤ v8 then
    ((gR h v0 10 41).bind fun x2 =>
    (gR h v0 10 43).bind fun x4 =>
    (fX10_copies n x2 0 x4 0 h).bind fun h6 =>
    fX10_chance_b80 n n v0 v1 v2 v3 v4 v6 0 h6)
    else
    (fX10_chance_b44 n w v0 v1 v2 v3 v4 (v6 * 10) (v8 + 1) h)
set_option maxHeartbeats 4000000 in
set_option maxRecDepth 100000 in
theorem okX10_chance_b44 {l : Launch} {n : Nat} {r : Int32} {h' : qH} : ∀ (w : Nat) (v0 : Nat) (v1 : Int32) (v2 : Int32) (v3 : Int32) (v4 : Int64) (v6 : Int64) (v8 : Int32) (h : qH), fX10_chance_b44 n w v0 v1 v2 v3 v4 v6 v8 h = some (r, h') → q_W l 6 yX10_chance cX10_chance 13 (some .int) (some (.int r)) h' 44 [(0, .ref v0), (1, .int v1), (2, .int v2), (3, .int v3), (4, .long v4), (6, .long v6), (8, .int v8)] [] h := by
  intro w
  induction w with
  | zero => intro v0 v1 v2 v3 v4 v6 v8 h hyp; cases hyp
  | succ w ih =>
    intro v0 v1 v2 v3 v4 v6 v8 h hyp
    unfold fX10_chance_b44 at hyp
    refine q_iload 6 rfl dX10_chance_44 ?_
    refine q_iload_n 2 rfl dX10_chance_46 ?_
    refine q_icmp_ge (tgt := 64) dX10_chance_47 (by decide) (fun c1 => ?_) (fun c1 => ?_)
    · have hyp := q_pos c1 hyp
      refine q_aload_n 0 rfl dX10_chance_64 ?_
      refine q_bind hyp (fun x2 e3 hyp => ?_)
      refine q_getR kF_X10_99 dX10_chance_65 e3 ?_
      refine q_iconst (x := 0) rfl dX10_chance_68 ?_
      refine q_aload_n 0 rfl dX10_chance_69 ?_
      refine q_bind hyp (fun x4 e5 hyp => ?_)
      refine q_getR kF_X10_105 dX10_chance_70 e5 ?_
      refine q_iconst (x := 0) rfl dX10_chance_73 ?_
      refine q_bind hyp (fun h6 e7 hyp => ?_)
      refine q_callS (as := [.ref x2, .int 0, .ref x4, .int 0]) (st := []) kY_X10_copies kS_X10_copies kL_X10_355 (okX10_copies (l := l) e7) (by decide) rfl (Nat.le_of_ble_eq_true rfl) dX10_chance_74 ?_
      refine q_to (ls' := [(0, .ref v0), (1, .int v1), (2, .int v2), (3, .int v3), (4, .long v4), (6, .long v6), (8, .int v8)]) (st' := []) rfl rfl ?_
      refine q_iconst (x := 0) rfl dX10_chance_77 ?_
      refine q_istore (ls' := [(8, .int 0), (0, .ref v0), (1, .int v1), (2, .int v2), (3, .int v3), (4, .long v4), (6, .long v6)]) (by decide) rfl dX10_chance_78 ?_
      exact q_sub [1, 2, 3, 4, 5, 6, 0] rfl (okX10_chance_b80 _ v0 v1 v2 v3 v4 v6 0 h6 hyp)
    · have hyp := q_neg c1 hyp
      refine q_lload 5 rfl dX10_chance_50 ?_
      refine q_ldc2 kK_X10_418 dX10_chance_52 ?_
      refine q_lmul dX10_chance_55 ?_
      refine q_lstore (ls' := [(6, .long (v6 * 10)), (0, .ref v0), (1, .int v1), (2, .int v2), (3, .int v3), (4, .long v4), (8, .int v8)]) (by decide) rfl dX10_chance_56 ?_
      refine q_iinc (ls' := [(8, .int (v8 + 1)), (6, .long (v6 * 10)), (0, .ref v0), (1, .int v1), (2, .int v2), (3, .int v3), (4, .long v4)]) 6 rfl rfl (by decide) rfl dX10_chance_58 ?_
      refine q_goto (tgt := 44) dX10_chance_61 (by decide) ?_
      exact q_sub [2, 3, 4, 5, 6, 1, 0] rfl (ih v0 v1 v2 v3 v4 (v6 * 10) (v8 + 1) h hyp)
def fX10_chance (n : Nat) (v0 : Nat) (v1 : Int32) (v2 : Int32) (v3 : Int32) (h : qH) : Option (Int32 × qH) :=
  (isO h v0 10).bind fun _ =>
  (pF h v0 10 0 (.int 0)).bind fun h1 =>
  (fX10_isMatter v0 v1 h1).bind fun p3 =>
  if p3.1 = 0 then
  (some ((-1), p3.2))
  else
  ((fX10_within v2 1 6 p3.2).bind fun p5 =>
  if p5.1 = 0 then
  (some ((-1), p5.2))
  else
  ((fX10_within v3 0 10 p5.2).bind fun p7 =>
  if p7.1 = 0 then
  (some ((-1), p7.2))
  else
  (fX10_chance_b44 n n v0 v1 v2 v3 0 1 0 p7.2)))
theorem obX10_chance {n : Nat} {v0 : Nat} {v1 : Int32} {v2 : Int32} {v3 : Int32} {h : qH} {p : Int32 × qH} (hyp : fX10_chance n v0 v1 v2 v3 h = some p) : ∃ fs, h.1 v0 = some (.inr (10, fs)) := by
  unfold fX10_chance at hyp
  exact q_bind hyp (fun _ e _ => isO_some e)
set_option maxHeartbeats 4000000 in
set_option maxRecDepth 100000 in
theorem okX10_chance {l : Launch} {n : Nat} {v0 : Nat} {v1 : Int32} {v2 : Int32} {v3 : Int32} {h : qH} {p : Int32 × qH} (hyp : fX10_chance n v0 v1 v2 v3 h = some p) : q_M l 6 yX10_chance cX10_chance 13 (some .int) [.ref v0, .int v1, .int v2, .int v3] h (some (.int p.1)) p.2 := by
  obtain ⟨r, h'⟩ := p
  unfold fX10_chance at hyp
  refine q_bind hyp (fun _ _ hyp => ?_)
  refine q_M.of (by decide) (Nat.le_of_ble_eq_true rfl) ?_
  refine q_to (ls' := [(0, .ref v0), (1, .int v1), (2, .int v2), (3, .int v3)]) (st' := []) rfl rfl ?_
  refine q_aload_n 0 rfl dX10_chance_0 ?_
  refine q_iconst (x := 0) rfl dX10_chance_1 ?_
  refine q_bind hyp (fun h1 e2 hyp => ?_)
  refine q_putF kF_X10_136 (fun _ => ⟨rfl, rfl⟩) dX10_chance_2 e2 ?_
  refine q_aload_n 0 rfl dX10_chance_5 ?_
  refine q_iload_n 1 rfl dX10_chance_6 ?_
  refine q_bind hyp (fun p3 e11 hyp => ?_)
  refine q_callV (as := [.int v1]) (st := []) kY_X10_isMatter kL_X10_346 (okX10_isMatter (l := l) e11) (by decide) rfl (obX10_isMatter e11) (Nat.le_of_ble_eq_true rfl) dX10_chance_7 ?_
  refine q_to (ls' := [(0, .ref v0), (1, .int v1), (2, .int v2), (3, .int v3)]) (st' := [.int p3.1]) rfl rfl ?_
  refine q_if_eq (tgt := 33) dX10_chance_10 (by decide) (fun c4 => ?_) (fun c4 => ?_)
  · have hyp := q_pos c4 hyp
    refine q_iconst (x := (-1)) rfl dX10_chance_33 ?_
    exact q_iretH rfl rfl dX10_chance_34 hyp
  · have hyp := q_neg c4 hyp
    refine q_iload_n 2 rfl dX10_chance_13 ?_
    refine q_iconst (x := 1) rfl dX10_chance_14 ?_
    refine q_bipush (x := 6) (by decide) dX10_chance_15 ?_
    refine q_bind hyp (fun p5 e10 hyp => ?_)
    refine q_callS (as := [.int v2, .int 1, .int 6]) (st := []) kY_X10_within kS_X10_within kL_X10_252 (okX10_within (l := l) e10) (by decide) rfl (Nat.le_of_ble_eq_true rfl) dX10_chance_17 ?_
    refine q_to (ls' := [(0, .ref v0), (1, .int v1), (2, .int v2), (3, .int v3)]) (st' := [.int p5.1]) rfl rfl ?_
    refine q_if_eq (tgt := 33) dX10_chance_20 (by decide) (fun c6 => ?_) (fun c6 => ?_)
    · have hyp := q_pos c6 hyp
      refine q_iconst (x := (-1)) rfl dX10_chance_33 ?_
      exact q_iretH rfl rfl dX10_chance_34 hyp
    · have hyp := q_neg c6 hyp
      refine q_iload_n 3 rfl dX10_chance_23 ?_
      refine q_iconst (x := 0) rfl dX10_chance_24 ?_
      refine q_bipush (x := 10) (by decide) dX10_chance_25 ?_
      refine q_bind hyp (fun p7 e9 hyp => ?_)
      refine q_callS (as := [.int v3, .int 0, .int 10]) (st := []) kY_X10_within kS_X10_within kL_X10_252 (okX10_within (l := l) e9) (by decide) rfl (Nat.le_of_ble_eq_true rfl) dX10_chance_27 ?_
      refine q_to (ls' := [(0, .ref v0), (1, .int v1), (2, .int v2), (3, .int v3)]) (st' := [.int p7.1]) rfl rfl ?_
      refine q_if_ne (tgt := 35) dX10_chance_30 (by decide) (fun c8 => ?_) (fun c8 => ?_)
      · have hyp := q_neg c8 hyp
        refine q_lconst (x := 0) rfl dX10_chance_35 ?_
        refine q_lstore (ls' := [(4, .long 0), (0, .ref v0), (1, .int v1), (2, .int v2), (3, .int v3)]) (by decide) rfl dX10_chance_36 ?_
        refine q_lconst (x := 1) rfl dX10_chance_38 ?_
        refine q_lstore (ls' := [(6, .long 1), (4, .long 0), (0, .ref v0), (1, .int v1), (2, .int v2), (3, .int v3)]) (by decide) rfl dX10_chance_39 ?_
        refine q_iconst (x := 0) rfl dX10_chance_41 ?_
        refine q_istore (ls' := [(8, .int 0), (6, .long 1), (4, .long 0), (0, .ref v0), (1, .int v1), (2, .int v2), (3, .int v3)]) (by decide) rfl dX10_chance_42 ?_
        exact q_sub [3, 4, 5, 6, 2, 1, 0] rfl (okX10_chance_b44 _ v0 v1 v2 v3 0 1 0 p7.2 hyp)
      · have hyp := q_pos c8 hyp
        refine q_iconst (x := (-1)) rfl dX10_chance_33 ?_
        exact q_iretH rfl rfl dX10_chance_34 hyp
theorem dX10_cheapBy_0 : decode cX10_cheapBy 0 = .ok (.aload_n 0, 1) := by decide +kernel
theorem dX10_cheapBy_1 : decode cX10_cheapBy 1 = .ok (.aload_n 0, 1) := by decide +kernel
theorem dX10_cheapBy_2 : decode cX10_cheapBy 2 = .ok (.invokevirtual 349, 3) := by decide +kernel
theorem dX10_cheapBy_5 : decode cX10_cheapBy 5 = .ok (.invokevirtual 352, 3) := by decide +kernel
theorem dX10_cheapBy_8 : decode cX10_cheapBy 8 = .ok (.iload_n 1, 1) := by decide +kernel
theorem dX10_cheapBy_9 : decode cX10_cheapBy 9 = .ok (.ishr, 1) := by decide +kernel
theorem dX10_cheapBy_10 : decode cX10_cheapBy 10 = .ok (.iconst 1, 1) := by decide +kernel
theorem dX10_cheapBy_11 : decode cX10_cheapBy 11 = .ok (.iand, 1) := by decide +kernel
theorem dX10_cheapBy_12 : decode cX10_cheapBy 12 = .ok (.iconst 1, 1) := by decide +kernel
theorem dX10_cheapBy_13 : decode cX10_cheapBy 13 = .ok (.if_icmp .ne 5, 3) := by decide +kernel
theorem dX10_cheapBy_16 : decode cX10_cheapBy 16 = .ok (.iload_n 1, 1) := by decide +kernel
theorem dX10_cheapBy_17 : decode cX10_cheapBy 17 = .ok (.ireturn, 1) := by decide +kernel
theorem dX10_cheapBy_18 : decode cX10_cheapBy 18 = .ok (.iconst (-1), 1) := by decide +kernel
theorem dX10_cheapBy_19 : decode cX10_cheapBy 19 = .ok (.istore_n 2, 1) := by decide +kernel
theorem dX10_cheapBy_20 : decode cX10_cheapBy 20 = .ok (.ldc_w 383, 3) := by decide +kernel
theorem dX10_cheapBy_23 : decode cX10_cheapBy 23 = .ok (.istore_n 3, 1) := by decide +kernel
theorem dX10_cheapBy_24 : decode cX10_cheapBy 24 = .ok (.iconst 0, 1) := by decide +kernel
theorem dX10_cheapBy_25 : decode cX10_cheapBy 25 = .ok (.istore 4, 2) := by decide +kernel
theorem dX10_cheapBy_27 : decode cX10_cheapBy 27 = .ok (.iload 4, 2) := by decide +kernel
theorem dX10_cheapBy_29 : decode cX10_cheapBy 29 = .ok (.aload_n 0, 1) := by decide +kernel
theorem dX10_cheapBy_30 : decode cX10_cheapBy 30 = .ok (.getfield 13, 3) := by decide +kernel
theorem dX10_cheapBy_33 : decode cX10_cheapBy 33 = .ok (.iconst 0, 1) := by decide +kernel
theorem dX10_cheapBy_34 : decode cX10_cheapBy 34 = .ok (.iaload, 1) := by decide +kernel
theorem dX10_cheapBy_35 : decode cX10_cheapBy 35 = .ok (.if_icmp .ge 55, 3) := by decide +kernel
theorem dX10_cheapBy_38 : decode cX10_cheapBy 38 = .ok (.iload 4, 2) := by decide +kernel
theorem dX10_cheapBy_40 : decode cX10_cheapBy 40 = .ok (.iload_n 1, 1) := by decide +kernel
theorem dX10_cheapBy_41 : decode cX10_cheapBy 41 = .ok (.if_icmp .eq 20, 3) := by decide +kernel
theorem dX10_cheapBy_44 : decode cX10_cheapBy 44 = .ok (.aload_n 0, 1) := by decide +kernel
theorem dX10_cheapBy_45 : decode cX10_cheapBy 45 = .ok (.getfield 117, 3) := by decide +kernel
theorem dX10_cheapBy_48 : decode cX10_cheapBy 48 = .ok (.iload_n 1, 1) := by decide +kernel
theorem dX10_cheapBy_49 : decode cX10_cheapBy 49 = .ok (.iaload, 1) := by decide +kernel
theorem dX10_cheapBy_50 : decode cX10_cheapBy 50 = .ok (.iload 4, 2) := by decide +kernel
theorem dX10_cheapBy_52 : decode cX10_cheapBy 52 = .ok (.ishr, 1) := by decide +kernel
theorem dX10_cheapBy_53 : decode cX10_cheapBy 53 = .ok (.iconst 1, 1) := by decide +kernel
theorem dX10_cheapBy_54 : decode cX10_cheapBy 54 = .ok (.iand, 1) := by decide +kernel
theorem dX10_cheapBy_55 : decode cX10_cheapBy 55 = .ok (.ifCond .ne 6, 3) := by decide +kernel
theorem dX10_cheapBy_58 : decode cX10_cheapBy 58 = .ok (.goto 26, 3) := by decide +kernel
theorem dX10_cheapBy_61 : decode cX10_cheapBy 61 = .ok (.aload_n 0, 1) := by decide +kernel
theorem dX10_cheapBy_62 : decode cX10_cheapBy 62 = .ok (.iload 4, 2) := by decide +kernel
theorem dX10_cheapBy_64 : decode cX10_cheapBy 64 = .ok (.invokevirtual 384, 3) := by decide +kernel
theorem dX10_cheapBy_67 : decode cX10_cheapBy 67 = .ok (.istore 5, 2) := by decide +kernel
theorem dX10_cheapBy_69 : decode cX10_cheapBy 69 = .ok (.iload 5, 2) := by decide +kernel
theorem dX10_cheapBy_71 : decode cX10_cheapBy 71 = .ok (.iload_n 3, 1) := by decide +kernel
theorem dX10_cheapBy_72 : decode cX10_cheapBy 72 = .ok (.if_icmp .lt 6, 3) := by decide +kernel
theorem dX10_cheapBy_75 : decode cX10_cheapBy 75 = .ok (.goto 9, 3) := by decide +kernel
theorem dX10_cheapBy_78 : decode cX10_cheapBy 78 = .ok (.iload 5, 2) := by decide +kernel
theorem dX10_cheapBy_80 : decode cX10_cheapBy 80 = .ok (.istore_n 3, 1) := by decide +kernel
theorem dX10_cheapBy_81 : decode cX10_cheapBy 81 = .ok (.iload 4, 2) := by decide +kernel
theorem dX10_cheapBy_83 : decode cX10_cheapBy 83 = .ok (.istore_n 2, 1) := by decide +kernel
theorem dX10_cheapBy_84 : decode cX10_cheapBy 84 = .ok (.iinc 4 1, 3) := by decide +kernel
theorem dX10_cheapBy_87 : decode cX10_cheapBy 87 = .ok (.goto (-60), 3) := by decide +kernel
theorem dX10_cheapBy_90 : decode cX10_cheapBy 90 = .ok (.iload_n 2, 1) := by decide +kernel
theorem dX10_cheapBy_91 : decode cX10_cheapBy 91 = .ok (.ireturn, 1) := by decide +kernel
def fX10_cheapBy_b61 (n : Nat) (K27 : Nat → Int32 → Int32 → Int32 → Int32 → qH → Option (Int32 × qH)) (v0 : Nat) (v1 : Int32) (v2 : Int32) (v3 : Int32) (v4 : Int32) (h : qH) : Option (Int32 × qH) :=
  (fX10_costOf n v0 v4 h).bind fun p1 =>
  if p1.1 < v3 then
  (K27 v0 v1 v4 p1.1 (v4 + 1) p1.2)
  else
  (K27 v0 v1 v2 v3 (v4 + 1) p1.2)
set_option maxHeartbeats 4000000 in
set_option maxRecDepth 100000 in
theorem okX10_cheapBy_b61 {l : Launch} {n : Nat} {K27 : Nat → Int32 → Int32 → Int32 → Int32 → qH → Option (Int32 × qH)} {v0 : Nat} {v1 : Int32} {v2 : Int32} {v3 : Int32} {v4 : Int32} {h : qH} {r : Int32} {h' : qH} (hK27 : ∀ (v0 : Nat) (v1 : Int32) (v2 : Int32) (v3 : Int32) (v4 : Int32) (h : qH), K27 v0 v1 v2 v3 v4 h = some (r, h') → q_W l 7 yX10_cheapBy cX10_cheapBy 6 (some .int) (some (.int r)) h' 27 [(0, .ref v0), (1, .int v1), (2, .int v2), (3, .int v3), (4, .int v4)] [] h) (hyp : fX10_cheapBy_b61 n K27 v0 v1 v2 v3 v4 h = some (r, h')) : q_W l 7 yX10_cheapBy cX10_cheapBy 6 (some .int) (some (.int r)) h' 61 [(0, .ref v0), (1, .int v1), (2, .int v2), (3, .int v3), (4, .int v4)] [] h := by
  unfold fX10_cheapBy_b61 at hyp
  refine q_aload_n 0 rfl dX10_cheapBy_61 ?_
  refine q_iload 4 rfl dX10_cheapBy_62 ?_
  refine q_bind hyp (fun p1 e3 hyp => ?_)
  refine q_callV (as := [.int v4]) (st := []) kY_X10_costOf kL_X10_384 (okX10_costOf (l := l) e3) (by decide) rfl (obX10_costOf e3) (Nat.le_of_ble_eq_true rfl) dX10_cheapBy_64 ?_
  refine q_to (ls' := [(0, .ref v0), (1, .int v1), (2, .int v2), (3, .int v3), (4, .int v4)]) (st' := [.int p1.1]) rfl rfl ?_
  refine q_istore (ls' := [(5, .int p1.1), (0, .ref v0), (1, .int v1), (2, .int v2), (3, .int v3), (4, .int v4)]) (by decide) rfl dX10_cheapBy_67 ?_
  refine q_iload 0 rfl dX10_cheapBy_69 ?_
  refine q_iload_n 4 rfl dX10_cheapBy_71 ?_
  refine q_icmp_lt (tgt := 78) dX10_cheapBy_72 (by decide) (fun c2 => ?_) (fun c2 => ?_)
  · have hyp := q_pos c2 hyp
    refine q_iload 0 rfl dX10_cheapBy_78 ?_
    refine q_istore_n (ls' := [(3, .int p1.1), (5, .int p1.1), (0, .ref v0), (1, .int v1), (2, .int v2), (4, .int v4)]) (by decide) rfl dX10_cheapBy_80 ?_
    refine q_iload 5 rfl dX10_cheapBy_81 ?_
    refine q_istore_n (ls' := [(2, .int v4), (3, .int p1.1), (5, .int p1.1), (0, .ref v0), (1, .int v1), (4, .int v4)]) (by decide) rfl dX10_cheapBy_83 ?_
    refine q_iinc (ls' := [(4, .int (v4 + 1)), (2, .int v4), (3, .int p1.1), (5, .int p1.1), (0, .ref v0), (1, .int v1)]) 5 rfl rfl (by decide) rfl dX10_cheapBy_84 ?_
    refine q_goto (tgt := 27) dX10_cheapBy_87 (by decide) ?_
    exact q_sub [4, 5, 1, 2, 0] rfl (hK27 v0 v1 v4 p1.1 (v4 + 1) p1.2 hyp)
  · have hyp := q_neg c2 hyp
    refine q_goto (tgt := 84) dX10_cheapBy_75 (by decide) ?_
    refine q_iinc (ls' := [(4, .int (v4 + 1)), (5, .int p1.1), (0, .ref v0), (1, .int v1), (2, .int v2), (3, .int v3)]) 5 rfl rfl (by decide) rfl dX10_cheapBy_84 ?_
    refine q_goto (tgt := 27) dX10_cheapBy_87 (by decide) ?_
    exact q_sub [2, 3, 4, 5, 0] rfl (hK27 v0 v1 v2 v3 (v4 + 1) p1.2 hyp)
def fX10_cheapBy_b27 (n : Nat) : Nat → Nat → Int32 → Int32 → Int32 → Int32 → qH → Option (Int32 × qH)
  | 0, _, _, _, _, _, _ => none
  | w + 1, v0, v1, v2, v3, v4, h =>
    (gR h v0 10 10).bind fun x1 =>
    (aI .int h x1 0).bind fun x3 =>
    if x3 ≤ v4 then
    (some (v2, h))
    else
    (if v4 = v1 then
    (fX10_cheapBy_b61 n (fX10_cheapBy_b27 n w) v0 v1 v2 v3 v4 h)
    else
    ((gR h v0 10 48).bind fun x7 =>
    (aI .int h x7 v1).bind fun x9 =>
    if ((x9 >>> (v4 &&& 31)) &&& 1) = 0 then
    (fX10_cheapBy_b27 n w v0 v1 v2 v3 (v4 + 1) h)
    else
    (fX10_cheapBy_b61 n (fX10_cheapBy_b27 n w) v0 v1 v2 v3 v4 h)))
set_option maxHeartbeats 4000000 in
set_option maxRecDepth 100000 in
theorem okX10_cheapBy_b27 {l : Launch} {n : Nat} {r : Int32} {h' : qH} : ∀ (w : Nat) (v0 : Nat) (v1 : Int32) (v2 : Int32) (v3 : Int32) (v4 : Int32) (h : qH), fX10_cheapBy_b27 n w v0 v1 v2 v3 v4 h = some (r, h') → q_W l 7 yX10_cheapBy cX10_cheapBy 6 (some .int) (some (.int r)) h' 27 [(0, .ref v0), (1, .int v1), (2, .int v2), (3, .int v3), (4, .int v4)] [] h := by
  intro w
  induction w with
  | zero => intro v0 v1 v2 v3 v4 h hyp; cases hyp
  | succ w ih =>
    intro v0 v1 v2 v3 v4 h hyp
    unfold fX10_cheapBy_b27 at hyp
    refine q_iload 4 rfl dX10_cheapBy_27 ?_
    refine q_aload_n 0 rfl dX10_cheapBy_29 ?_
    refine q_bind hyp (fun x1 e2 hyp => ?_)
    refine q_getR kF_X10_13 dX10_cheapBy_30 e2 ?_
    refine q_iconst (x := 0) rfl dX10_cheapBy_33 ?_
    refine q_bind hyp (fun x3 e4 hyp => ?_)
    refine q_iald dX10_cheapBy_34 e4 ?_
    refine q_icmp_ge (tgt := 90) dX10_cheapBy_35 (by decide) (fun c5 => ?_) (fun c5 => ?_)
    · have hyp := q_pos c5 hyp
      refine q_iload_n 2 rfl dX10_cheapBy_90 ?_
      exact q_iretH rfl rfl dX10_cheapBy_91 hyp
    · have hyp := q_neg c5 hyp
      refine q_iload 4 rfl dX10_cheapBy_38 ?_
      refine q_iload_n 1 rfl dX10_cheapBy_40 ?_
      refine q_icmp_eq (tgt := 61) dX10_cheapBy_41 (by decide) (fun c6 => ?_) (fun c6 => ?_)
      · have hyp := q_pos c6 hyp
        exact q_sub [0, 1, 2, 3, 4] rfl (okX10_cheapBy_b61 ih hyp)
      · have hyp := q_neg c6 hyp
        refine q_aload_n 0 rfl dX10_cheapBy_44 ?_
        refine q_bind hyp (fun x7 e8 hyp => ?_)
        refine q_getR kF_X10_117 dX10_cheapBy_45 e8 ?_
        refine q_iload_n 1 rfl dX10_cheapBy_48 ?_
        refine q_bind hyp (fun x9 e10 hyp => ?_)
        refine q_iald dX10_cheapBy_49 e10 ?_
        refine q_iload 4 rfl dX10_cheapBy_50 ?_
        refine q_ishr dX10_cheapBy_52 ?_
        refine q_iconst (x := 1) rfl dX10_cheapBy_53 ?_
        refine q_iand dX10_cheapBy_54 ?_
        refine q_if_ne (tgt := 61) dX10_cheapBy_55 (by decide) (fun c11 => ?_) (fun c11 => ?_)
        · have hyp := q_neg c11 hyp
          exact q_sub [0, 1, 2, 3, 4] rfl (okX10_cheapBy_b61 ih hyp)
        · have hyp := q_pos c11 hyp
          refine q_goto (tgt := 84) dX10_cheapBy_58 (by decide) ?_
          refine q_iinc (ls' := [(4, .int (v4 + 1)), (0, .ref v0), (1, .int v1), (2, .int v2), (3, .int v3)]) 4 rfl rfl (by decide) rfl dX10_cheapBy_84 ?_
          refine q_goto (tgt := 27) dX10_cheapBy_87 (by decide) ?_
          exact q_sub [1, 2, 3, 4, 0] rfl (ih v0 v1 v2 v3 (v4 + 1) h hyp)
def fX10_cheapBy (n : Nat) (v0 : Nat) (v1 : Int32) (h : qH) : Option (Int32 × qH) :=
  (isO h v0 10).bind fun _ =>
  (fX10_meantNow n v0 h).bind fun p1 =>
  (fX10_rightBy n v0 p1.1 p1.2).bind fun p2 =>
  if ((p2.1 >>> (v1 &&& 31)) &&& 1) = 1 then
  (some (v1, p2.2))
  else
  (fX10_cheapBy_b27 n n v0 v1 ((-1)) 1000000 0 p2.2)
theorem obX10_cheapBy {n : Nat} {v0 : Nat} {v1 : Int32} {h : qH} {p : Int32 × qH} (hyp : fX10_cheapBy n v0 v1 h = some p) : ∃ fs, h.1 v0 = some (.inr (10, fs)) := by
  unfold fX10_cheapBy at hyp
  exact q_bind hyp (fun _ e _ => isO_some e)
set_option maxHeartbeats 4000000 in
set_option maxRecDepth 100000 in
theorem okX10_cheapBy {l : Launch} {n : Nat} {v0 : Nat} {v1 : Int32} {h : qH} {p : Int32 × qH} (hyp : fX10_cheapBy n v0 v1 h = some p) : q_M l 7 yX10_cheapBy cX10_cheapBy 6 (some .int) [.ref v0, .int v1] h (some (.int p.1)) p.2 := by
  obtain ⟨r, h'⟩ := p
  unfold fX10_cheapBy at hyp
  refine q_bind hyp (fun _ _ hyp => ?_)
  refine q_M.of (by decide) (Nat.le_of_ble_eq_true rfl) ?_
  refine q_to (ls' := [(0, .ref v0), (1, .int v1)]) (st' := []) rfl rfl ?_
  refine q_aload_n 0 rfl dX10_cheapBy_0 ?_
  refine q_aload_n 0 rfl dX10_cheapBy_1 ?_
  refine q_bind hyp (fun p1 e5 hyp => ?_)
  refine q_callV (as := []) (st := [.ref v0]) kY_X10_meantNow kL_X10_349 (okX10_meantNow (l := l) e5) (by decide) rfl (obX10_meantNow e5) (Nat.le_of_ble_eq_true rfl) dX10_cheapBy_2 ?_
  refine q_to (ls' := [(0, .ref v0), (1, .int v1)]) (st' := [.int p1.1, .ref v0]) rfl rfl ?_
  refine q_bind hyp (fun p2 e4 hyp => ?_)
  refine q_callV (as := [.int p1.1]) (st := []) kY_X10_rightBy kL_X10_352 (okX10_rightBy (l := l) e4) (by decide) rfl (obX10_rightBy e4) (Nat.le_of_ble_eq_true rfl) dX10_cheapBy_5 ?_
  refine q_to (ls' := [(0, .ref v0), (1, .int v1)]) (st' := [.int p2.1]) rfl rfl ?_
  refine q_iload_n 1 rfl dX10_cheapBy_8 ?_
  refine q_ishr dX10_cheapBy_9 ?_
  refine q_iconst (x := 1) rfl dX10_cheapBy_10 ?_
  refine q_iand dX10_cheapBy_11 ?_
  refine q_iconst (x := 1) rfl dX10_cheapBy_12 ?_
  refine q_icmp_ne (tgt := 18) dX10_cheapBy_13 (by decide) (fun c3 => ?_) (fun c3 => ?_)
  · have hyp := q_neg c3 hyp
    refine q_iconst (x := (-1)) rfl dX10_cheapBy_18 ?_
    refine q_istore_n (ls' := [(2, .int ((-1))), (0, .ref v0), (1, .int v1)]) (by decide) rfl dX10_cheapBy_19 ?_
    refine q_ldcw kK_X10_383 dX10_cheapBy_20 ?_
    refine q_istore_n (ls' := [(3, .int 1000000), (2, .int ((-1))), (0, .ref v0), (1, .int v1)]) (by decide) rfl dX10_cheapBy_23 ?_
    refine q_iconst (x := 0) rfl dX10_cheapBy_24 ?_
    refine q_istore (ls' := [(4, .int 0), (3, .int 1000000), (2, .int ((-1))), (0, .ref v0), (1, .int v1)]) (by decide) rfl dX10_cheapBy_25 ?_
    exact q_sub [3, 4, 2, 1, 0] rfl (okX10_cheapBy_b27 _ v0 v1 ((-1)) 1000000 0 p2.2 hyp)
  · have hyp := q_pos c3 hyp
    refine q_iload_n 1 rfl dX10_cheapBy_16 ?_
    exact q_iretH rfl rfl dX10_cheapBy_17 hyp
theorem dX10_cheap_0 : decode cX10_cheap 0 = .ok (.aload_n 0, 1) := by decide +kernel
theorem dX10_cheap_1 : decode cX10_cheap 1 = .ok (.iconst 0, 1) := by decide +kernel
theorem dX10_cheap_2 : decode cX10_cheap 2 = .ok (.putfield 136, 3) := by decide +kernel
theorem dX10_cheap_5 : decode cX10_cheap 5 = .ok (.aload_n 0, 1) := by decide +kernel
theorem dX10_cheap_6 : decode cX10_cheap 6 = .ok (.iload_n 1, 1) := by decide +kernel
theorem dX10_cheap_7 : decode cX10_cheap 7 = .ok (.invokevirtual 346, 3) := by decide +kernel
theorem dX10_cheap_10 : decode cX10_cheap 10 = .ok (.ifCond .eq 12, 3) := by decide +kernel
theorem dX10_cheap_13 : decode cX10_cheap 13 = .ok (.iload_n 2, 1) := by decide +kernel
theorem dX10_cheap_14 : decode cX10_cheap 14 = .ok (.iconst 0, 1) := by decide +kernel
theorem dX10_cheap_15 : decode cX10_cheap 15 = .ok (.iconst 1, 1) := by decide +kernel
theorem dX10_cheap_16 : decode cX10_cheap 16 = .ok (.invokestatic 252, 3) := by decide +kernel
theorem dX10_cheap_19 : decode cX10_cheap 19 = .ok (.ifCond .ne 6, 3) := by decide +kernel
theorem dX10_cheap_22 : decode cX10_cheap 22 = .ok (.bipush (-2), 2) := by decide +kernel
theorem dX10_cheap_24 : decode cX10_cheap 24 = .ok (.ireturn, 1) := by decide +kernel
theorem dX10_cheap_25 : decode cX10_cheap 25 = .ok (.aload_n 0, 1) := by decide +kernel
theorem dX10_cheap_26 : decode cX10_cheap 26 = .ok (.iload_n 1, 1) := by decide +kernel
theorem dX10_cheap_27 : decode cX10_cheap 27 = .ok (.invokevirtual 387, 3) := by decide +kernel
theorem dX10_cheap_30 : decode cX10_cheap 30 = .ok (.istore_n 3, 1) := by decide +kernel
theorem dX10_cheap_31 : decode cX10_cheap 31 = .ok (.iload_n 3, 1) := by decide +kernel
theorem dX10_cheap_32 : decode cX10_cheap 32 = .ok (.ifCond .ge 6, 3) := by decide +kernel
theorem dX10_cheap_35 : decode cX10_cheap 35 = .ok (.bipush (-2), 2) := by decide +kernel
theorem dX10_cheap_37 : decode cX10_cheap 37 = .ok (.ireturn, 1) := by decide +kernel
theorem dX10_cheap_38 : decode cX10_cheap 38 = .ok (.iload_n 2, 1) := by decide +kernel
theorem dX10_cheap_39 : decode cX10_cheap 39 = .ok (.iconst 1, 1) := by decide +kernel
theorem dX10_cheap_40 : decode cX10_cheap 40 = .ok (.if_icmp .ne 7, 3) := by decide +kernel
theorem dX10_cheap_43 : decode cX10_cheap 43 = .ok (.iload_n 3, 1) := by decide +kernel
theorem dX10_cheap_44 : decode cX10_cheap 44 = .ok (.goto 28, 3) := by decide +kernel
theorem dX10_cheap_47 : decode cX10_cheap 47 = .ok (.aload_n 0, 1) := by decide +kernel
theorem dX10_cheap_48 : decode cX10_cheap 48 = .ok (.aload_n 0, 1) := by decide +kernel
theorem dX10_cheap_49 : decode cX10_cheap 49 = .ok (.invokevirtual 349, 3) := by decide +kernel
theorem dX10_cheap_52 : decode cX10_cheap 52 = .ok (.invokevirtual 352, 3) := by decide +kernel
theorem dX10_cheap_55 : decode cX10_cheap 55 = .ok (.iload_n 1, 1) := by decide +kernel
theorem dX10_cheap_56 : decode cX10_cheap 56 = .ok (.ishr, 1) := by decide +kernel
theorem dX10_cheap_57 : decode cX10_cheap 57 = .ok (.iconst 1, 1) := by decide +kernel
theorem dX10_cheap_58 : decode cX10_cheap 58 = .ok (.iand, 1) := by decide +kernel
theorem dX10_cheap_59 : decode cX10_cheap 59 = .ok (.iconst 1, 1) := by decide +kernel
theorem dX10_cheap_60 : decode cX10_cheap 60 = .ok (.if_icmp .ne 7, 3) := by decide +kernel
theorem dX10_cheap_63 : decode cX10_cheap 63 = .ok (.iconst 0, 1) := by decide +kernel
theorem dX10_cheap_64 : decode cX10_cheap 64 = .ok (.goto 8, 3) := by decide +kernel
theorem dX10_cheap_67 : decode cX10_cheap 67 = .ok (.aload_n 0, 1) := by decide +kernel
theorem dX10_cheap_68 : decode cX10_cheap 68 = .ok (.iload_n 3, 1) := by decide +kernel
theorem dX10_cheap_69 : decode cX10_cheap 69 = .ok (.invokevirtual 384, 3) := by decide +kernel
theorem dX10_cheap_72 : decode cX10_cheap 72 = .ok (.ireturn, 1) := by decide +kernel
def fX10_cheap (n : Nat) (v0 : Nat) (v1 : Int32) (v2 : Int32) (h : qH) : Option (Int32 × qH) :=
  (isO h v0 10).bind fun _ =>
  (pF h v0 10 0 (.int 0)).bind fun h1 =>
  (fX10_isMatter v0 v1 h1).bind fun p3 =>
  if p3.1 = 0 then
  (some ((-2), p3.2))
  else
  ((fX10_within v2 0 1 p3.2).bind fun p5 =>
  if p5.1 = 0 then
  (some ((-2), p5.2))
  else
  ((fX10_cheapBy n v0 v1 p5.2).bind fun p7 =>
  if 0 ≤ p7.1 then
  (if v2 = 1 then
  (some (p7.1, p7.2))
  else
  ((fX10_meantNow n v0 p7.2).bind fun p10 =>
  (fX10_rightBy n v0 p10.1 p10.2).bind fun p11 =>
  if ((p11.1 >>> (v1 &&& 31)) &&& 1) = 1 then
  (some (0, p11.2))
  else
  ((fX10_costOf n v0 p7.1 p11.2).bind fun p13 =>
  some (p13.1, p13.2))))
  else
  (some ((-2), p7.2))))
theorem obX10_cheap {n : Nat} {v0 : Nat} {v1 : Int32} {v2 : Int32} {h : qH} {p : Int32 × qH} (hyp : fX10_cheap n v0 v1 v2 h = some p) : ∃ fs, h.1 v0 = some (.inr (10, fs)) := by
  unfold fX10_cheap at hyp
  exact q_bind hyp (fun _ e _ => isO_some e)
set_option maxHeartbeats 4000000 in
set_option maxRecDepth 100000 in
theorem okX10_cheap {l : Launch} {n : Nat} {v0 : Nat} {v1 : Int32} {v2 : Int32} {h : qH} {p : Int32 × qH} (hyp : fX10_cheap n v0 v1 v2 h = some p) : q_M l 8 yX10_cheap cX10_cheap 4 (some .int) [.ref v0, .int v1, .int v2] h (some (.int p.1)) p.2 := by
  obtain ⟨r, h'⟩ := p
  unfold fX10_cheap at hyp
  refine q_bind hyp (fun _ _ hyp => ?_)
  refine q_M.of (by decide) (Nat.le_of_ble_eq_true rfl) ?_
  refine q_to (ls' := [(0, .ref v0), (1, .int v1), (2, .int v2)]) (st' := []) rfl rfl ?_
  refine q_aload_n 0 rfl dX10_cheap_0 ?_
  refine q_iconst (x := 0) rfl dX10_cheap_1 ?_
  refine q_bind hyp (fun h1 e2 hyp => ?_)
  refine q_putF kF_X10_136 (fun _ => ⟨rfl, rfl⟩) dX10_cheap_2 e2 ?_
  refine q_aload_n 0 rfl dX10_cheap_5 ?_
  refine q_iload_n 1 rfl dX10_cheap_6 ?_
  refine q_bind hyp (fun p3 e19 hyp => ?_)
  refine q_callV (as := [.int v1]) (st := []) kY_X10_isMatter kL_X10_346 (okX10_isMatter (l := l) e19) (by decide) rfl (obX10_isMatter e19) (Nat.le_of_ble_eq_true rfl) dX10_cheap_7 ?_
  refine q_to (ls' := [(0, .ref v0), (1, .int v1), (2, .int v2)]) (st' := [.int p3.1]) rfl rfl ?_
  refine q_if_eq (tgt := 22) dX10_cheap_10 (by decide) (fun c4 => ?_) (fun c4 => ?_)
  · have hyp := q_pos c4 hyp
    refine q_bipush (x := (-2)) (by decide) dX10_cheap_22 ?_
    exact q_iretH rfl rfl dX10_cheap_24 hyp
  · have hyp := q_neg c4 hyp
    refine q_iload_n 2 rfl dX10_cheap_13 ?_
    refine q_iconst (x := 0) rfl dX10_cheap_14 ?_
    refine q_iconst (x := 1) rfl dX10_cheap_15 ?_
    refine q_bind hyp (fun p5 e18 hyp => ?_)
    refine q_callS (as := [.int v2, .int 0, .int 1]) (st := []) kY_X10_within kS_X10_within kL_X10_252 (okX10_within (l := l) e18) (by decide) rfl (Nat.le_of_ble_eq_true rfl) dX10_cheap_16 ?_
    refine q_to (ls' := [(0, .ref v0), (1, .int v1), (2, .int v2)]) (st' := [.int p5.1]) rfl rfl ?_
    refine q_if_ne (tgt := 25) dX10_cheap_19 (by decide) (fun c6 => ?_) (fun c6 => ?_)
    · have hyp := q_neg c6 hyp
      refine q_aload_n 0 rfl dX10_cheap_25 ?_
      refine q_iload_n 1 rfl dX10_cheap_26 ?_
      refine q_bind hyp (fun p7 e17 hyp => ?_)
      refine q_callV (as := [.int v1]) (st := []) kY_X10_cheapBy kL_X10_387 (okX10_cheapBy (l := l) e17) (by decide) rfl (obX10_cheapBy e17) (Nat.le_of_ble_eq_true rfl) dX10_cheap_27 ?_
      refine q_to (ls' := [(0, .ref v0), (1, .int v1), (2, .int v2)]) (st' := [.int p7.1]) rfl rfl ?_
      refine q_istore_n (ls' := [(3, .int p7.1), (0, .ref v0), (1, .int v1), (2, .int v2)]) (by decide) rfl dX10_cheap_30 ?_
      refine q_iload_n 0 rfl dX10_cheap_31 ?_
      refine q_if_ge (tgt := 38) dX10_cheap_32 (by decide) (fun c8 => ?_) (fun c8 => ?_)
      · have hyp := q_pos c8 hyp
        refine q_iload_n 3 rfl dX10_cheap_38 ?_
        refine q_iconst (x := 1) rfl dX10_cheap_39 ?_
        refine q_icmp_ne (tgt := 47) dX10_cheap_40 (by decide) (fun c9 => ?_) (fun c9 => ?_)
        · have hyp := q_neg c9 hyp
          refine q_aload_n 1 rfl dX10_cheap_47 ?_
          refine q_aload_n 1 rfl dX10_cheap_48 ?_
          refine q_bind hyp (fun p10 e16 hyp => ?_)
          refine q_callV (as := []) (st := [.ref v0]) kY_X10_meantNow kL_X10_349 (okX10_meantNow (l := l) e16) (by decide) rfl (obX10_meantNow e16) (Nat.le_of_ble_eq_true rfl) dX10_cheap_49 ?_
          refine q_to (ls' := [(3, .int p7.1), (0, .ref v0), (1, .int v1), (2, .int v2)]) (st' := [.int p10.1, .ref v0]) rfl rfl ?_
          refine q_bind hyp (fun p11 e15 hyp => ?_)
          refine q_callV (as := [.int p10.1]) (st := []) kY_X10_rightBy kL_X10_352 (okX10_rightBy (l := l) e15) (by decide) rfl (obX10_rightBy e15) (Nat.le_of_ble_eq_true rfl) dX10_cheap_52 ?_
          refine q_to (ls' := [(3, .int p7.1), (0, .ref v0), (1, .int v1), (2, .int v2)]) (st' := [.int p11.1]) rfl rfl ?_
          refine q_iload_n 2 rfl dX10_cheap_55 ?_
          refine q_ishr dX10_cheap_56 ?_
          refine q_iconst (x := 1) rfl dX10_cheap_57 ?_
          refine q_iand dX10_cheap_58 ?_
          refine q_iconst (x := 1) rfl dX10_cheap_59 ?_
          refine q_icmp_ne (tgt := 67) dX10_cheap_60 (by decide) (fun c12 => ?_) (fun c12 => ?_)
          · have hyp := q_neg c12 hyp
            refine q_aload_n 1 rfl dX10_cheap_67 ?_
            refine q_iload_n 0 rfl dX10_cheap_68 ?_
            refine q_bind hyp (fun p13 e14 hyp => ?_)
            refine q_callV (as := [.int p7.1]) (st := []) kY_X10_costOf kL_X10_384 (okX10_costOf (l := l) e14) (by decide) rfl (obX10_costOf e14) (Nat.le_of_ble_eq_true rfl) dX10_cheap_69 ?_
            refine q_to (ls' := [(3, .int p7.1), (0, .ref v0), (1, .int v1), (2, .int v2)]) (st' := [.int p13.1]) rfl rfl ?_
            exact q_iretH rfl rfl dX10_cheap_72 hyp
          · have hyp := q_pos c12 hyp
            refine q_iconst (x := 0) rfl dX10_cheap_63 ?_
            refine q_goto (tgt := 72) dX10_cheap_64 (by decide) ?_
            exact q_iretH rfl rfl dX10_cheap_72 hyp
        · have hyp := q_pos c9 hyp
          refine q_iload_n 0 rfl dX10_cheap_43 ?_
          refine q_goto (tgt := 72) dX10_cheap_44 (by decide) ?_
          exact q_iretH rfl rfl dX10_cheap_72 hyp
      · have hyp := q_neg c8 hyp
        refine q_bipush (x := (-2)) (by decide) dX10_cheap_35 ?_
        exact q_iretH rfl rfl dX10_cheap_37 hyp
    · have hyp := q_pos c6 hyp
      refine q_bipush (x := (-2)) (by decide) dX10_cheap_22 ?_
      exact q_iretH rfl rfl dX10_cheap_24 hyp
theorem dX10_fails_0 : decode cX10_fails 0 = .ok (.aload_n 0, 1) := by decide +kernel
theorem dX10_fails_1 : decode cX10_fails 1 = .ok (.iload_n 1, 1) := by decide +kernel
theorem dX10_fails_2 : decode cX10_fails 2 = .ok (.bipush 16, 2) := by decide +kernel
theorem dX10_fails_4 : decode cX10_fails 4 = .ok (.aload_n 0, 1) := by decide +kernel
theorem dX10_fails_5 : decode cX10_fails 5 = .ok (.getfield 151, 3) := by decide +kernel
theorem dX10_fails_8 : decode cX10_fails 8 = .ok (.imul, 1) := by decide +kernel
theorem dX10_fails_9 : decode cX10_fails 9 = .ok (.iadd, 1) := by decide +kernel
theorem dX10_fails_10 : decode cX10_fails 10 = .ok (.putfield 172, 3) := by decide +kernel
theorem dX10_fails_13 : decode cX10_fails 13 = .ok (.iconst 0, 1) := by decide +kernel
theorem dX10_fails_14 : decode cX10_fails 14 = .ok (.ireturn, 1) := by decide +kernel
def fX10_fails (v0 : Nat) (v1 : Int32) (h : qH) : Option (Int32 × qH) :=
  (isO h v0 10).bind fun _ =>
  (gI h v0 10 5).bind fun x1 =>
  (pF h v0 10 9 (.int (v1 + (16 * x1)))).bind fun h3 =>
  some (0, h3)
theorem obX10_fails {v0 : Nat} {v1 : Int32} {h : qH} {p : Int32 × qH} (hyp : fX10_fails v0 v1 h = some p) : ∃ fs, h.1 v0 = some (.inr (10, fs)) := by
  unfold fX10_fails at hyp
  exact q_bind hyp (fun _ e _ => isO_some e)
set_option maxHeartbeats 4000000 in
set_option maxRecDepth 100000 in
theorem okX10_fails {l : Launch} {v0 : Nat} {v1 : Int32} {h : qH} {p : Int32 × qH} (hyp : fX10_fails v0 v1 h = some p) : q_M l 1 yX10_fails cX10_fails 2 (some .boolean) [.ref v0, .int v1] h (some (.int p.1)) p.2 := by
  obtain ⟨r, h'⟩ := p
  unfold fX10_fails at hyp
  refine q_bind hyp (fun _ _ hyp => ?_)
  refine q_M.of (by decide) (Nat.le_of_ble_eq_true rfl) ?_
  refine q_to (ls' := [(0, .ref v0), (1, .int v1)]) (st' := []) rfl rfl ?_
  refine q_aload_n 0 rfl dX10_fails_0 ?_
  refine q_iload_n 1 rfl dX10_fails_1 ?_
  refine q_bipush (x := 16) (by decide) dX10_fails_2 ?_
  refine q_aload_n 0 rfl dX10_fails_4 ?_
  refine q_bind hyp (fun x1 e2 hyp => ?_)
  refine q_getI kF_X10_151 dX10_fails_5 e2 ?_
  refine q_imul dX10_fails_8 ?_
  refine q_iadd dX10_fails_9 ?_
  refine q_bind hyp (fun h3 e4 hyp => ?_)
  refine q_putF kF_X10_172 (fun _ => ⟨rfl, rfl⟩) dX10_fails_10 e4 ?_
  refine q_iconst (x := 0) rfl dX10_fails_13 ?_
  exact q_iretH rfl rfl dX10_fails_14 hyp
theorem dX10_isSign_0 : decode cX10_isSign 0 = .ok (.aload_n 0, 1) := by decide +kernel
theorem dX10_isSign_1 : decode cX10_isSign 1 = .ok (.getfield 161, 3) := by decide +kernel
theorem dX10_isSign_4 : decode cX10_isSign 4 = .ok (.iconst 3, 1) := by decide +kernel
theorem dX10_isSign_5 : decode cX10_isSign 5 = .ok (.if_icmp .ne 20, 3) := by decide +kernel
theorem dX10_isSign_8 : decode cX10_isSign 8 = .ok (.aload_n 0, 1) := by decide +kernel
theorem dX10_isSign_9 : decode cX10_isSign 9 = .ok (.getfield 7, 3) := by decide +kernel
theorem dX10_isSign_12 : decode cX10_isSign 12 = .ok (.aload_n 0, 1) := by decide +kernel
theorem dX10_isSign_13 : decode cX10_isSign 13 = .ok (.getfield 151, 3) := by decide +kernel
theorem dX10_isSign_16 : decode cX10_isSign 16 = .ok (.iaload, 1) := by decide +kernel
theorem dX10_isSign_17 : decode cX10_isSign 17 = .ok (.iload_n 1, 1) := by decide +kernel
theorem dX10_isSign_18 : decode cX10_isSign 18 = .ok (.if_icmp .ne 7, 3) := by decide +kernel
theorem dX10_isSign_21 : decode cX10_isSign 21 = .ok (.iconst 1, 1) := by decide +kernel
theorem dX10_isSign_22 : decode cX10_isSign 22 = .ok (.goto 4, 3) := by decide +kernel
theorem dX10_isSign_25 : decode cX10_isSign 25 = .ok (.iconst 0, 1) := by decide +kernel
theorem dX10_isSign_26 : decode cX10_isSign 26 = .ok (.ireturn, 1) := by decide +kernel
def fX10_isSign (v0 : Nat) (v1 : Int32) (h : qH) : Option (Int32 × qH) :=
  (isO h v0 10).bind fun _ =>
  (gI h v0 10 6).bind fun x1 =>
  if x1 = 3 then
  ((gR h v0 10 2).bind fun x4 =>
  (gI h v0 10 5).bind fun x6 =>
  (aI .int h x4 x6).bind fun x8 =>
  if x8 = v1 then
  (some (1, h))
  else
  (some (0, h)))
  else
  (some (0, h))
theorem obX10_isSign {v0 : Nat} {v1 : Int32} {h : qH} {p : Int32 × qH} (hyp : fX10_isSign v0 v1 h = some p) : ∃ fs, h.1 v0 = some (.inr (10, fs)) := by
  unfold fX10_isSign at hyp
  exact q_bind hyp (fun _ e _ => isO_some e)
set_option maxHeartbeats 4000000 in
set_option maxRecDepth 100000 in
theorem okX10_isSign {l : Launch} {v0 : Nat} {v1 : Int32} {h : qH} {p : Int32 × qH} (hyp : fX10_isSign v0 v1 h = some p) : q_M l 1 yX10_isSign cX10_isSign 2 (some .boolean) [.ref v0, .int v1] h (some (.int p.1)) p.2 := by
  obtain ⟨r, h'⟩ := p
  unfold fX10_isSign at hyp
  refine q_bind hyp (fun _ _ hyp => ?_)
  refine q_M.of (by decide) (Nat.le_of_ble_eq_true rfl) ?_
  refine q_to (ls' := [(0, .ref v0), (1, .int v1)]) (st' := []) rfl rfl ?_
  refine q_aload_n 0 rfl dX10_isSign_0 ?_
  refine q_bind hyp (fun x1 e2 hyp => ?_)
  refine q_getI kF_X10_161 dX10_isSign_1 e2 ?_
  refine q_iconst (x := 3) rfl dX10_isSign_4 ?_
  refine q_icmp_ne (tgt := 25) dX10_isSign_5 (by decide) (fun c3 => ?_) (fun c3 => ?_)
  · have hyp := q_neg c3 hyp
    refine q_iconst (x := 0) rfl dX10_isSign_25 ?_
    exact q_iretH rfl rfl dX10_isSign_26 hyp
  · have hyp := q_pos c3 hyp
    refine q_aload_n 0 rfl dX10_isSign_8 ?_
    refine q_bind hyp (fun x4 e5 hyp => ?_)
    refine q_getR kF_X10_7 dX10_isSign_9 e5 ?_
    refine q_aload_n 0 rfl dX10_isSign_12 ?_
    refine q_bind hyp (fun x6 e7 hyp => ?_)
    refine q_getI kF_X10_151 dX10_isSign_13 e7 ?_
    refine q_bind hyp (fun x8 e9 hyp => ?_)
    refine q_iald dX10_isSign_16 e9 ?_
    refine q_iload_n 1 rfl dX10_isSign_17 ?_
    refine q_icmp_ne (tgt := 25) dX10_isSign_18 (by decide) (fun c10 => ?_) (fun c10 => ?_)
    · have hyp := q_neg c10 hyp
      refine q_iconst (x := 0) rfl dX10_isSign_25 ?_
      exact q_iretH rfl rfl dX10_isSign_26 hyp
    · have hyp := q_pos c10 hyp
      refine q_iconst (x := 1) rfl dX10_isSign_21 ?_
      refine q_goto (tgt := 26) dX10_isSign_22 (by decide) ?_
      exact q_iretH rfl rfl dX10_isSign_26 hyp
theorem dX10_closes_0 : decode cX10_closes 0 = .ok (.aload_n 0, 1) := by decide +kernel
theorem dX10_closes_1 : decode cX10_closes 1 = .ok (.bipush 59, 2) := by decide +kernel
theorem dX10_closes_3 : decode cX10_closes 3 = .ok (.invokevirtual 196, 3) := by decide +kernel
theorem dX10_closes_6 : decode cX10_closes 6 = .ok (.ifCond .ne 9, 3) := by decide +kernel
theorem dX10_closes_9 : decode cX10_closes 9 = .ok (.aload_n 0, 1) := by decide +kernel
theorem dX10_closes_10 : decode cX10_closes 10 = .ok (.iconst 1, 1) := by decide +kernel
theorem dX10_closes_11 : decode cX10_closes 11 = .ok (.invokevirtual 200, 3) := by decide +kernel
theorem dX10_closes_14 : decode cX10_closes 14 = .ok (.ireturn, 1) := by decide +kernel
theorem dX10_closes_15 : decode cX10_closes 15 = .ok (.aload_n 0, 1) := by decide +kernel
theorem dX10_closes_16 : decode cX10_closes 16 = .ok (.invokevirtual 206, 3) := by decide +kernel
theorem dX10_closes_19 : decode cX10_closes 19 = .ok (.iconst 1, 1) := by decide +kernel
theorem dX10_closes_20 : decode cX10_closes 20 = .ok (.ireturn, 1) := by decide +kernel
def fX10_closes (n : Nat) (v0 : Nat) (h : qH) : Option (Int32 × qH) :=
  (isO h v0 10).bind fun _ =>
  (fX10_isSign v0 59 h).bind fun p1 =>
  if p1.1 = 0 then
  ((fX10_fails v0 1 p1.2).bind fun p5 =>
  (qB p5.1).bind fun _ =>
  some (p5.1, p5.2))
  else
  ((fX10_nextToken n v0 p1.2).bind fun h3 =>
  some (1, h3))
theorem obX10_closes {n : Nat} {v0 : Nat} {h : qH} {p : Int32 × qH} (hyp : fX10_closes n v0 h = some p) : ∃ fs, h.1 v0 = some (.inr (10, fs)) := by
  unfold fX10_closes at hyp
  exact q_bind hyp (fun _ e _ => isO_some e)
set_option maxHeartbeats 4000000 in
set_option maxRecDepth 100000 in
theorem okX10_closes {l : Launch} {n : Nat} {v0 : Nat} {h : qH} {p : Int32 × qH} (hyp : fX10_closes n v0 h = some p) : q_M l 3 yX10_closes cX10_closes 1 (some .boolean) [.ref v0] h (some (.int p.1)) p.2 := by
  obtain ⟨r, h'⟩ := p
  unfold fX10_closes at hyp
  refine q_bind hyp (fun _ _ hyp => ?_)
  refine q_M.of (by decide) (Nat.le_of_ble_eq_true rfl) ?_
  refine q_to (ls' := [(0, .ref v0)]) (st' := []) rfl rfl ?_
  refine q_aload_n 0 rfl dX10_closes_0 ?_
  refine q_bipush (x := 59) (by decide) dX10_closes_1 ?_
  refine q_bind hyp (fun p1 e8 hyp => ?_)
  refine q_callV (as := [.int 59]) (st := []) kY_X10_isSign kL_X10_196 (okX10_isSign (l := l) e8) (by decide) rfl (obX10_isSign e8) (Nat.le_of_ble_eq_true rfl) dX10_closes_3 ?_
  refine q_to (ls' := [(0, .ref v0)]) (st' := [.int p1.1]) rfl rfl ?_
  refine q_if_ne (tgt := 15) dX10_closes_6 (by decide) (fun c2 => ?_) (fun c2 => ?_)
  · have hyp := q_neg c2 hyp
    refine q_aload_n 0 rfl dX10_closes_15 ?_
    refine q_bind hyp (fun h3 e4 hyp => ?_)
    refine q_callV (as := []) (st := []) kY_X10_nextToken kL_X10_206 (okX10_nextToken (l := l) e4) (by decide) rfl (obX10_nextToken e4) (Nat.le_of_ble_eq_true rfl) dX10_closes_16 ?_
    refine q_to (ls' := [(0, .ref v0)]) (st' := []) rfl rfl ?_
    refine q_iconst (x := 1) rfl dX10_closes_19 ?_
    exact q_iretH rfl rfl dX10_closes_20 hyp
  · have hyp := q_pos c2 hyp
    refine q_aload_n 0 rfl dX10_closes_9 ?_
    refine q_iconst (x := 1) rfl dX10_closes_10 ?_
    refine q_bind hyp (fun p5 e7 hyp => ?_)
    refine q_callV (as := [.int 1]) (st := []) kY_X10_fails kL_X10_200 (okX10_fails (l := l) e7) (by decide) rfl (obX10_fails e7) (Nat.le_of_ble_eq_true rfl) dX10_closes_11 ?_
    refine q_to (ls' := [(0, .ref v0)]) (st' := [.int p5.1]) rfl rfl ?_
    refine q_bind hyp (fun _ e6 hyp => ?_)
    exact q_iretH rfl (qB_some e6) dX10_closes_14 hyp
theorem dX10_cost_0 : decode cX10_cost 0 = .ok (.aload_n 0, 1) := by decide +kernel
theorem dX10_cost_1 : decode cX10_cost 1 = .ok (.iconst 0, 1) := by decide +kernel
theorem dX10_cost_2 : decode cX10_cost 2 = .ok (.putfield 136, 3) := by decide +kernel
theorem dX10_cost_5 : decode cX10_cost 5 = .ok (.aload_n 0, 1) := by decide +kernel
theorem dX10_cost_6 : decode cX10_cost 6 = .ok (.iload_n 1, 1) := by decide +kernel
theorem dX10_cost_7 : decode cX10_cost 7 = .ok (.invokevirtual 346, 3) := by decide +kernel
theorem dX10_cost_10 : decode cX10_cost 10 = .ok (.ifCond .ne 5, 3) := by decide +kernel
theorem dX10_cost_13 : decode cX10_cost 13 = .ok (.iconst (-1), 1) := by decide +kernel
theorem dX10_cost_14 : decode cX10_cost 14 = .ok (.ireturn, 1) := by decide +kernel
theorem dX10_cost_15 : decode cX10_cost 15 = .ok (.aload_n 0, 1) := by decide +kernel
theorem dX10_cost_16 : decode cX10_cost 16 = .ok (.iload_n 1, 1) := by decide +kernel
theorem dX10_cost_17 : decode cX10_cost 17 = .ok (.invokevirtual 384, 3) := by decide +kernel
theorem dX10_cost_20 : decode cX10_cost 20 = .ok (.istore_n 2, 1) := by decide +kernel
theorem dX10_cost_21 : decode cX10_cost 21 = .ok (.iload_n 2, 1) := by decide +kernel
theorem dX10_cost_22 : decode cX10_cost 22 = .ok (.ldc_w 383, 3) := by decide +kernel
theorem dX10_cost_25 : decode cX10_cost 25 = .ok (.if_icmp .ne 7, 3) := by decide +kernel
theorem dX10_cost_28 : decode cX10_cost 28 = .ok (.iconst (-1), 1) := by decide +kernel
theorem dX10_cost_29 : decode cX10_cost 29 = .ok (.goto 4, 3) := by decide +kernel
theorem dX10_cost_32 : decode cX10_cost 32 = .ok (.iload_n 2, 1) := by decide +kernel
theorem dX10_cost_33 : decode cX10_cost 33 = .ok (.ireturn, 1) := by decide +kernel
def fX10_cost (n : Nat) (v0 : Nat) (v1 : Int32) (h : qH) : Option (Int32 × qH) :=
  (isO h v0 10).bind fun _ =>
  (pF h v0 10 0 (.int 0)).bind fun h1 =>
  (fX10_isMatter v0 v1 h1).bind fun p3 =>
  if p3.1 = 0 then
  (some ((-1), p3.2))
  else
  ((fX10_costOf n v0 v1 p3.2).bind fun p5 =>
  if p5.1 = 1000000 then
  (some ((-1), p5.2))
  else
  (some (p5.1, p5.2)))
theorem obX10_cost {n : Nat} {v0 : Nat} {v1 : Int32} {h : qH} {p : Int32 × qH} (hyp : fX10_cost n v0 v1 h = some p) : ∃ fs, h.1 v0 = some (.inr (10, fs)) := by
  unfold fX10_cost at hyp
  exact q_bind hyp (fun _ e _ => isO_some e)
set_option maxHeartbeats 4000000 in
set_option maxRecDepth 100000 in
theorem okX10_cost {l : Launch} {n : Nat} {v0 : Nat} {v1 : Int32} {h : qH} {p : Int32 × qH} (hyp : fX10_cost n v0 v1 h = some p) : q_M l 7 yX10_cost cX10_cost 3 (some .int) [.ref v0, .int v1] h (some (.int p.1)) p.2 := by
  obtain ⟨r, h'⟩ := p
  unfold fX10_cost at hyp
  refine q_bind hyp (fun _ _ hyp => ?_)
  refine q_M.of (by decide) (Nat.le_of_ble_eq_true rfl) ?_
  refine q_to (ls' := [(0, .ref v0), (1, .int v1)]) (st' := []) rfl rfl ?_
  refine q_aload_n 0 rfl dX10_cost_0 ?_
  refine q_iconst (x := 0) rfl dX10_cost_1 ?_
  refine q_bind hyp (fun h1 e2 hyp => ?_)
  refine q_putF kF_X10_136 (fun _ => ⟨rfl, rfl⟩) dX10_cost_2 e2 ?_
  refine q_aload_n 0 rfl dX10_cost_5 ?_
  refine q_iload_n 1 rfl dX10_cost_6 ?_
  refine q_bind hyp (fun p3 e8 hyp => ?_)
  refine q_callV (as := [.int v1]) (st := []) kY_X10_isMatter kL_X10_346 (okX10_isMatter (l := l) e8) (by decide) rfl (obX10_isMatter e8) (Nat.le_of_ble_eq_true rfl) dX10_cost_7 ?_
  refine q_to (ls' := [(0, .ref v0), (1, .int v1)]) (st' := [.int p3.1]) rfl rfl ?_
  refine q_if_ne (tgt := 15) dX10_cost_10 (by decide) (fun c4 => ?_) (fun c4 => ?_)
  · have hyp := q_neg c4 hyp
    refine q_aload_n 0 rfl dX10_cost_15 ?_
    refine q_iload_n 1 rfl dX10_cost_16 ?_
    refine q_bind hyp (fun p5 e7 hyp => ?_)
    refine q_callV (as := [.int v1]) (st := []) kY_X10_costOf kL_X10_384 (okX10_costOf (l := l) e7) (by decide) rfl (obX10_costOf e7) (Nat.le_of_ble_eq_true rfl) dX10_cost_17 ?_
    refine q_to (ls' := [(0, .ref v0), (1, .int v1)]) (st' := [.int p5.1]) rfl rfl ?_
    refine q_istore_n (ls' := [(2, .int p5.1), (0, .ref v0), (1, .int v1)]) (by decide) rfl dX10_cost_20 ?_
    refine q_iload_n 0 rfl dX10_cost_21 ?_
    refine q_ldcw kK_X10_383 dX10_cost_22 ?_
    refine q_icmp_ne (tgt := 32) dX10_cost_25 (by decide) (fun c6 => ?_) (fun c6 => ?_)
    · have hyp := q_neg c6 hyp
      refine q_iload_n 0 rfl dX10_cost_32 ?_
      exact q_iretH rfl rfl dX10_cost_33 hyp
    · have hyp := q_pos c6 hyp
      refine q_iconst (x := (-1)) rfl dX10_cost_28 ?_
      refine q_goto (tgt := 33) dX10_cost_29 (by decide) ?_
      exact q_iretH rfl rfl dX10_cost_33 hyp
  · have hyp := q_pos c4 hyp
    refine q_iconst (x := (-1)) rfl dX10_cost_13 ?_
    exact q_iretH rfl rfl dX10_cost_14 hyp
theorem dX10_count_0 : decode cX10_count 0 = .ok (.aload_n 0, 1) := by decide +kernel
theorem dX10_count_1 : decode cX10_count 1 = .ok (.iconst 0, 1) := by decide +kernel
theorem dX10_count_2 : decode cX10_count 2 = .ok (.putfield 136, 3) := by decide +kernel
theorem dX10_count_5 : decode cX10_count 5 = .ok (.iload_n 1, 1) := by decide +kernel
theorem dX10_count_6 : decode cX10_count 6 = .ok (.iconst 0, 1) := by decide +kernel
theorem dX10_count_7 : decode cX10_count 7 = .ok (.bipush 10, 2) := by decide +kernel
theorem dX10_count_9 : decode cX10_count 9 = .ok (.invokestatic 252, 3) := by decide +kernel
theorem dX10_count_12 : decode cX10_count 12 = .ok (.ifCond .ne 5, 3) := by decide +kernel
theorem dX10_count_15 : decode cX10_count 15 = .ok (.iconst (-1), 1) := by decide +kernel
theorem dX10_count_16 : decode cX10_count 16 = .ok (.ireturn, 1) := by decide +kernel
theorem dX10_count_17 : decode cX10_count 17 = .ok (.iload_n 1, 1) := by decide +kernel
theorem dX10_count_18 : decode cX10_count 18 = .ok (.iconst 3, 1) := by decide +kernel
theorem dX10_count_19 : decode cX10_count 19 = .ok (.if_icmp .ge 10, 3) := by decide +kernel
theorem dX10_count_22 : decode cX10_count 22 = .ok (.aload_n 0, 1) := by decide +kernel
theorem dX10_count_23 : decode cX10_count 23 = .ok (.getfield 13, 3) := by decide +kernel
theorem dX10_count_26 : decode cX10_count 26 = .ok (.iload_n 1, 1) := by decide +kernel
theorem dX10_count_27 : decode cX10_count 27 = .ok (.iaload, 1) := by decide +kernel
theorem dX10_count_28 : decode cX10_count 28 = .ok (.ireturn, 1) := by decide +kernel
theorem dX10_count_29 : decode cX10_count 29 = .ok (.iload_n 1, 1) := by decide +kernel
theorem dX10_count_30 : decode cX10_count 30 = .ok (.iconst 5, 1) := by decide +kernel
theorem dX10_count_31 : decode cX10_count 31 = .ok (.if_icmp .ge 24, 3) := by decide +kernel
theorem dX10_count_34 : decode cX10_count 34 = .ok (.iload_n 1, 1) := by decide +kernel
theorem dX10_count_35 : decode cX10_count 35 = .ok (.iconst 3, 1) := by decide +kernel
theorem dX10_count_36 : decode cX10_count 36 = .ok (.if_icmp .ne 12, 3) := by decide +kernel
theorem dX10_count_39 : decode cX10_count 39 = .ok (.aload_n 0, 1) := by decide +kernel
theorem dX10_count_40 : decode cX10_count 40 = .ok (.getfield 99, 3) := by decide +kernel
theorem dX10_count_43 : decode cX10_count 43 = .ok (.iconst 0, 1) := by decide +kernel
theorem dX10_count_44 : decode cX10_count 44 = .ok (.iaload, 1) := by decide +kernel
theorem dX10_count_45 : decode cX10_count 45 = .ok (.goto 9, 3) := by decide +kernel
theorem dX10_count_48 : decode cX10_count 48 = .ok (.aload_n 0, 1) := by decide +kernel
theorem dX10_count_49 : decode cX10_count 49 = .ok (.getfield 99, 3) := by decide +kernel
theorem dX10_count_52 : decode cX10_count 52 = .ok (.iconst 1, 1) := by decide +kernel
theorem dX10_count_53 : decode cX10_count 53 = .ok (.iaload, 1) := by decide +kernel
theorem dX10_count_54 : decode cX10_count 54 = .ok (.ireturn, 1) := by decide +kernel
theorem dX10_count_55 : decode cX10_count 55 = .ok (.iload_n 1, 1) := by decide +kernel
theorem dX10_count_56 : decode cX10_count 56 = .ok (.bipush 7, 2) := by decide +kernel
theorem dX10_count_58 : decode cX10_count 58 = .ok (.if_icmp .ge 23, 3) := by decide +kernel
theorem dX10_count_61 : decode cX10_count 61 = .ok (.iload_n 1, 1) := by decide +kernel
theorem dX10_count_62 : decode cX10_count 62 = .ok (.iconst 5, 1) := by decide +kernel
theorem dX10_count_63 : decode cX10_count 63 = .ok (.if_icmp .ne 11, 3) := by decide +kernel
theorem dX10_count_66 : decode cX10_count 66 = .ok (.aload_n 0, 1) := by decide +kernel
theorem dX10_count_67 : decode cX10_count 67 = .ok (.iconst 2, 1) := by decide +kernel
theorem dX10_count_68 : decode cX10_count 68 = .ok (.invokevirtual 446, 3) := by decide +kernel
theorem dX10_count_71 : decode cX10_count 71 = .ok (.goto 9, 3) := by decide +kernel
theorem dX10_count_74 : decode cX10_count 74 = .ok (.aload_n 0, 1) := by decide +kernel
theorem dX10_count_75 : decode cX10_count 75 = .ok (.bipush 9, 2) := by decide +kernel
theorem dX10_count_77 : decode cX10_count 77 = .ok (.invokevirtual 446, 3) := by decide +kernel
theorem dX10_count_80 : decode cX10_count 80 = .ok (.ireturn, 1) := by decide +kernel
theorem dX10_count_81 : decode cX10_count 81 = .ok (.iload_n 1, 1) := by decide +kernel
theorem dX10_count_82 : decode cX10_count 82 = .ok (.bipush 9, 2) := by decide +kernel
theorem dX10_count_84 : decode cX10_count 84 = .ok (.if_icmp .ge 25, 3) := by decide +kernel
theorem dX10_count_87 : decode cX10_count 87 = .ok (.iload_n 1, 1) := by decide +kernel
theorem dX10_count_88 : decode cX10_count 88 = .ok (.bipush 7, 2) := by decide +kernel
theorem dX10_count_90 : decode cX10_count 90 = .ok (.if_icmp .ne 12, 3) := by decide +kernel
theorem dX10_count_93 : decode cX10_count 93 = .ok (.aload_n 0, 1) := by decide +kernel
theorem dX10_count_94 : decode cX10_count 94 = .ok (.getfield 78, 3) := by decide +kernel
theorem dX10_count_97 : decode cX10_count 97 = .ok (.iconst 0, 1) := by decide +kernel
theorem dX10_count_98 : decode cX10_count 98 = .ok (.iaload, 1) := by decide +kernel
theorem dX10_count_99 : decode cX10_count 99 = .ok (.goto 9, 3) := by decide +kernel
theorem dX10_count_102 : decode cX10_count 102 = .ok (.aload_n 0, 1) := by decide +kernel
theorem dX10_count_103 : decode cX10_count 103 = .ok (.getfield 87, 3) := by decide +kernel
theorem dX10_count_106 : decode cX10_count 106 = .ok (.iconst 0, 1) := by decide +kernel
theorem dX10_count_107 : decode cX10_count 107 = .ok (.iaload, 1) := by decide +kernel
theorem dX10_count_108 : decode cX10_count 108 = .ok (.ireturn, 1) := by decide +kernel
theorem dX10_count_109 : decode cX10_count 109 = .ok (.iload_n 1, 1) := by decide +kernel
theorem dX10_count_110 : decode cX10_count 110 = .ok (.bipush 9, 2) := by decide +kernel
theorem dX10_count_112 : decode cX10_count 112 = .ok (.if_icmp .ne 10, 3) := by decide +kernel
theorem dX10_count_115 : decode cX10_count 115 = .ok (.aload_n 0, 1) := by decide +kernel
theorem dX10_count_116 : decode cX10_count 116 = .ok (.getfield 314, 3) := by decide +kernel
theorem dX10_count_119 : decode cX10_count 119 = .ok (.goto 7, 3) := by decide +kernel
theorem dX10_count_122 : decode cX10_count 122 = .ok (.aload_n 0, 1) := by decide +kernel
theorem dX10_count_123 : decode cX10_count 123 = .ok (.getfield 142, 3) := by decide +kernel
theorem dX10_count_126 : decode cX10_count 126 = .ok (.ireturn, 1) := by decide +kernel
def fX10_count (n : Nat) (v0 : Nat) (v1 : Int32) (h : qH) : Option (Int32 × qH) :=
  (isO h v0 10).bind fun _ =>
  (pF h v0 10 0 (.int 0)).bind fun h1 =>
  (fX10_within v1 0 10 h1).bind fun p3 =>
  if p3.1 = 0 then
  (some ((-1), p3.2))
  else
  (if 3 ≤ v1 then
  (if 5 ≤ v1 then
  (if 7 ≤ v1 then
  (if 9 ≤ v1 then
  (if v1 = 9 then
  ((gI p3.2 v0 10 47).bind fun x12 =>
  some (x12, p3.2))
  else
  ((gI p3.2 v0 10 1).bind fun x10 =>
  some (x10, p3.2)))
  else
  (if v1 = 7 then
  ((gR p3.2 v0 10 34).bind fun x19 =>
  (aI .int p3.2 x19 0).bind fun x21 =>
  some (x21, p3.2))
  else
  ((gR p3.2 v0 10 37).bind fun x15 =>
  (aI .int p3.2 x15 0).bind fun x17 =>
  some (x17, p3.2))))
  else
  (if v1 = 5 then
  ((fX10_allOf n v0 2 p3.2).bind fun p26 =>
  some (p26.1, p26.2))
  else
  ((fX10_allOf n v0 9 p3.2).bind fun p24 =>
  some (p24.1, p24.2))))
  else
  (if v1 = 3 then
  ((gR p3.2 v0 10 41).bind fun x33 =>
  (aI .int p3.2 x33 0).bind fun x35 =>
  some (x35, p3.2))
  else
  ((gR p3.2 v0 10 41).bind fun x29 =>
  (aI .int p3.2 x29 1).bind fun x31 =>
  some (x31, p3.2))))
  else
  ((gR p3.2 v0 10 10).bind fun x37 =>
  (aI .int p3.2 x37 v1).bind fun x39 =>
  some (x39, p3.2)))
theorem obX10_count {n : Nat} {v0 : Nat} {v1 : Int32} {h : qH} {p : Int32 × qH} (hyp : fX10_count n v0 v1 h = some p) : ∃ fs, h.1 v0 = some (.inr (10, fs)) := by
  unfold fX10_count at hyp
  exact q_bind hyp (fun _ e _ => isO_some e)
set_option maxHeartbeats 4000000 in
set_option maxRecDepth 100000 in
theorem okX10_count {l : Launch} {n : Nat} {v0 : Nat} {v1 : Int32} {h : qH} {p : Int32 × qH} (hyp : fX10_count n v0 v1 h = some p) : q_M l 2 yX10_count cX10_count 2 (some .int) [.ref v0, .int v1] h (some (.int p.1)) p.2 := by
  obtain ⟨r, h'⟩ := p
  unfold fX10_count at hyp
  refine q_bind hyp (fun _ _ hyp => ?_)
  refine q_M.of (by decide) (Nat.le_of_ble_eq_true rfl) ?_
  refine q_to (ls' := [(0, .ref v0), (1, .int v1)]) (st' := []) rfl rfl ?_
  refine q_aload_n 0 rfl dX10_count_0 ?_
  refine q_iconst (x := 0) rfl dX10_count_1 ?_
  refine q_bind hyp (fun h1 e2 hyp => ?_)
  refine q_putF kF_X10_136 (fun _ => ⟨rfl, rfl⟩) dX10_count_2 e2 ?_
  refine q_iload_n 1 rfl dX10_count_5 ?_
  refine q_iconst (x := 0) rfl dX10_count_6 ?_
  refine q_bipush (x := 10) (by decide) dX10_count_7 ?_
  refine q_bind hyp (fun p3 e41 hyp => ?_)
  refine q_callS (as := [.int v1, .int 0, .int 10]) (st := []) kY_X10_within kS_X10_within kL_X10_252 (okX10_within (l := l) e41) (by decide) rfl (Nat.le_of_ble_eq_true rfl) dX10_count_9 ?_
  refine q_to (ls' := [(0, .ref v0), (1, .int v1)]) (st' := [.int p3.1]) rfl rfl ?_
  refine q_if_ne (tgt := 17) dX10_count_12 (by decide) (fun c4 => ?_) (fun c4 => ?_)
  · have hyp := q_neg c4 hyp
    refine q_iload_n 1 rfl dX10_count_17 ?_
    refine q_iconst (x := 3) rfl dX10_count_18 ?_
    refine q_icmp_ge (tgt := 29) dX10_count_19 (by decide) (fun c5 => ?_) (fun c5 => ?_)
    · have hyp := q_pos c5 hyp
      refine q_iload_n 1 rfl dX10_count_29 ?_
      refine q_iconst (x := 5) rfl dX10_count_30 ?_
      refine q_icmp_ge (tgt := 55) dX10_count_31 (by decide) (fun c6 => ?_) (fun c6 => ?_)
      · have hyp := q_pos c6 hyp
        refine q_iload_n 1 rfl dX10_count_55 ?_
        refine q_bipush (x := 7) (by decide) dX10_count_56 ?_
        refine q_icmp_ge (tgt := 81) dX10_count_58 (by decide) (fun c7 => ?_) (fun c7 => ?_)
        · have hyp := q_pos c7 hyp
          refine q_iload_n 1 rfl dX10_count_81 ?_
          refine q_bipush (x := 9) (by decide) dX10_count_82 ?_
          refine q_icmp_ge (tgt := 109) dX10_count_84 (by decide) (fun c8 => ?_) (fun c8 => ?_)
          · have hyp := q_pos c8 hyp
            refine q_iload_n 1 rfl dX10_count_109 ?_
            refine q_bipush (x := 9) (by decide) dX10_count_110 ?_
            refine q_icmp_ne (tgt := 122) dX10_count_112 (by decide) (fun c9 => ?_) (fun c9 => ?_)
            · have hyp := q_neg c9 hyp
              refine q_aload_n 0 rfl dX10_count_122 ?_
              refine q_bind hyp (fun x10 e11 hyp => ?_)
              refine q_getI kF_X10_142 dX10_count_123 e11 ?_
              exact q_iretH rfl rfl dX10_count_126 hyp
            · have hyp := q_pos c9 hyp
              refine q_aload_n 0 rfl dX10_count_115 ?_
              refine q_bind hyp (fun x12 e13 hyp => ?_)
              refine q_getI kF_X10_314 dX10_count_116 e13 ?_
              refine q_goto (tgt := 126) dX10_count_119 (by decide) ?_
              exact q_iretH rfl rfl dX10_count_126 hyp
          · have hyp := q_neg c8 hyp
            refine q_iload_n 1 rfl dX10_count_87 ?_
            refine q_bipush (x := 7) (by decide) dX10_count_88 ?_
            refine q_icmp_ne (tgt := 102) dX10_count_90 (by decide) (fun c14 => ?_) (fun c14 => ?_)
            · have hyp := q_neg c14 hyp
              refine q_aload_n 0 rfl dX10_count_102 ?_
              refine q_bind hyp (fun x15 e16 hyp => ?_)
              refine q_getR kF_X10_87 dX10_count_103 e16 ?_
              refine q_iconst (x := 0) rfl dX10_count_106 ?_
              refine q_bind hyp (fun x17 e18 hyp => ?_)
              refine q_iald dX10_count_107 e18 ?_
              exact q_iretH rfl rfl dX10_count_108 hyp
            · have hyp := q_pos c14 hyp
              refine q_aload_n 0 rfl dX10_count_93 ?_
              refine q_bind hyp (fun x19 e20 hyp => ?_)
              refine q_getR kF_X10_78 dX10_count_94 e20 ?_
              refine q_iconst (x := 0) rfl dX10_count_97 ?_
              refine q_bind hyp (fun x21 e22 hyp => ?_)
              refine q_iald dX10_count_98 e22 ?_
              refine q_goto (tgt := 108) dX10_count_99 (by decide) ?_
              exact q_iretH rfl rfl dX10_count_108 hyp
        · have hyp := q_neg c7 hyp
          refine q_iload_n 1 rfl dX10_count_61 ?_
          refine q_iconst (x := 5) rfl dX10_count_62 ?_
          refine q_icmp_ne (tgt := 74) dX10_count_63 (by decide) (fun c23 => ?_) (fun c23 => ?_)
          · have hyp := q_neg c23 hyp
            refine q_aload_n 0 rfl dX10_count_74 ?_
            refine q_bipush (x := 9) (by decide) dX10_count_75 ?_
            refine q_bind hyp (fun p24 e25 hyp => ?_)
            refine q_callV (as := [.int 9]) (st := []) kY_X10_allOf kL_X10_446 (okX10_allOf (l := l) e25) (by decide) rfl (obX10_allOf e25) (Nat.le_of_ble_eq_true rfl) dX10_count_77 ?_
            refine q_to (ls' := [(0, .ref v0), (1, .int v1)]) (st' := [.int p24.1]) rfl rfl ?_
            exact q_iretH rfl rfl dX10_count_80 hyp
          · have hyp := q_pos c23 hyp
            refine q_aload_n 0 rfl dX10_count_66 ?_
            refine q_iconst (x := 2) rfl dX10_count_67 ?_
            refine q_bind hyp (fun p26 e27 hyp => ?_)
            refine q_callV (as := [.int 2]) (st := []) kY_X10_allOf kL_X10_446 (okX10_allOf (l := l) e27) (by decide) rfl (obX10_allOf e27) (Nat.le_of_ble_eq_true rfl) dX10_count_68 ?_
            refine q_to (ls' := [(0, .ref v0), (1, .int v1)]) (st' := [.int p26.1]) rfl rfl ?_
            refine q_goto (tgt := 80) dX10_count_71 (by decide) ?_
            exact q_iretH rfl rfl dX10_count_80 hyp
      · have hyp := q_neg c6 hyp
        refine q_iload_n 1 rfl dX10_count_34 ?_
        refine q_iconst (x := 3) rfl dX10_count_35 ?_
        refine q_icmp_ne (tgt := 48) dX10_count_36 (by decide) (fun c28 => ?_) (fun c28 => ?_)
        · have hyp := q_neg c28 hyp
          refine q_aload_n 0 rfl dX10_count_48 ?_
          refine q_bind hyp (fun x29 e30 hyp => ?_)
          refine q_getR kF_X10_99 dX10_count_49 e30 ?_
          refine q_iconst (x := 1) rfl dX10_count_52 ?_
          refine q_bind hyp (fun x31 e32 hyp => ?_)
          refine q_iald dX10_count_53 e32 ?_
          exact q_iretH rfl rfl dX10_count_54 hyp
        · have hyp := q_pos c28 hyp
          refine q_aload_n 0 rfl dX10_count_39 ?_
          refine q_bind hyp (fun x33 e34 hyp => ?_)
          refine q_getR kF_X10_99 dX10_count_40 e34 ?_
          refine q_iconst (x := 0) rfl dX10_count_43 ?_
          refine q_bind hyp (fun x35 e36 hyp => ?_)
          refine q_iald dX10_count_44 e36 ?_
          refine q_goto (tgt := 54) dX10_count_45 (by decide) ?_
          exact q_iretH rfl rfl dX10_count_54 hyp
    · have hyp := q_neg c5 hyp
      refine q_aload_n 0 rfl dX10_count_22 ?_
      refine q_bind hyp (fun x37 e38 hyp => ?_)
      refine q_getR kF_X10_13 dX10_count_23 e38 ?_
      refine q_iload_n 1 rfl dX10_count_26 ?_
      refine q_bind hyp (fun x39 e40 hyp => ?_)
      refine q_iald dX10_count_27 e40 ?_
      exact q_iretH rfl rfl dX10_count_28 hyp
  · have hyp := q_pos c4 hyp
    refine q_iconst (x := (-1)) rfl dX10_count_15 ?_
    exact q_iretH rfl rfl dX10_count_16 hyp
