/-! Functions over the abstract heap, and that the machine computes them (written by gen.py). -/
theorem dX9_roots_0 : decode cX9_roots 0 = .ok (.aload_n 0, 1) := by decide +kernel
theorem dX9_roots_1 : decode cX9_roots 1 = .ok (.getfield 28, 3) := by decide +kernel
theorem dX9_roots_4 : decode cX9_roots 4 = .ok (.invokevirtual 267, 3) := by decide +kernel
theorem dX9_roots_7 : decode cX9_roots 7 = .ok (.ireturn, 1) := by decide +kernel
def fX9_roots (n : Nat) (v0 : Nat) (h : qH) : Option (Int32 × qH) :=
  (isO h v0 9).bind fun _ =>
  (gR h v0 9 2).bind fun x1 =>
  (fX5_rootBits n x1 h).bind fun p3 =>
  some (p3.1, p3.2)
theorem obX9_roots {n : Nat} {v0 : Nat} {h : qH} {p : Int32 × qH} (hyp : fX9_roots n v0 h = some p) : ∃ fs, h.1 v0 = some (.inr (9, fs)) := by
  unfold fX9_roots at hyp
  exact q_bind hyp (fun _ e _ => isO_some e)
set_option maxHeartbeats 4000000 in
set_option maxRecDepth 100000 in
theorem okX9_roots {l : Launch} {n : Nat} {v0 : Nat} {h : qH} {p : Int32 × qH} (hyp : fX9_roots n v0 h = some p) : q_M l 3 yX9_roots cX9_roots 1 (some .int) [.ref v0] h (some (.int p.1)) p.2 := by
  obtain ⟨r, h'⟩ := p
  unfold fX9_roots at hyp
  refine q_bind hyp (fun _ _ hyp => ?_)
  refine q_M.of (by decide) (Nat.le_of_ble_eq_true rfl) ?_
  refine q_to (ls' := [(0, .ref v0)]) (st' := []) rfl rfl ?_
  refine q_aload_n 0 rfl dX9_roots_0 ?_
  refine q_bind hyp (fun x1 e2 hyp => ?_)
  refine q_getR kF_X9_28 dX9_roots_1 e2 ?_
  refine q_bind hyp (fun p3 e4 hyp => ?_)
  refine q_callV (as := []) (st := []) kY_X5_rootBits kL_X9_267 (okX5_rootBits (l := l) e4) (by decide) rfl (obX5_rootBits e4) (Nat.le_of_ble_eq_true rfl) dX9_roots_4 ?_
  refine q_to (ls' := [(0, .ref v0)]) (st' := [.int p3.1]) rfl rfl ?_
  exact q_iretH rfl rfl dX9_roots_7 hyp
theorem dX9_round_0 : decode cX9_round 0 = .ok (.aload_n 0, 1) := by decide +kernel
theorem dX9_round_1 : decode cX9_round 1 = .ok (.getfield 21, 3) := by decide +kernel
theorem dX9_round_4 : decode cX9_round 4 = .ok (.aload_n 0, 1) := by decide +kernel
theorem dX9_round_5 : decode cX9_round 5 = .ok (.getfield 59, 3) := by decide +kernel
theorem dX9_round_8 : decode cX9_round 8 = .ok (.aload_n 0, 1) := by decide +kernel
theorem dX9_round_9 : decode cX9_round 9 = .ok (.getfield 28, 3) := by decide +kernel
theorem dX9_round_12 : decode cX9_round 12 = .ok (.invokevirtual 114, 3) := by decide +kernel
theorem dX9_round_15 : decode cX9_round 15 = .ok (.istore_n 1, 1) := by decide +kernel
theorem dX9_round_16 : decode cX9_round 16 = .ok (.iload_n 1, 1) := by decide +kernel
theorem dX9_round_17 : decode cX9_round 17 = .ok (.ifCond .ne 14, 3) := by decide +kernel
theorem dX9_round_20 : decode cX9_round 20 = .ok (.aload_n 0, 1) := by decide +kernel
theorem dX9_round_21 : decode cX9_round 21 = .ok (.getfield 55, 3) := by decide +kernel
theorem dX9_round_24 : decode cX9_round 24 = .ok (.aload_n 0, 1) := by decide +kernel
theorem dX9_round_25 : decode cX9_round 25 = .ok (.getfield 59, 3) := by decide +kernel
theorem dX9_round_28 : decode cX9_round 28 = .ok (.invokevirtual 118, 3) := by decide +kernel
theorem dX9_round_31 : decode cX9_round 31 = .ok (.iload_n 1, 1) := by decide +kernel
theorem dX9_round_32 : decode cX9_round 32 = .ok (.ireturn, 1) := by decide +kernel
def fX9_round (n : Nat) (v0 : Nat) (h : qH) : Option (Int32 × qH) :=
  (isO h v0 9).bind fun _ =>
  (gR h v0 9 1).bind fun x1 =>
  (gR h v0 9 8).bind fun x3 =>
  (gR h v0 9 2).bind fun x5 =>
  (fX4_readRound n x1 x3 x5 h).bind fun p7 =>
  if p7.1 = 0 then
  ((gR p7.2 v0 9 7).bind fun x9 =>
  (gR p7.2 v0 9 8).bind fun x11 =>
  (fX2_copy n x9 x11 p7.2).bind fun h13 =>
  some (p7.1, h13))
  else
  (some (p7.1, p7.2))
theorem obX9_round {n : Nat} {v0 : Nat} {h : qH} {p : Int32 × qH} (hyp : fX9_round n v0 h = some p) : ∃ fs, h.1 v0 = some (.inr (9, fs)) := by
  unfold fX9_round at hyp
  exact q_bind hyp (fun _ e _ => isO_some e)
set_option maxHeartbeats 4000000 in
set_option maxRecDepth 100000 in
theorem okX9_round {l : Launch} {n : Nat} {v0 : Nat} {h : qH} {p : Int32 × qH} (hyp : fX9_round n v0 h = some p) : q_M l 13 yX9_round cX9_round 2 (some .int) [.ref v0] h (some (.int p.1)) p.2 := by
  obtain ⟨r, h'⟩ := p
  unfold fX9_round at hyp
  refine q_bind hyp (fun _ _ hyp => ?_)
  refine q_M.of (by decide) (Nat.le_of_ble_eq_true rfl) ?_
  refine q_to (ls' := [(0, .ref v0)]) (st' := []) rfl rfl ?_
  refine q_aload_n 0 rfl dX9_round_0 ?_
  refine q_bind hyp (fun x1 e2 hyp => ?_)
  refine q_getR kF_X9_21 dX9_round_1 e2 ?_
  refine q_aload_n 0 rfl dX9_round_4 ?_
  refine q_bind hyp (fun x3 e4 hyp => ?_)
  refine q_getR kF_X9_59 dX9_round_5 e4 ?_
  refine q_aload_n 0 rfl dX9_round_8 ?_
  refine q_bind hyp (fun x5 e6 hyp => ?_)
  refine q_getR kF_X9_28 dX9_round_9 e6 ?_
  refine q_bind hyp (fun p7 e15 hyp => ?_)
  refine q_callV (as := [.ref x3, .ref x5]) (st := []) kY_X4_readRound kL_X9_114 (okX4_readRound (l := l) e15) (by decide) rfl (obX4_readRound e15) (Nat.le_of_ble_eq_true rfl) dX9_round_12 ?_
  refine q_to (ls' := [(0, .ref v0)]) (st' := [.int p7.1]) rfl rfl ?_
  refine q_istore_n (ls' := [(1, .int p7.1), (0, .ref v0)]) (by decide) rfl dX9_round_15 ?_
  refine q_iload_n 0 rfl dX9_round_16 ?_
  refine q_if_ne (tgt := 31) dX9_round_17 (by decide) (fun c8 => ?_) (fun c8 => ?_)
  · have hyp := q_neg c8 hyp
    refine q_iload_n 0 rfl dX9_round_31 ?_
    exact q_iretH rfl rfl dX9_round_32 hyp
  · have hyp := q_pos c8 hyp
    refine q_aload_n 1 rfl dX9_round_20 ?_
    refine q_bind hyp (fun x9 e10 hyp => ?_)
    refine q_getR kF_X9_55 dX9_round_21 e10 ?_
    refine q_aload_n 1 rfl dX9_round_24 ?_
    refine q_bind hyp (fun x11 e12 hyp => ?_)
    refine q_getR kF_X9_59 dX9_round_25 e12 ?_
    refine q_bind hyp (fun h13 e14 hyp => ?_)
    refine q_callV (as := [.ref x11]) (st := []) kY_X2_copy kL_X9_118 (okX2_copy (l := l) e14) (by decide) rfl (obX2_copy e14) (Nat.le_of_ble_eq_true rfl) dX9_round_28 ?_
    refine q_to (ls' := [(1, .int p7.1), (0, .ref v0)]) (st' := []) rfl rfl ?_
    refine q_iload_n 0 rfl dX9_round_31 ?_
    exact q_iretH rfl rfl dX9_round_32 hyp
theorem dX9_see_0 : decode cX9_see 0 = .ok (.iload_n 1, 1) := by decide +kernel
theorem dX9_see_1 : decode cX9_see 1 = .ok (.iconst 0, 1) := by decide +kernel
theorem dX9_see_2 : decode cX9_see 2 = .ok (.bipush 9, 2) := by decide +kernel
theorem dX9_see_4 : decode cX9_see 4 = .ok (.invokestatic 180, 3) := by decide +kernel
theorem dX9_see_7 : decode cX9_see 7 = .ok (.ifCond .eq 30, 3) := by decide +kernel
theorem dX9_see_10 : decode cX9_see 10 = .ok (.iload_n 2, 1) := by decide +kernel
theorem dX9_see_11 : decode cX9_see 11 = .ok (.iconst 0, 1) := by decide +kernel
theorem dX9_see_12 : decode cX9_see 12 = .ok (.bipush 40, 2) := by decide +kernel
theorem dX9_see_14 : decode cX9_see 14 = .ok (.invokestatic 180, 3) := by decide +kernel
theorem dX9_see_17 : decode cX9_see 17 = .ok (.ifCond .eq 20, 3) := by decide +kernel
theorem dX9_see_20 : decode cX9_see 20 = .ok (.aload_n 0, 1) := by decide +kernel
theorem dX9_see_21 : decode cX9_see 21 = .ok (.getfield 65, 3) := by decide +kernel
theorem dX9_see_24 : decode cX9_see 24 = .ok (.iload_n 1, 1) := by decide +kernel
theorem dX9_see_25 : decode cX9_see 25 = .ok (.iload_n 2, 1) := by decide +kernel
theorem dX9_see_26 : decode cX9_see 26 = .ok (.iload_n 3, 1) := by decide +kernel
theorem dX9_see_27 : decode cX9_see 27 = .ok (.invokevirtual 276, 3) := by decide +kernel
theorem dX9_see_30 : decode cX9_see 30 = .ok (.ifCond .eq 7, 3) := by decide +kernel
theorem dX9_see_33 : decode cX9_see 33 = .ok (.iconst 1, 1) := by decide +kernel
theorem dX9_see_34 : decode cX9_see 34 = .ok (.goto 4, 3) := by decide +kernel
theorem dX9_see_37 : decode cX9_see 37 = .ok (.iconst 0, 1) := by decide +kernel
theorem dX9_see_38 : decode cX9_see 38 = .ok (.ireturn, 1) := by decide +kernel
def fX9_see (v0 : Nat) (v1 : Int32) (v2 : Int32) (v3 : Int32) (h : qH) : Option (Int32 × qH) :=
  (isO h v0 9).bind fun _ =>
  (fX9_within v1 0 9 h).bind fun p1 =>
  if p1.1 = 0 then
  (some (0, p1.2))
  else
  ((fX9_within v2 0 40 p1.2).bind fun p3 =>
  if p3.1 = 0 then
  (some (0, p3.2))
  else
  ((gR p3.2 v0 9 9).bind fun x5 =>
  (fX7_add x5 v1 v2 v3 p3.2).bind fun p7 =>
  if p7.1 = 0 then
  (some (0, p7.2))
  else
  (some (1, p7.2))))
theorem obX9_see {v0 : Nat} {v1 : Int32} {v2 : Int32} {v3 : Int32} {h : qH} {p : Int32 × qH} (hyp : fX9_see v0 v1 v2 v3 h = some p) : ∃ fs, h.1 v0 = some (.inr (9, fs)) := by
  unfold fX9_see at hyp
  exact q_bind hyp (fun _ e _ => isO_some e)
set_option maxHeartbeats 4000000 in
set_option maxRecDepth 100000 in
theorem okX9_see {l : Launch} {v0 : Nat} {v1 : Int32} {v2 : Int32} {v3 : Int32} {h : qH} {p : Int32 × qH} (hyp : fX9_see v0 v1 v2 v3 h = some p) : q_M l 2 yX9_see cX9_see 4 (some .boolean) [.ref v0, .int v1, .int v2, .int v3] h (some (.int p.1)) p.2 := by
  obtain ⟨r, h'⟩ := p
  unfold fX9_see at hyp
  refine q_bind hyp (fun _ _ hyp => ?_)
  refine q_M.of (by decide) (Nat.le_of_ble_eq_true rfl) ?_
  refine q_to (ls' := [(0, .ref v0), (1, .int v1), (2, .int v2), (3, .int v3)]) (st' := []) rfl rfl ?_
  refine q_iload_n 1 rfl dX9_see_0 ?_
  refine q_iconst (x := 0) rfl dX9_see_1 ?_
  refine q_bipush (x := 9) (by decide) dX9_see_2 ?_
  refine q_bind hyp (fun p1 e11 hyp => ?_)
  refine q_callS (as := [.int v1, .int 0, .int 9]) (st := []) kY_X9_within kS_X9_within kL_X9_180 (okX9_within (l := l) e11) (by decide) rfl (Nat.le_of_ble_eq_true rfl) dX9_see_4 ?_
  refine q_to (ls' := [(0, .ref v0), (1, .int v1), (2, .int v2), (3, .int v3)]) (st' := [.int p1.1]) rfl rfl ?_
  refine q_if_eq (tgt := 37) dX9_see_7 (by decide) (fun c2 => ?_) (fun c2 => ?_)
  · have hyp := q_pos c2 hyp
    refine q_iconst (x := 0) rfl dX9_see_37 ?_
    exact q_iretH rfl rfl dX9_see_38 hyp
  · have hyp := q_neg c2 hyp
    refine q_iload_n 2 rfl dX9_see_10 ?_
    refine q_iconst (x := 0) rfl dX9_see_11 ?_
    refine q_bipush (x := 40) (by decide) dX9_see_12 ?_
    refine q_bind hyp (fun p3 e10 hyp => ?_)
    refine q_callS (as := [.int v2, .int 0, .int 40]) (st := []) kY_X9_within kS_X9_within kL_X9_180 (okX9_within (l := l) e10) (by decide) rfl (Nat.le_of_ble_eq_true rfl) dX9_see_14 ?_
    refine q_to (ls' := [(0, .ref v0), (1, .int v1), (2, .int v2), (3, .int v3)]) (st' := [.int p3.1]) rfl rfl ?_
    refine q_if_eq (tgt := 37) dX9_see_17 (by decide) (fun c4 => ?_) (fun c4 => ?_)
    · have hyp := q_pos c4 hyp
      refine q_iconst (x := 0) rfl dX9_see_37 ?_
      exact q_iretH rfl rfl dX9_see_38 hyp
    · have hyp := q_neg c4 hyp
      refine q_aload_n 0 rfl dX9_see_20 ?_
      refine q_bind hyp (fun x5 e6 hyp => ?_)
      refine q_getR kF_X9_65 dX9_see_21 e6 ?_
      refine q_iload_n 1 rfl dX9_see_24 ?_
      refine q_iload_n 2 rfl dX9_see_25 ?_
      refine q_iload_n 3 rfl dX9_see_26 ?_
      refine q_bind hyp (fun p7 e9 hyp => ?_)
      refine q_callV (as := [.int v1, .int v2, .int v3]) (st := []) kY_X7_add kL_X9_276 (okX7_add (l := l) e9) (by decide) rfl (obX7_add e9) (Nat.le_of_ble_eq_true rfl) dX9_see_27 ?_
      refine q_to (ls' := [(0, .ref v0), (1, .int v1), (2, .int v2), (3, .int v3)]) (st' := [.int p7.1]) rfl rfl ?_
      refine q_if_eq (tgt := 37) dX9_see_30 (by decide) (fun c8 => ?_) (fun c8 => ?_)
      · have hyp := q_pos c8 hyp
        refine q_iconst (x := 0) rfl dX9_see_37 ?_
        exact q_iretH rfl rfl dX9_see_38 hyp
      · have hyp := q_neg c8 hyp
        refine q_iconst (x := 1) rfl dX9_see_33 ?_
        refine q_goto (tgt := 38) dX9_see_34 (by decide) ?_
        exact q_iretH rfl rfl dX9_see_38 hyp
theorem dX9_sourest_0 : decode cX9_sourest 0 = .ok (.iconst (-1), 1) := by decide +kernel
theorem dX9_sourest_1 : decode cX9_sourest 1 = .ok (.istore_n 1, 1) := by decide +kernel
theorem dX9_sourest_2 : decode cX9_sourest 2 = .ok (.iconst 0, 1) := by decide +kernel
theorem dX9_sourest_3 : decode cX9_sourest 3 = .ok (.istore_n 2, 1) := by decide +kernel
theorem dX9_sourest_4 : decode cX9_sourest 4 = .ok (.iconst 0, 1) := by decide +kernel
theorem dX9_sourest_5 : decode cX9_sourest 5 = .ok (.istore_n 3, 1) := by decide +kernel
theorem dX9_sourest_6 : decode cX9_sourest 6 = .ok (.iload_n 3, 1) := by decide +kernel
theorem dX9_sourest_7 : decode cX9_sourest 7 = .ok (.aload_n 0, 1) := by decide +kernel
theorem dX9_sourest_8 : decode cX9_sourest 8 = .ok (.getfield 28, 3) := by decide +kernel
theorem dX9_sourest_11 : decode cX9_sourest 11 = .ok (.getfield 220, 3) := by decide +kernel
theorem dX9_sourest_14 : decode cX9_sourest 14 = .ok (.if_icmp .ge 34, 3) := by decide +kernel
theorem dX9_sourest_17 : decode cX9_sourest 17 = .ok (.aload_n 0, 1) := by decide +kernel
theorem dX9_sourest_18 : decode cX9_sourest 18 = .ok (.getfield 38, 3) := by decide +kernel
theorem dX9_sourest_21 : decode cX9_sourest 21 = .ok (.getfield 132, 3) := by decide +kernel
theorem dX9_sourest_24 : decode cX9_sourest 24 = .ok (.iload_n 3, 1) := by decide +kernel
theorem dX9_sourest_25 : decode cX9_sourest 25 = .ok (.iaload, 1) := by decide +kernel
theorem dX9_sourest_26 : decode cX9_sourest 26 = .ok (.iload_n 2, 1) := by decide +kernel
theorem dX9_sourest_27 : decode cX9_sourest 27 = .ok (.if_icmp .le 15, 3) := by decide +kernel
theorem dX9_sourest_30 : decode cX9_sourest 30 = .ok (.iload_n 3, 1) := by decide +kernel
theorem dX9_sourest_31 : decode cX9_sourest 31 = .ok (.istore_n 1, 1) := by decide +kernel
theorem dX9_sourest_32 : decode cX9_sourest 32 = .ok (.aload_n 0, 1) := by decide +kernel
theorem dX9_sourest_33 : decode cX9_sourest 33 = .ok (.getfield 38, 3) := by decide +kernel
theorem dX9_sourest_36 : decode cX9_sourest 36 = .ok (.getfield 132, 3) := by decide +kernel
theorem dX9_sourest_39 : decode cX9_sourest 39 = .ok (.iload_n 3, 1) := by decide +kernel
theorem dX9_sourest_40 : decode cX9_sourest 40 = .ok (.iaload, 1) := by decide +kernel
theorem dX9_sourest_41 : decode cX9_sourest 41 = .ok (.istore_n 2, 1) := by decide +kernel
theorem dX9_sourest_42 : decode cX9_sourest 42 = .ok (.iinc 3 1, 3) := by decide +kernel
theorem dX9_sourest_45 : decode cX9_sourest 45 = .ok (.goto (-39), 3) := by decide +kernel
theorem dX9_sourest_48 : decode cX9_sourest 48 = .ok (.iload_n 1, 1) := by decide +kernel
theorem dX9_sourest_49 : decode cX9_sourest 49 = .ok (.ireturn, 1) := by decide +kernel
def fX9_sourest_b6 (n : Nat) : Nat → Nat → Int32 → Int32 → Int32 → qH → Option (Int32 × qH)
  | 0, _, _, _, _, _ => none
  | w + 1, v0, v1, v2, v3, h =>
    (gR h v0 9 2).bind fun x1 =>
    (gI h x1 5 6).bind fun x3 =>
    if x3 ≤ v3 then
    (some (v1, h))
    else
    ((gR h v0 9 4).bind fun x6 =>
    (gR h x6 8 0).bind fun x8 =>
    (aI .int h x8 v3).bind fun x10 =>
    if x10 ≤ v2 then
    (fX9_sourest_b6 n w v0 v1 v2 (v3 + 1) h)
    else
    ((gR h v0 9 4).bind fun x13 =>
    (gR h x13 8 0).bind fun x15 =>
    (aI .int h x15 v3).bind fun x17 =>
    fX9_sourest_b6 n w v0 v3 x17 (v3 + 1) h))
set_option maxHeartbeats 4000000 in
set_option maxRecDepth 100000 in
theorem okX9_sourest_b6 {l : Launch} {n : Nat} {r : Int32} {h' : qH} : ∀ (w : Nat) (v0 : Nat) (v1 : Int32) (v2 : Int32) (v3 : Int32) (h : qH), fX9_sourest_b6 n w v0 v1 v2 v3 h = some (r, h') → q_W l 1 yX9_sourest cX9_sourest 4 (some .int) (some (.int r)) h' 6 [(0, .ref v0), (1, .int v1), (2, .int v2), (3, .int v3)] [] h := by
  intro w
  induction w with
  | zero => intro v0 v1 v2 v3 h hyp; cases hyp
  | succ w ih =>
    intro v0 v1 v2 v3 h hyp
    unfold fX9_sourest_b6 at hyp
    refine q_iload_n 3 rfl dX9_sourest_6 ?_
    refine q_aload_n 0 rfl dX9_sourest_7 ?_
    refine q_bind hyp (fun x1 e2 hyp => ?_)
    refine q_getR kF_X9_28 dX9_sourest_8 e2 ?_
    refine q_bind hyp (fun x3 e4 hyp => ?_)
    refine q_getI kF_X9_220 dX9_sourest_11 e4 ?_
    refine q_icmp_ge (tgt := 48) dX9_sourest_14 (by decide) (fun c5 => ?_) (fun c5 => ?_)
    · have hyp := q_pos c5 hyp
      refine q_iload_n 1 rfl dX9_sourest_48 ?_
      exact q_iretH rfl rfl dX9_sourest_49 hyp
    · have hyp := q_neg c5 hyp
      refine q_aload_n 0 rfl dX9_sourest_17 ?_
      refine q_bind hyp (fun x6 e7 hyp => ?_)
      refine q_getR kF_X9_38 dX9_sourest_18 e7 ?_
      refine q_bind hyp (fun x8 e9 hyp => ?_)
      refine q_getR kF_X9_132 dX9_sourest_21 e9 ?_
      refine q_iload_n 3 rfl dX9_sourest_24 ?_
      refine q_bind hyp (fun x10 e11 hyp => ?_)
      refine q_iald dX9_sourest_25 e11 ?_
      refine q_iload_n 2 rfl dX9_sourest_26 ?_
      refine q_icmp_le (tgt := 42) dX9_sourest_27 (by decide) (fun c12 => ?_) (fun c12 => ?_)
      · have hyp := q_pos c12 hyp
        refine q_iinc (ls' := [(3, .int (v3 + 1)), (0, .ref v0), (1, .int v1), (2, .int v2)]) 3 rfl rfl (by decide) rfl dX9_sourest_42 ?_
        refine q_goto (tgt := 6) dX9_sourest_45 (by decide) ?_
        exact q_sub [1, 2, 3, 0] rfl (ih v0 v1 v2 (v3 + 1) h hyp)
      · have hyp := q_neg c12 hyp
        refine q_iload_n 3 rfl dX9_sourest_30 ?_
        refine q_istore_n (ls' := [(1, .int v3), (0, .ref v0), (2, .int v2), (3, .int v3)]) (by decide) rfl dX9_sourest_31 ?_
        refine q_aload_n 1 rfl dX9_sourest_32 ?_
        refine q_bind hyp (fun x13 e14 hyp => ?_)
        refine q_getR kF_X9_38 dX9_sourest_33 e14 ?_
        refine q_bind hyp (fun x15 e16 hyp => ?_)
        refine q_getR kF_X9_132 dX9_sourest_36 e16 ?_
        refine q_iload_n 3 rfl dX9_sourest_39 ?_
        refine q_bind hyp (fun x17 e18 hyp => ?_)
        refine q_iald dX9_sourest_40 e18 ?_
        refine q_istore_n (ls' := [(2, .int x17), (1, .int v3), (0, .ref v0), (3, .int v3)]) (by decide) rfl dX9_sourest_41 ?_
        refine q_iinc (ls' := [(3, .int (v3 + 1)), (2, .int x17), (1, .int v3), (0, .ref v0)]) 3 rfl rfl (by decide) rfl dX9_sourest_42 ?_
        refine q_goto (tgt := 6) dX9_sourest_45 (by decide) ?_
        exact q_sub [3, 2, 1, 0] rfl (ih v0 v3 x17 (v3 + 1) h hyp)
def fX9_sourest (n : Nat) (v0 : Nat) (h : qH) : Option (Int32 × qH) :=
  (isO h v0 9).bind fun _ =>
  fX9_sourest_b6 n n v0 ((-1)) 0 0 h
theorem obX9_sourest {n : Nat} {v0 : Nat} {h : qH} {p : Int32 × qH} (hyp : fX9_sourest n v0 h = some p) : ∃ fs, h.1 v0 = some (.inr (9, fs)) := by
  unfold fX9_sourest at hyp
  exact q_bind hyp (fun _ e _ => isO_some e)
set_option maxHeartbeats 4000000 in
set_option maxRecDepth 100000 in
theorem okX9_sourest {l : Launch} {n : Nat} {v0 : Nat} {h : qH} {p : Int32 × qH} (hyp : fX9_sourest n v0 h = some p) : q_M l 1 yX9_sourest cX9_sourest 4 (some .int) [.ref v0] h (some (.int p.1)) p.2 := by
  obtain ⟨r, h'⟩ := p
  unfold fX9_sourest at hyp
  refine q_bind hyp (fun _ _ hyp => ?_)
  refine q_M.of (by decide) (Nat.le_of_ble_eq_true rfl) ?_
  refine q_to (ls' := [(0, .ref v0)]) (st' := []) rfl rfl ?_
  refine q_iconst (x := (-1)) rfl dX9_sourest_0 ?_
  refine q_istore_n (ls' := [(1, .int ((-1))), (0, .ref v0)]) (by decide) rfl dX9_sourest_1 ?_
  refine q_iconst (x := 0) rfl dX9_sourest_2 ?_
  refine q_istore_n (ls' := [(2, .int 0), (1, .int ((-1))), (0, .ref v0)]) (by decide) rfl dX9_sourest_3 ?_
  refine q_iconst (x := 0) rfl dX9_sourest_4 ?_
  refine q_istore_n (ls' := [(3, .int 0), (2, .int 0), (1, .int ((-1))), (0, .ref v0)]) (by decide) rfl dX9_sourest_5 ?_
  exact q_sub [3, 2, 1, 0] rfl (okX9_sourest_b6 _ v0 ((-1)) 0 0 h hyp)
theorem dX9_spread_0 : decode cX9_spread 0 = .ok (.aload_n 0, 1) := by decide +kernel
theorem dX9_spread_1 : decode cX9_spread 1 = .ok (.iload_n 1, 1) := by decide +kernel
theorem dX9_spread_2 : decode cX9_spread 2 = .ok (.invokevirtual 122, 3) := by decide +kernel
theorem dX9_spread_5 : decode cX9_spread 5 = .ok (.ifCond .eq 18, 3) := by decide +kernel
theorem dX9_spread_8 : decode cX9_spread 8 = .ok (.aload_n 0, 1) := by decide +kernel
theorem dX9_spread_9 : decode cX9_spread 9 = .ok (.getfield 38, 3) := by decide +kernel
theorem dX9_spread_12 : decode cX9_spread 12 = .ok (.aload_n 0, 1) := by decide +kernel
theorem dX9_spread_13 : decode cX9_spread 13 = .ok (.getfield 28, 3) := by decide +kernel
theorem dX9_spread_16 : decode cX9_spread 16 = .ok (.iload_n 1, 1) := by decide +kernel
theorem dX9_spread_17 : decode cX9_spread 17 = .ok (.invokevirtual 152, 3) := by decide +kernel
theorem dX9_spread_20 : decode cX9_spread 20 = .ok (.ifCond .ne 5, 3) := by decide +kernel
theorem dX9_spread_23 : decode cX9_spread 23 = .ok (.iconst (-1), 1) := by decide +kernel
theorem dX9_spread_24 : decode cX9_spread 24 = .ok (.ireturn, 1) := by decide +kernel
theorem dX9_spread_25 : decode cX9_spread 25 = .ok (.aload_n 0, 1) := by decide +kernel
theorem dX9_spread_26 : decode cX9_spread 26 = .ok (.getfield 48, 3) := by decide +kernel
theorem dX9_spread_29 : decode cX9_spread 29 = .ok (.aload_n 0, 1) := by decide +kernel
theorem dX9_spread_30 : decode cX9_spread 30 = .ok (.getfield 38, 3) := by decide +kernel
theorem dX9_spread_33 : decode cX9_spread 33 = .ok (.invokevirtual 156, 3) := by decide +kernel
theorem dX9_spread_36 : decode cX9_spread 36 = .ok (.aload_n 0, 1) := by decide +kernel
theorem dX9_spread_37 : decode cX9_spread 37 = .ok (.getfield 38, 3) := by decide +kernel
theorem dX9_spread_40 : decode cX9_spread 40 = .ok (.aload_n 0, 1) := by decide +kernel
theorem dX9_spread_41 : decode cX9_spread 41 = .ok (.getfield 28, 3) := by decide +kernel
theorem dX9_spread_44 : decode cX9_spread 44 = .ok (.iload_n 1, 1) := by decide +kernel
theorem dX9_spread_45 : decode cX9_spread 45 = .ok (.invokevirtual 160, 3) := by decide +kernel
theorem dX9_spread_48 : decode cX9_spread 48 = .ok (.aload_n 0, 1) := by decide +kernel
theorem dX9_spread_49 : decode cX9_spread 49 = .ok (.getfield 38, 3) := by decide +kernel
theorem dX9_spread_52 : decode cX9_spread 52 = .ok (.getfield 132, 3) := by decide +kernel
theorem dX9_spread_55 : decode cX9_spread 55 = .ok (.iload_n 1, 1) := by decide +kernel
theorem dX9_spread_56 : decode cX9_spread 56 = .ok (.iaload, 1) := by decide +kernel
theorem dX9_spread_57 : decode cX9_spread 57 = .ok (.ireturn, 1) := by decide +kernel
def fX9_spread (n : Nat) (v0 : Nat) (v1 : Int32) (h : qH) : Option (Int32 × qH) :=
  (isO h v0 9).bind fun _ =>
  (fX9_isMatter v0 v1 h).bind fun p1 =>
  if p1.1 = 0 then
  (some ((-1), p1.2))
  else
  ((gR p1.2 v0 9 4).bind fun x3 =>
  (gR p1.2 v0 9 2).bind fun x5 =>
  (fX8_canSpread x3 x5 v1 p1.2).bind fun p7 =>
  if p7.1 = 0 then
  (some ((-1), p7.2))
  else
  ((gR p7.2 v0 9 6).bind fun x9 =>
  (gR p7.2 v0 9 4).bind fun x11 =>
  (fX0_keep n x9 x11 p7.2).bind fun h13 =>
  (gR h13 v0 9 4).bind fun x14 =>
  (gR h13 v0 9 2).bind fun x16 =>
  (fX8_putOn n x14 x16 v1 h13).bind fun h18 =>
  (gR h18 v0 9 4).bind fun x19 =>
  (gR h18 x19 8 0).bind fun x21 =>
  (aI .int h18 x21 v1).bind fun x23 =>
  some (x23, h18)))
theorem obX9_spread {n : Nat} {v0 : Nat} {v1 : Int32} {h : qH} {p : Int32 × qH} (hyp : fX9_spread n v0 v1 h = some p) : ∃ fs, h.1 v0 = some (.inr (9, fs)) := by
  unfold fX9_spread at hyp
  exact q_bind hyp (fun _ e _ => isO_some e)
set_option maxHeartbeats 4000000 in
set_option maxRecDepth 100000 in
theorem okX9_spread {l : Launch} {n : Nat} {v0 : Nat} {v1 : Int32} {h : qH} {p : Int32 × qH} (hyp : fX9_spread n v0 v1 h = some p) : q_M l 5 yX9_spread cX9_spread 2 (some .int) [.ref v0, .int v1] h (some (.int p.1)) p.2 := by
  obtain ⟨r, h'⟩ := p
  unfold fX9_spread at hyp
  refine q_bind hyp (fun _ _ hyp => ?_)
  refine q_M.of (by decide) (Nat.le_of_ble_eq_true rfl) ?_
  refine q_to (ls' := [(0, .ref v0), (1, .int v1)]) (st' := []) rfl rfl ?_
  refine q_aload_n 0 rfl dX9_spread_0 ?_
  refine q_iload_n 1 rfl dX9_spread_1 ?_
  refine q_bind hyp (fun p1 e28 hyp => ?_)
  refine q_callV (as := [.int v1]) (st := []) kY_X9_isMatter kL_X9_122 (okX9_isMatter (l := l) e28) (by decide) rfl (obX9_isMatter e28) (Nat.le_of_ble_eq_true rfl) dX9_spread_2 ?_
  refine q_to (ls' := [(0, .ref v0), (1, .int v1)]) (st' := [.int p1.1]) rfl rfl ?_
  refine q_if_eq (tgt := 23) dX9_spread_5 (by decide) (fun c2 => ?_) (fun c2 => ?_)
  · have hyp := q_pos c2 hyp
    refine q_iconst (x := (-1)) rfl dX9_spread_23 ?_
    exact q_iretH rfl rfl dX9_spread_24 hyp
  · have hyp := q_neg c2 hyp
    refine q_aload_n 0 rfl dX9_spread_8 ?_
    refine q_bind hyp (fun x3 e4 hyp => ?_)
    refine q_getR kF_X9_38 dX9_spread_9 e4 ?_
    refine q_aload_n 0 rfl dX9_spread_12 ?_
    refine q_bind hyp (fun x5 e6 hyp => ?_)
    refine q_getR kF_X9_28 dX9_spread_13 e6 ?_
    refine q_iload_n 1 rfl dX9_spread_16 ?_
    refine q_bind hyp (fun p7 e27 hyp => ?_)
    refine q_callV (as := [.ref x5, .int v1]) (st := []) kY_X8_canSpread kL_X9_152 (okX8_canSpread (l := l) e27) (by decide) rfl (obX8_canSpread e27) (Nat.le_of_ble_eq_true rfl) dX9_spread_17 ?_
    refine q_to (ls' := [(0, .ref v0), (1, .int v1)]) (st' := [.int p7.1]) rfl rfl ?_
    refine q_if_ne (tgt := 25) dX9_spread_20 (by decide) (fun c8 => ?_) (fun c8 => ?_)
    · have hyp := q_neg c8 hyp
      refine q_aload_n 0 rfl dX9_spread_25 ?_
      refine q_bind hyp (fun x9 e10 hyp => ?_)
      refine q_getR kF_X9_48 dX9_spread_26 e10 ?_
      refine q_aload_n 0 rfl dX9_spread_29 ?_
      refine q_bind hyp (fun x11 e12 hyp => ?_)
      refine q_getR kF_X9_38 dX9_spread_30 e12 ?_
      refine q_bind hyp (fun h13 e26 hyp => ?_)
      refine q_callV (as := [.ref x11]) (st := []) kY_X0_keep kL_X9_156 (okX0_keep (l := l) e26) (by decide) rfl (obX0_keep e26) (Nat.le_of_ble_eq_true rfl) dX9_spread_33 ?_
      refine q_to (ls' := [(0, .ref v0), (1, .int v1)]) (st' := []) rfl rfl ?_
      refine q_aload_n 0 rfl dX9_spread_36 ?_
      refine q_bind hyp (fun x14 e15 hyp => ?_)
      refine q_getR kF_X9_38 dX9_spread_37 e15 ?_
      refine q_aload_n 0 rfl dX9_spread_40 ?_
      refine q_bind hyp (fun x16 e17 hyp => ?_)
      refine q_getR kF_X9_28 dX9_spread_41 e17 ?_
      refine q_iload_n 1 rfl dX9_spread_44 ?_
      refine q_bind hyp (fun h18 e25 hyp => ?_)
      refine q_callV (as := [.ref x16, .int v1]) (st := []) kY_X8_putOn kL_X9_160 (okX8_putOn (l := l) e25) (by decide) rfl (obX8_putOn e25) (Nat.le_of_ble_eq_true rfl) dX9_spread_45 ?_
      refine q_to (ls' := [(0, .ref v0), (1, .int v1)]) (st' := []) rfl rfl ?_
      refine q_aload_n 0 rfl dX9_spread_48 ?_
      refine q_bind hyp (fun x19 e20 hyp => ?_)
      refine q_getR kF_X9_38 dX9_spread_49 e20 ?_
      refine q_bind hyp (fun x21 e22 hyp => ?_)
      refine q_getR kF_X9_132 dX9_spread_52 e22 ?_
      refine q_iload_n 1 rfl dX9_spread_55 ?_
      refine q_bind hyp (fun x23 e24 hyp => ?_)
      refine q_iald dX9_spread_56 e24 ?_
      exact q_iretH rfl rfl dX9_spread_57 hyp
    · have hyp := q_pos c8 hyp
      refine q_iconst (x := (-1)) rfl dX9_spread_23 ?_
      exact q_iretH rfl rfl dX9_spread_24 hyp
theorem dX9_story_0 : decode cX9_story 0 = .ok (.iconst 0, 1) := by decide +kernel
theorem dX9_story_1 : decode cX9_story 1 = .ok (.istore_n 1, 1) := by decide +kernel
theorem dX9_story_2 : decode cX9_story 2 = .ok (.iconst 0, 1) := by decide +kernel
theorem dX9_story_3 : decode cX9_story 3 = .ok (.istore_n 2, 1) := by decide +kernel
theorem dX9_story_4 : decode cX9_story 4 = .ok (.iload_n 2, 1) := by decide +kernel
theorem dX9_story_5 : decode cX9_story 5 = .ok (.aload_n 0, 1) := by decide +kernel
theorem dX9_story_6 : decode cX9_story 6 = .ok (.getfield 28, 3) := by decide +kernel
theorem dX9_story_9 : decode cX9_story 9 = .ok (.getfield 220, 3) := by decide +kernel
theorem dX9_story_12 : decode cX9_story 12 = .ok (.if_icmp .ge 23, 3) := by decide +kernel
theorem dX9_story_15 : decode cX9_story 15 = .ok (.iload_n 1, 1) := by decide +kernel
theorem dX9_story_16 : decode cX9_story 16 = .ok (.aload_n 0, 1) := by decide +kernel
theorem dX9_story_17 : decode cX9_story 17 = .ok (.getfield 28, 3) := by decide +kernel
theorem dX9_story_20 : decode cX9_story 20 = .ok (.iload_n 2, 1) := by decide +kernel
theorem dX9_story_21 : decode cX9_story 21 = .ok (.iconst 0, 1) := by decide +kernel
theorem dX9_story_22 : decode cX9_story 22 = .ok (.invokevirtual 264, 3) := by decide +kernel
theorem dX9_story_25 : decode cX9_story 25 = .ok (.invokestatic 244, 3) := by decide +kernel
theorem dX9_story_28 : decode cX9_story 28 = .ok (.istore_n 1, 1) := by decide +kernel
theorem dX9_story_29 : decode cX9_story 29 = .ok (.iinc 2 1, 3) := by decide +kernel
theorem dX9_story_32 : decode cX9_story 32 = .ok (.goto (-28), 3) := by decide +kernel
theorem dX9_story_35 : decode cX9_story 35 = .ok (.iload_n 1, 1) := by decide +kernel
theorem dX9_story_36 : decode cX9_story 36 = .ok (.ireturn, 1) := by decide +kernel
def fX9_story_b4 (n : Nat) : Nat → Nat → Int32 → Int32 → qH → Option (Int32 × qH)
  | 0, _, _, _, _ => none
  | w + 1, v0, v1, v2, h =>
    (gR h v0 9 2).bind fun x1 =>
    (gI h x1 5 6).bind fun x3 =>
    if x3 ≤ v2 then
    (some (v1, h))
    else
    ((gR h v0 9 2).bind fun x6 =>
    (fX5_storyFrom n x6 v2 0 h).bind fun p8 =>
    fX9_story_b4 n w v0 (if v1 < p8.1 then p8.1 else v1) (v2 + 1) p8.2)
set_option maxHeartbeats 4000000 in
set_option maxRecDepth 100000 in
theorem okX9_story_b4 {l : Launch} {n : Nat} {r : Int32} {h' : qH} : ∀ (w : Nat) (v0 : Nat) (v1 : Int32) (v2 : Int32) (h : qH), fX9_story_b4 n w v0 v1 v2 h = some (r, h') → q_W l 13 yX9_story cX9_story 3 (some .int) (some (.int r)) h' 4 [(0, .ref v0), (1, .int v1), (2, .int v2)] [] h := by
  intro w
  induction w with
  | zero => intro v0 v1 v2 h hyp; cases hyp
  | succ w ih =>
    intro v0 v1 v2 h hyp
    unfold fX9_story_b4 at hyp
    refine q_iload_n 2 rfl dX9_story_4 ?_
    refine q_aload_n 0 rfl dX9_story_5 ?_
    refine q_bind hyp (fun x1 e2 hyp => ?_)
    refine q_getR kF_X9_28 dX9_story_6 e2 ?_
    refine q_bind hyp (fun x3 e4 hyp => ?_)
    refine q_getI kF_X9_220 dX9_story_9 e4 ?_
    refine q_icmp_ge (tgt := 35) dX9_story_12 (by decide) (fun c5 => ?_) (fun c5 => ?_)
    · have hyp := q_pos c5 hyp
      refine q_iload_n 1 rfl dX9_story_35 ?_
      exact q_iretH rfl rfl dX9_story_36 hyp
    · have hyp := q_neg c5 hyp
      refine q_iload_n 1 rfl dX9_story_15 ?_
      refine q_aload_n 0 rfl dX9_story_16 ?_
      refine q_bind hyp (fun x6 e7 hyp => ?_)
      refine q_getR kF_X9_28 dX9_story_17 e7 ?_
      refine q_iload_n 2 rfl dX9_story_20 ?_
      refine q_iconst (x := 0) rfl dX9_story_21 ?_
      refine q_bind hyp (fun p8 e9 hyp => ?_)
      refine q_callV (as := [.int v2, .int 0]) (st := [.int v1]) kY_X5_storyFrom kL_X9_264 (okX5_storyFrom (l := l) e9) (by decide) rfl (obX5_storyFrom e9) (Nat.le_of_ble_eq_true rfl) dX9_story_22 ?_
      refine q_to (ls' := [(0, .ref v0), (1, .int v1), (2, .int v2)]) (st' := [.int p8.1, .int v1]) rfl rfl ?_
      refine q_max kL_X9_244 kS_max kZ_math kD_max (by decide) (Nat.le_of_ble_eq_true rfl) dX9_story_25 ?_
      refine q_istore_n (ls' := [(1, .int (if v1 < p8.1 then p8.1 else v1)), (0, .ref v0), (2, .int v2)]) (by decide) rfl dX9_story_28 ?_
      refine q_iinc (ls' := [(2, .int (v2 + 1)), (1, .int (if v1 < p8.1 then p8.1 else v1)), (0, .ref v0)]) 2 rfl rfl (by decide) rfl dX9_story_29 ?_
      refine q_goto (tgt := 4) dX9_story_32 (by decide) ?_
      exact q_sub [2, 1, 0] rfl (ih v0 (if v1 < p8.1 then p8.1 else v1) (v2 + 1) p8.2 hyp)
def fX9_story (n : Nat) (v0 : Nat) (h : qH) : Option (Int32 × qH) :=
  (isO h v0 9).bind fun _ =>
  fX9_story_b4 n n v0 0 0 h
theorem obX9_story {n : Nat} {v0 : Nat} {h : qH} {p : Int32 × qH} (hyp : fX9_story n v0 h = some p) : ∃ fs, h.1 v0 = some (.inr (9, fs)) := by
  unfold fX9_story at hyp
  exact q_bind hyp (fun _ e _ => isO_some e)
set_option maxHeartbeats 4000000 in
set_option maxRecDepth 100000 in
theorem okX9_story {l : Launch} {n : Nat} {v0 : Nat} {h : qH} {p : Int32 × qH} (hyp : fX9_story n v0 h = some p) : q_M l 13 yX9_story cX9_story 3 (some .int) [.ref v0] h (some (.int p.1)) p.2 := by
  obtain ⟨r, h'⟩ := p
  unfold fX9_story at hyp
  refine q_bind hyp (fun _ _ hyp => ?_)
  refine q_M.of (by decide) (Nat.le_of_ble_eq_true rfl) ?_
  refine q_to (ls' := [(0, .ref v0)]) (st' := []) rfl rfl ?_
  refine q_iconst (x := 0) rfl dX9_story_0 ?_
  refine q_istore_n (ls' := [(1, .int 0), (0, .ref v0)]) (by decide) rfl dX9_story_1 ?_
  refine q_iconst (x := 0) rfl dX9_story_2 ?_
  refine q_istore_n (ls' := [(2, .int 0), (1, .int 0), (0, .ref v0)]) (by decide) rfl dX9_story_3 ?_
  exact q_sub [2, 1, 0] rfl (okX9_story_b4 _ v0 0 0 h hyp)
theorem dX9_suspects_0 : decode cX9_suspects 0 = .ok (.aload_n 0, 1) := by decide +kernel
theorem dX9_suspects_1 : decode cX9_suspects 1 = .ok (.getfield 28, 3) := by decide +kernel
theorem dX9_suspects_4 : decode cX9_suspects 4 = .ok (.invokevirtual 201, 3) := by decide +kernel
theorem dX9_suspects_7 : decode cX9_suspects 7 = .ok (.istore_n 1, 1) := by decide +kernel
theorem dX9_suspects_8 : decode cX9_suspects 8 = .ok (.iconst 0, 1) := by decide +kernel
theorem dX9_suspects_9 : decode cX9_suspects 9 = .ok (.istore_n 2, 1) := by decide +kernel
theorem dX9_suspects_10 : decode cX9_suspects 10 = .ok (.iload_n 2, 1) := by decide +kernel
theorem dX9_suspects_11 : decode cX9_suspects 11 = .ok (.aload_n 0, 1) := by decide +kernel
theorem dX9_suspects_12 : decode cX9_suspects 12 = .ok (.getfield 65, 3) := by decide +kernel
theorem dX9_suspects_15 : decode cX9_suspects 15 = .ok (.getfield 106, 3) := by decide +kernel
theorem dX9_suspects_18 : decode cX9_suspects 18 = .ok (.if_icmp .ge 54, 3) := by decide +kernel
theorem dX9_suspects_21 : decode cX9_suspects 21 = .ok (.aload_n 0, 1) := by decide +kernel
theorem dX9_suspects_22 : decode cX9_suspects 22 = .ok (.aload_n 0, 1) := by decide +kernel
theorem dX9_suspects_23 : decode cX9_suspects 23 = .ok (.getfield 65, 3) := by decide +kernel
theorem dX9_suspects_26 : decode cX9_suspects 26 = .ok (.getfield 286, 3) := by decide +kernel
theorem dX9_suspects_29 : decode cX9_suspects 29 = .ok (.iload_n 2, 1) := by decide +kernel
theorem dX9_suspects_30 : decode cX9_suspects 30 = .ok (.iaload, 1) := by decide +kernel
theorem dX9_suspects_31 : decode cX9_suspects 31 = .ok (.aload_n 0, 1) := by decide +kernel
theorem dX9_suspects_32 : decode cX9_suspects 32 = .ok (.getfield 65, 3) := by decide +kernel
theorem dX9_suspects_35 : decode cX9_suspects 35 = .ok (.getfield 287, 3) := by decide +kernel
theorem dX9_suspects_38 : decode cX9_suspects 38 = .ok (.iload_n 2, 1) := by decide +kernel
theorem dX9_suspects_39 : decode cX9_suspects 39 = .ok (.iaload, 1) := by decide +kernel
theorem dX9_suspects_40 : decode cX9_suspects 40 = .ok (.invokevirtual 288, 3) := by decide +kernel
theorem dX9_suspects_43 : decode cX9_suspects 43 = .ok (.istore_n 3, 1) := by decide +kernel
theorem dX9_suspects_44 : decode cX9_suspects 44 = .ok (.iload_n 1, 1) := by decide +kernel
theorem dX9_suspects_45 : decode cX9_suspects 45 = .ok (.aload_n 0, 1) := by decide +kernel
theorem dX9_suspects_46 : decode cX9_suspects 46 = .ok (.getfield 65, 3) := by decide +kernel
theorem dX9_suspects_49 : decode cX9_suspects 49 = .ok (.getfield 291, 3) := by decide +kernel
theorem dX9_suspects_52 : decode cX9_suspects 52 = .ok (.iload_n 2, 1) := by decide +kernel
theorem dX9_suspects_53 : decode cX9_suspects 53 = .ok (.baload, 1) := by decide +kernel
theorem dX9_suspects_54 : decode cX9_suspects 54 = .ok (.ifCond .eq 7, 3) := by decide +kernel
theorem dX9_suspects_57 : decode cX9_suspects 57 = .ok (.iload_n 3, 1) := by decide +kernel
theorem dX9_suspects_58 : decode cX9_suspects 58 = .ok (.goto 6, 3) := by decide +kernel
theorem dX9_suspects_61 : decode cX9_suspects 61 = .ok (.iload_n 3, 1) := by decide +kernel
theorem dX9_suspects_62 : decode cX9_suspects 62 = .ok (.iconst (-1), 1) := by decide +kernel
theorem dX9_suspects_63 : decode cX9_suspects 63 = .ok (.ixor, 1) := by decide +kernel
theorem dX9_suspects_64 : decode cX9_suspects 64 = .ok (.iand, 1) := by decide +kernel
theorem dX9_suspects_65 : decode cX9_suspects 65 = .ok (.istore_n 1, 1) := by decide +kernel
theorem dX9_suspects_66 : decode cX9_suspects 66 = .ok (.iinc 2 1, 3) := by decide +kernel
theorem dX9_suspects_69 : decode cX9_suspects 69 = .ok (.goto (-59), 3) := by decide +kernel
theorem dX9_suspects_72 : decode cX9_suspects 72 = .ok (.iload_n 1, 1) := by decide +kernel
theorem dX9_suspects_73 : decode cX9_suspects 73 = .ok (.ireturn, 1) := by decide +kernel
def fX9_suspects_b10 (n : Nat) : Nat → Nat → Int32 → Int32 → qH → Option (Int32 × qH)
  | 0, _, _, _, _ => none
  | w + 1, v0, v1, v2, h =>
    (gR h v0 9 9).bind fun x1 =>
    (gI h x1 7 3).bind fun x3 =>
    if x3 ≤ v2 then
    (some (v1, h))
    else
    ((gR h v0 9 9).bind fun x6 =>
    (gR h x6 7 0).bind fun x8 =>
    (aI .int h x8 v2).bind fun x10 =>
    (gR h v0 9 9).bind fun x12 =>
    (gR h x12 7 1).bind fun x14 =>
    (aI .int h x14 v2).bind fun x16 =>
    (fX9_noSourerBits n v0 x10 x16 h).bind fun p18 =>
    (gR p18.2 v0 9 9).bind fun x19 =>
    (gR p18.2 x19 7 2).bind fun x21 =>
    (aI .boolean p18.2 x21 v2).bind fun x23 =>
    if x23 = 0 then
    (fX9_suspects_b10 n w v0 (v1 &&& (p18.1 ^^^ ((-1)))) (v2 + 1) p18.2)
    else
    (fX9_suspects_b10 n w v0 (v1 &&& p18.1) (v2 + 1) p18.2))
set_option maxHeartbeats 4000000 in
set_option maxRecDepth 100000 in
theorem okX9_suspects_b10 {l : Launch} {n : Nat} {r : Int32} {h' : qH} : ∀ (w : Nat) (v0 : Nat) (v1 : Int32) (v2 : Int32) (h : qH), fX9_suspects_b10 n w v0 v1 v2 h = some (r, h') → q_W l 2 yX9_suspects cX9_suspects 4 (some .int) (some (.int r)) h' 10 [(0, .ref v0), (1, .int v1), (2, .int v2)] [] h := by
  intro w
  induction w with
  | zero => intro v0 v1 v2 h hyp; cases hyp
  | succ w ih =>
    intro v0 v1 v2 h hyp
    unfold fX9_suspects_b10 at hyp
    refine q_iload_n 2 rfl dX9_suspects_10 ?_
    refine q_aload_n 0 rfl dX9_suspects_11 ?_
    refine q_bind hyp (fun x1 e2 hyp => ?_)
    refine q_getR kF_X9_65 dX9_suspects_12 e2 ?_
    refine q_bind hyp (fun x3 e4 hyp => ?_)
    refine q_getI kF_X9_106 dX9_suspects_15 e4 ?_
    refine q_icmp_ge (tgt := 72) dX9_suspects_18 (by decide) (fun c5 => ?_) (fun c5 => ?_)
    · have hyp := q_pos c5 hyp
      refine q_iload_n 1 rfl dX9_suspects_72 ?_
      exact q_iretH rfl rfl dX9_suspects_73 hyp
    · have hyp := q_neg c5 hyp
      refine q_aload_n 0 rfl dX9_suspects_21 ?_
      refine q_aload_n 0 rfl dX9_suspects_22 ?_
      refine q_bind hyp (fun x6 e7 hyp => ?_)
      refine q_getR kF_X9_65 dX9_suspects_23 e7 ?_
      refine q_bind hyp (fun x8 e9 hyp => ?_)
      refine q_getR kF_X9_286 dX9_suspects_26 e9 ?_
      refine q_iload_n 2 rfl dX9_suspects_29 ?_
      refine q_bind hyp (fun x10 e11 hyp => ?_)
      refine q_iald dX9_suspects_30 e11 ?_
      refine q_aload_n 0 rfl dX9_suspects_31 ?_
      refine q_bind hyp (fun x12 e13 hyp => ?_)
      refine q_getR kF_X9_65 dX9_suspects_32 e13 ?_
      refine q_bind hyp (fun x14 e15 hyp => ?_)
      refine q_getR kF_X9_287 dX9_suspects_35 e15 ?_
      refine q_iload_n 2 rfl dX9_suspects_38 ?_
      refine q_bind hyp (fun x16 e17 hyp => ?_)
      refine q_iald dX9_suspects_39 e17 ?_
      refine q_bind hyp (fun p18 e26 hyp => ?_)
      refine q_callV (as := [.int x10, .int x16]) (st := []) kY_X9_noSourerBits kL_X9_288 (okX9_noSourerBits (l := l) e26) (by decide) rfl (obX9_noSourerBits e26) (Nat.le_of_ble_eq_true rfl) dX9_suspects_40 ?_
      refine q_to (ls' := [(0, .ref v0), (1, .int v1), (2, .int v2)]) (st' := [.int p18.1]) rfl rfl ?_
      refine q_istore_n (ls' := [(3, .int p18.1), (0, .ref v0), (1, .int v1), (2, .int v2)]) (by decide) rfl dX9_suspects_43 ?_
      refine q_iload_n 2 rfl dX9_suspects_44 ?_
      refine q_aload_n 1 rfl dX9_suspects_45 ?_
      refine q_bind hyp (fun x19 e20 hyp => ?_)
      refine q_getR kF_X9_65 dX9_suspects_46 e20 ?_
      refine q_bind hyp (fun x21 e22 hyp => ?_)
      refine q_getR kF_X9_291 dX9_suspects_49 e22 ?_
      refine q_iload_n 3 rfl dX9_suspects_52 ?_
      refine q_bind hyp (fun x23 e24 hyp => ?_)
      refine q_zald dX9_suspects_53 e24 ?_
      refine q_if_eq (tgt := 61) dX9_suspects_54 (by decide) (fun c25 => ?_) (fun c25 => ?_)
      · have hyp := q_pos c25 hyp
        refine q_iload_n 0 rfl dX9_suspects_61 ?_
        refine q_iconst (x := (-1)) rfl dX9_suspects_62 ?_
        refine q_ixor dX9_suspects_63 ?_
        refine q_iand dX9_suspects_64 ?_
        refine q_istore_n (ls' := [(1, .int (v1 &&& (p18.1 ^^^ ((-1))))), (3, .int p18.1), (0, .ref v0), (2, .int v2)]) (by decide) rfl dX9_suspects_65 ?_
        refine q_iinc (ls' := [(2, .int (v2 + 1)), (1, .int (v1 &&& (p18.1 ^^^ ((-1))))), (3, .int p18.1), (0, .ref v0)]) 3 rfl rfl (by decide) rfl dX9_suspects_66 ?_
        refine q_goto (tgt := 10) dX9_suspects_69 (by decide) ?_
        exact q_sub [3, 1, 0] rfl (ih v0 (v1 &&& (p18.1 ^^^ ((-1)))) (v2 + 1) p18.2 hyp)
      · have hyp := q_neg c25 hyp
        refine q_iload_n 0 rfl dX9_suspects_57 ?_
        refine q_goto (tgt := 64) dX9_suspects_58 (by decide) ?_
        refine q_iand dX9_suspects_64 ?_
        refine q_istore_n (ls' := [(1, .int (v1 &&& p18.1)), (3, .int p18.1), (0, .ref v0), (2, .int v2)]) (by decide) rfl dX9_suspects_65 ?_
        refine q_iinc (ls' := [(2, .int (v2 + 1)), (1, .int (v1 &&& p18.1)), (3, .int p18.1), (0, .ref v0)]) 3 rfl rfl (by decide) rfl dX9_suspects_66 ?_
        refine q_goto (tgt := 10) dX9_suspects_69 (by decide) ?_
        exact q_sub [3, 1, 0] rfl (ih v0 (v1 &&& p18.1) (v2 + 1) p18.2 hyp)
def fX9_suspects (n : Nat) (v0 : Nat) (h : qH) : Option (Int32 × qH) :=
  (isO h v0 9).bind fun _ =>
  (gR h v0 9 2).bind fun x1 =>
  (fX5_everyone x1 h).bind fun p3 =>
  fX9_suspects_b10 n n v0 p3.1 0 p3.2
theorem obX9_suspects {n : Nat} {v0 : Nat} {h : qH} {p : Int32 × qH} (hyp : fX9_suspects n v0 h = some p) : ∃ fs, h.1 v0 = some (.inr (9, fs)) := by
  unfold fX9_suspects at hyp
  exact q_bind hyp (fun _ e _ => isO_some e)
set_option maxHeartbeats 4000000 in
set_option maxRecDepth 100000 in
theorem okX9_suspects {l : Launch} {n : Nat} {v0 : Nat} {h : qH} {p : Int32 × qH} (hyp : fX9_suspects n v0 h = some p) : q_M l 2 yX9_suspects cX9_suspects 4 (some .int) [.ref v0] h (some (.int p.1)) p.2 := by
  obtain ⟨r, h'⟩ := p
  unfold fX9_suspects at hyp
  refine q_bind hyp (fun _ _ hyp => ?_)
  refine q_M.of (by decide) (Nat.le_of_ble_eq_true rfl) ?_
  refine q_to (ls' := [(0, .ref v0)]) (st' := []) rfl rfl ?_
  refine q_aload_n 0 rfl dX9_suspects_0 ?_
  refine q_bind hyp (fun x1 e2 hyp => ?_)
  refine q_getR kF_X9_28 dX9_suspects_1 e2 ?_
  refine q_bind hyp (fun p3 e4 hyp => ?_)
  refine q_callV (as := []) (st := []) kY_X5_everyone kL_X9_201 (okX5_everyone (l := l) e4) (by decide) rfl (obX5_everyone e4) (Nat.le_of_ble_eq_true rfl) dX9_suspects_4 ?_
  refine q_to (ls' := [(0, .ref v0)]) (st' := [.int p3.1]) rfl rfl ?_
  refine q_istore_n (ls' := [(1, .int p3.1), (0, .ref v0)]) (by decide) rfl dX9_suspects_7 ?_
  refine q_iconst (x := 0) rfl dX9_suspects_8 ?_
  refine q_istore_n (ls' := [(2, .int 0), (1, .int p3.1), (0, .ref v0)]) (by decide) rfl dX9_suspects_9 ?_
  exact q_sub [2, 1, 0] rfl (okX9_suspects_b10 _ v0 p3.1 0 p3.2 hyp)
theorem dX9_taste_0 : decode cX9_taste 0 = .ok (.aload_n 0, 1) := by decide +kernel
theorem dX9_taste_1 : decode cX9_taste 1 = .ok (.invokevirtual 280, 3) := by decide +kernel
theorem dX9_taste_4 : decode cX9_taste 4 = .ok (.aload_n 0, 1) := by decide +kernel
theorem dX9_taste_5 : decode cX9_taste 5 = .ok (.invokevirtual 283, 3) := by decide +kernel
theorem dX9_taste_8 : decode cX9_taste 8 = .ok (.istore_n 1, 1) := by decide +kernel
theorem dX9_taste_9 : decode cX9_taste 9 = .ok (.iload_n 1, 1) := by decide +kernel
theorem dX9_taste_10 : decode cX9_taste 10 = .ok (.invokestatic 170, 3) := by decide +kernel
theorem dX9_taste_13 : decode cX9_taste 13 = .ok (.istore_n 2, 1) := by decide +kernel
theorem dX9_taste_14 : decode cX9_taste 14 = .ok (.iconst (-1), 1) := by decide +kernel
theorem dX9_taste_15 : decode cX9_taste 15 = .ok (.istore_n 3, 1) := by decide +kernel
theorem dX9_taste_16 : decode cX9_taste 16 = .ok (.iload_n 2, 1) := by decide +kernel
theorem dX9_taste_17 : decode cX9_taste 17 = .ok (.istore 4, 2) := by decide +kernel
theorem dX9_taste_19 : decode cX9_taste 19 = .ok (.iconst 0, 1) := by decide +kernel
theorem dX9_taste_20 : decode cX9_taste 20 = .ok (.istore 5, 2) := by decide +kernel
theorem dX9_taste_22 : decode cX9_taste 22 = .ok (.iload 5, 2) := by decide +kernel
theorem dX9_taste_24 : decode cX9_taste 24 = .ok (.bipush 9, 2) := by decide +kernel
theorem dX9_taste_26 : decode cX9_taste 26 = .ok (.if_icmp .gt 71, 3) := by decide +kernel
theorem dX9_taste_29 : decode cX9_taste 29 = .ok (.iconst 0, 1) := by decide +kernel
theorem dX9_taste_30 : decode cX9_taste 30 = .ok (.istore 6, 2) := by decide +kernel
theorem dX9_taste_32 : decode cX9_taste 32 = .ok (.iload 6, 2) := by decide +kernel
theorem dX9_taste_34 : decode cX9_taste 34 = .ok (.bipush 40, 2) := by decide +kernel
theorem dX9_taste_36 : decode cX9_taste 36 = .ok (.if_icmp .gt 55, 3) := by decide +kernel
theorem dX9_taste_39 : decode cX9_taste 39 = .ok (.iload_n 1, 1) := by decide +kernel
theorem dX9_taste_40 : decode cX9_taste 40 = .ok (.aload_n 0, 1) := by decide +kernel
theorem dX9_taste_41 : decode cX9_taste 41 = .ok (.iload 5, 2) := by decide +kernel
theorem dX9_taste_43 : decode cX9_taste 43 = .ok (.iload 6, 2) := by decide +kernel
theorem dX9_taste_45 : decode cX9_taste 45 = .ok (.invokevirtual 288, 3) := by decide +kernel
theorem dX9_taste_48 : decode cX9_taste 48 = .ok (.iand, 1) := by decide +kernel
theorem dX9_taste_49 : decode cX9_taste 49 = .ok (.invokestatic 170, 3) := by decide +kernel
theorem dX9_taste_52 : decode cX9_taste 52 = .ok (.istore 7, 2) := by decide +kernel
theorem dX9_taste_54 : decode cX9_taste 54 = .ok (.iload 7, 2) := by decide +kernel
theorem dX9_taste_56 : decode cX9_taste 56 = .ok (.iload_n 2, 1) := by decide +kernel
theorem dX9_taste_57 : decode cX9_taste 57 = .ok (.iload 7, 2) := by decide +kernel
theorem dX9_taste_59 : decode cX9_taste 59 = .ok (.isub, 1) := by decide +kernel
theorem dX9_taste_60 : decode cX9_taste 60 = .ok (.invokestatic 244, 3) := by decide +kernel
theorem dX9_taste_63 : decode cX9_taste 63 = .ok (.istore 8, 2) := by decide +kernel
theorem dX9_taste_65 : decode cX9_taste 65 = .ok (.iload 8, 2) := by decide +kernel
theorem dX9_taste_67 : decode cX9_taste 67 = .ok (.iload 4, 2) := by decide +kernel
theorem dX9_taste_69 : decode cX9_taste 69 = .ok (.if_icmp .ge 16, 3) := by decide +kernel
theorem dX9_taste_72 : decode cX9_taste 72 = .ok (.iload 8, 2) := by decide +kernel
theorem dX9_taste_74 : decode cX9_taste 74 = .ok (.istore 4, 2) := by decide +kernel
theorem dX9_taste_76 : decode cX9_taste 76 = .ok (.bipush 100, 2) := by decide +kernel
theorem dX9_taste_78 : decode cX9_taste 78 = .ok (.iload 5, 2) := by decide +kernel
theorem dX9_taste_80 : decode cX9_taste 80 = .ok (.imul, 1) := by decide +kernel
theorem dX9_taste_81 : decode cX9_taste 81 = .ok (.iload 6, 2) := by decide +kernel
theorem dX9_taste_83 : decode cX9_taste 83 = .ok (.iadd, 1) := by decide +kernel
theorem dX9_taste_84 : decode cX9_taste 84 = .ok (.istore_n 3, 1) := by decide +kernel
theorem dX9_taste_85 : decode cX9_taste 85 = .ok (.iinc 6 1, 3) := by decide +kernel
theorem dX9_taste_88 : decode cX9_taste 88 = .ok (.goto (-56), 3) := by decide +kernel
theorem dX9_taste_91 : decode cX9_taste 91 = .ok (.iinc 5 1, 3) := by decide +kernel
theorem dX9_taste_94 : decode cX9_taste 94 = .ok (.goto (-72), 3) := by decide +kernel
theorem dX9_taste_97 : decode cX9_taste 97 = .ok (.iload_n 3, 1) := by decide +kernel
theorem dX9_taste_98 : decode cX9_taste 98 = .ok (.ireturn, 1) := by decide +kernel
def fX9_taste_b32 (n : Nat) (K22 : Nat → Int32 → Int32 → Int32 → Int32 → Int32 → qH → Option (Int32 × qH)) : Nat → Nat → Int32 → Int32 → Int32 → Int32 → Int32 → Int32 → qH → Option (Int32 × qH)
  | 0, _, _, _, _, _, _, _, _ => none
  | w + 1, v0, v1, v2, v3, v4, v5, v6, h =>
    if 40 < v6 then
    (K22 v0 v1 v2 v3 v4 (v5 + 1) h)
    else
    ((fX9_noSourerBits n v0 v5 v6 h).bind fun p2 =>
    (fJ6_bitCount_0f7a4 (v1 &&& p2.1) p2.2).bind fun p3 =>
    if v4 ≤ (if p3.1 < (v2 - p3.1) then (v2 - p3.1) else p3.1) then
    (fX9_taste_b32 n K22 w v0 v1 v2 v3 v4 v5 (v6 + 1) p3.2)
    else
    (fX9_taste_b32 n K22 w v0 v1 v2 ((100 * v5) + v6) (if p3.1 < (v2 - p3.1) then (v2 - p3.1) else p3.1) v5 (v6 + 1) p3.2))
set_option maxHeartbeats 4000000 in
set_option maxRecDepth 100000 in
theorem okX9_taste_b32 {l : Launch} {n : Nat} {K22 : Nat → Int32 → Int32 → Int32 → Int32 → Int32 → qH → Option (Int32 × qH)} {r : Int32} {h' : qH} (hK22 : ∀ (v0 : Nat) (v1 : Int32) (v2 : Int32) (v3 : Int32) (v4 : Int32) (v5 : Int32) (h : qH), K22 v0 v1 v2 v3 v4 v5 h = some (r, h') → q_W l 5 yX9_taste cX9_taste 9 (some .int) (some (.int r)) h' 22 [(0, .ref v0), (1, .int v1), (2, .int v2), (3, .int v3), (4, .int v4), (5, .int v5)] [] h) : ∀ (w : Nat) (v0 : Nat) (v1 : Int32) (v2 : Int32) (v3 : Int32) (v4 : Int32) (v5 : Int32) (v6 : Int32) (h : qH), fX9_taste_b32 n K22 w v0 v1 v2 v3 v4 v5 v6 h = some (r, h') → q_W l 5 yX9_taste cX9_taste 9 (some .int) (some (.int r)) h' 32 [(0, .ref v0), (1, .int v1), (2, .int v2), (3, .int v3), (4, .int v4), (5, .int v5), (6, .int v6)] [] h := by
  intro w
  induction w with
  | zero => intro v0 v1 v2 v3 v4 v5 v6 h hyp; cases hyp
  | succ w ih =>
    intro v0 v1 v2 v3 v4 v5 v6 h hyp
    unfold fX9_taste_b32 at hyp
    refine q_iload 6 rfl dX9_taste_32 ?_
    refine q_bipush (x := 40) (by decide) dX9_taste_34 ?_
    refine q_icmp_gt (tgt := 91) dX9_taste_36 (by decide) (fun c1 => ?_) (fun c1 => ?_)
    · have hyp := q_pos c1 hyp
      refine q_iinc (ls' := [(5, .int (v5 + 1)), (0, .ref v0), (1, .int v1), (2, .int v2), (3, .int v3), (4, .int v4), (6, .int v6)]) 5 rfl rfl (by decide) rfl dX9_taste_91 ?_
      refine q_goto (tgt := 22) dX9_taste_94 (by decide) ?_
      exact q_sub [1, 2, 3, 4, 5, 0] rfl (hK22 v0 v1 v2 v3 v4 (v5 + 1) h hyp)
    · have hyp := q_neg c1 hyp
      refine q_iload_n 1 rfl dX9_taste_39 ?_
      refine q_aload_n 0 rfl dX9_taste_40 ?_
      refine q_iload 5 rfl dX9_taste_41 ?_
      refine q_iload 6 rfl dX9_taste_43 ?_
      refine q_bind hyp (fun p2 e6 hyp => ?_)
      refine q_callV (as := [.int v5, .int v6]) (st := [.int v1]) kY_X9_noSourerBits kL_X9_288 (okX9_noSourerBits (l := l) e6) (by decide) rfl (obX9_noSourerBits e6) (Nat.le_of_ble_eq_true rfl) dX9_taste_45 ?_
      refine q_to (ls' := [(0, .ref v0), (1, .int v1), (2, .int v2), (3, .int v3), (4, .int v4), (5, .int v5), (6, .int v6)]) (st' := [.int p2.1, .int v1]) rfl rfl ?_
      refine q_iand dX9_taste_48 ?_
      refine q_bind hyp (fun p3 e5 hyp => ?_)
      refine q_callS (as := [.int (v1 &&& p2.1)]) (st := []) kY_J6_bitCount_0f7a4 kS_J6_bitCount_0f7a4 kL_X9_170 (okJ6_bitCount_0f7a4 (l := l) e5) (by decide) rfl (Nat.le_of_ble_eq_true rfl) dX9_taste_49 ?_
      refine q_to (ls' := [(0, .ref v0), (1, .int v1), (2, .int v2), (3, .int v3), (4, .int v4), (5, .int v5), (6, .int v6)]) (st' := [.int p3.1]) rfl rfl ?_
      refine q_istore (ls' := [(7, .int p3.1), (0, .ref v0), (1, .int v1), (2, .int v2), (3, .int v3), (4, .int v4), (5, .int v5), (6, .int v6)]) (by decide) rfl dX9_taste_52 ?_
      refine q_iload 0 rfl dX9_taste_54 ?_
      refine q_iload_n 3 rfl dX9_taste_56 ?_
      refine q_iload 0 rfl dX9_taste_57 ?_
      refine q_isub dX9_taste_59 ?_
      refine q_max kL_X9_244 kS_max kZ_math kD_max (by decide) (Nat.le_of_ble_eq_true rfl) dX9_taste_60 ?_
      refine q_istore (ls' := [(8, .int (if p3.1 < (v2 - p3.1) then (v2 - p3.1) else p3.1)), (7, .int p3.1), (0, .ref v0), (1, .int v1), (2, .int v2), (3, .int v3), (4, .int v4), (5, .int v5), (6, .int v6)]) (by decide) rfl dX9_taste_63 ?_
      refine q_iload 0 rfl dX9_taste_65 ?_
      refine q_iload 6 rfl dX9_taste_67 ?_
      refine q_icmp_ge (tgt := 85) dX9_taste_69 (by decide) (fun c4 => ?_) (fun c4 => ?_)
      · have hyp := q_pos c4 hyp
        refine q_iinc (ls' := [(6, .int (v6 + 1)), (8, .int (if p3.1 < (v2 - p3.1) then (v2 - p3.1) else p3.1)), (7, .int p3.1), (0, .ref v0), (1, .int v1), (2, .int v2), (3, .int v3), (4, .int v4), (5, .int v5)]) 8 rfl rfl (by decide) rfl dX9_taste_85 ?_
        refine q_goto (tgt := 32) dX9_taste_88 (by decide) ?_
        exact q_sub [3, 4, 5, 6, 7, 8, 0] rfl (ih v0 v1 v2 v3 v4 v5 (v6 + 1) p3.2 hyp)
      · have hyp := q_neg c4 hyp
        refine q_iload 0 rfl dX9_taste_72 ?_
        refine q_istore (ls' := [(4, .int (if p3.1 < (v2 - p3.1) then (v2 - p3.1) else p3.1)), (8, .int (if p3.1 < (v2 - p3.1) then (v2 - p3.1) else p3.1)), (7, .int p3.1), (0, .ref v0), (1, .int v1), (2, .int v2), (3, .int v3), (5, .int v5), (6, .int v6)]) (by decide) rfl dX9_taste_74 ?_
        refine q_bipush (x := 100) (by decide) dX9_taste_76 ?_
        refine q_iload 7 rfl dX9_taste_78 ?_
        refine q_imul dX9_taste_80 ?_
        refine q_iload 8 rfl dX9_taste_81 ?_
        refine q_iadd dX9_taste_83 ?_
        refine q_istore_n (ls' := [(3, .int ((100 * v5) + v6)), (4, .int (if p3.1 < (v2 - p3.1) then (v2 - p3.1) else p3.1)), (8, .int (if p3.1 < (v2 - p3.1) then (v2 - p3.1) else p3.1)), (7, .int p3.1), (0, .ref v0), (1, .int v1), (2, .int v2), (5, .int v5), (6, .int v6)]) (by decide) rfl dX9_taste_84 ?_
        refine q_iinc (ls' := [(6, .int (v6 + 1)), (3, .int ((100 * v5) + v6)), (4, .int (if p3.1 < (v2 - p3.1) then (v2 - p3.1) else p3.1)), (8, .int (if p3.1 < (v2 - p3.1) then (v2 - p3.1) else p3.1)), (7, .int p3.1), (0, .ref v0), (1, .int v1), (2, .int v2), (5, .int v5)]) 8 rfl rfl (by decide) rfl dX9_taste_85 ?_
        refine q_goto (tgt := 32) dX9_taste_88 (by decide) ?_
        exact q_sub [5, 6, 7, 1, 2, 8, 0] rfl (ih v0 v1 v2 ((100 * v5) + v6) (if p3.1 < (v2 - p3.1) then (v2 - p3.1) else p3.1) v5 (v6 + 1) p3.2 hyp)
def fX9_taste_b22 (n : Nat) : Nat → Nat → Int32 → Int32 → Int32 → Int32 → Int32 → qH → Option (Int32 × qH)
  | 0, _, _, _, _, _, _, _ => none
  | w + 1, v0, v1, v2, v3, v4, v5, h =>
    if 9 < v5 then
    (some (v3, h))
    else
    (fX9_taste_b32 n (fX9_taste_b22 n w) n v0 v1 v2 v3 v4 v5 0 h)
set_option maxHeartbeats 4000000 in
set_option maxRecDepth 100000 in
theorem okX9_taste_b22 {l : Launch} {n : Nat} {r : Int32} {h' : qH} : ∀ (w : Nat) (v0 : Nat) (v1 : Int32) (v2 : Int32) (v3 : Int32) (v4 : Int32) (v5 : Int32) (h : qH), fX9_taste_b22 n w v0 v1 v2 v3 v4 v5 h = some (r, h') → q_W l 5 yX9_taste cX9_taste 9 (some .int) (some (.int r)) h' 22 [(0, .ref v0), (1, .int v1), (2, .int v2), (3, .int v3), (4, .int v4), (5, .int v5)] [] h := by
  intro w
  induction w with
  | zero => intro v0 v1 v2 v3 v4 v5 h hyp; cases hyp
  | succ w ih =>
    intro v0 v1 v2 v3 v4 v5 h hyp
    unfold fX9_taste_b22 at hyp
    refine q_iload 5 rfl dX9_taste_22 ?_
    refine q_bipush (x := 9) (by decide) dX9_taste_24 ?_
    refine q_icmp_gt (tgt := 97) dX9_taste_26 (by decide) (fun c1 => ?_) (fun c1 => ?_)
    · have hyp := q_pos c1 hyp
      refine q_iload_n 3 rfl dX9_taste_97 ?_
      exact q_iretH rfl rfl dX9_taste_98 hyp
    · have hyp := q_neg c1 hyp
      refine q_iconst (x := 0) rfl dX9_taste_29 ?_
      refine q_istore (ls' := [(6, .int 0), (0, .ref v0), (1, .int v1), (2, .int v2), (3, .int v3), (4, .int v4), (5, .int v5)]) (by decide) rfl dX9_taste_30 ?_
      exact q_sub [1, 2, 3, 4, 5, 6, 0] rfl (okX9_taste_b32 ih _ v0 v1 v2 v3 v4 v5 0 h hyp)
def fX9_taste (n : Nat) (v0 : Nat) (h : qH) : Option (Int32 × qH) :=
  (isO h v0 9).bind fun _ =>
  (fX9_reckonTastes n v0 h).bind fun h1 =>
  (fX9_suspects n v0 h1).bind fun p2 =>
  (fJ6_bitCount_0f7a4 p2.1 p2.2).bind fun p3 =>
  fX9_taste_b22 n n v0 p2.1 p3.1 ((-1)) p3.1 0 p3.2
theorem obX9_taste {n : Nat} {v0 : Nat} {h : qH} {p : Int32 × qH} (hyp : fX9_taste n v0 h = some p) : ∃ fs, h.1 v0 = some (.inr (9, fs)) := by
  unfold fX9_taste at hyp
  exact q_bind hyp (fun _ e _ => isO_some e)
set_option maxHeartbeats 4000000 in
set_option maxRecDepth 100000 in
theorem okX9_taste {l : Launch} {n : Nat} {v0 : Nat} {h : qH} {p : Int32 × qH} (hyp : fX9_taste n v0 h = some p) : q_M l 5 yX9_taste cX9_taste 9 (some .int) [.ref v0] h (some (.int p.1)) p.2 := by
  obtain ⟨r, h'⟩ := p
  unfold fX9_taste at hyp
  refine q_bind hyp (fun _ _ hyp => ?_)
  refine q_M.of (by decide) (Nat.le_of_ble_eq_true rfl) ?_
  refine q_to (ls' := [(0, .ref v0)]) (st' := []) rfl rfl ?_
  refine q_aload_n 0 rfl dX9_taste_0 ?_
  refine q_bind hyp (fun h1 e6 hyp => ?_)
  refine q_callV (as := []) (st := []) kY_X9_reckonTastes kL_X9_280 (okX9_reckonTastes (l := l) e6) (by decide) rfl (obX9_reckonTastes e6) (Nat.le_of_ble_eq_true rfl) dX9_taste_1 ?_
  refine q_to (ls' := [(0, .ref v0)]) (st' := []) rfl rfl ?_
  refine q_aload_n 0 rfl dX9_taste_4 ?_
  refine q_bind hyp (fun p2 e5 hyp => ?_)
  refine q_callV (as := []) (st := []) kY_X9_suspects kL_X9_283 (okX9_suspects (l := l) e5) (by decide) rfl (obX9_suspects e5) (Nat.le_of_ble_eq_true rfl) dX9_taste_5 ?_
  refine q_to (ls' := [(0, .ref v0)]) (st' := [.int p2.1]) rfl rfl ?_
  refine q_istore_n (ls' := [(1, .int p2.1), (0, .ref v0)]) (by decide) rfl dX9_taste_8 ?_
  refine q_iload_n 0 rfl dX9_taste_9 ?_
  refine q_bind hyp (fun p3 e4 hyp => ?_)
  refine q_callS (as := [.int p2.1]) (st := []) kY_J6_bitCount_0f7a4 kS_J6_bitCount_0f7a4 kL_X9_170 (okJ6_bitCount_0f7a4 (l := l) e4) (by decide) rfl (Nat.le_of_ble_eq_true rfl) dX9_taste_10 ?_
  refine q_to (ls' := [(1, .int p2.1), (0, .ref v0)]) (st' := [.int p3.1]) rfl rfl ?_
  refine q_istore_n (ls' := [(2, .int p3.1), (1, .int p2.1), (0, .ref v0)]) (by decide) rfl dX9_taste_13 ?_
  refine q_iconst (x := (-1)) rfl dX9_taste_14 ?_
  refine q_istore_n (ls' := [(3, .int ((-1))), (2, .int p3.1), (1, .int p2.1), (0, .ref v0)]) (by decide) rfl dX9_taste_15 ?_
  refine q_iload_n 1 rfl dX9_taste_16 ?_
  refine q_istore (ls' := [(4, .int p3.1), (3, .int ((-1))), (2, .int p3.1), (1, .int p2.1), (0, .ref v0)]) (by decide) rfl dX9_taste_17 ?_
  refine q_iconst (x := 0) rfl dX9_taste_19 ?_
  refine q_istore (ls' := [(5, .int 0), (4, .int p3.1), (3, .int ((-1))), (2, .int p3.1), (1, .int p2.1), (0, .ref v0)]) (by decide) rfl dX9_taste_20 ?_
  exact q_sub [5, 4, 3, 2, 1, 0] rfl (okX9_taste_b22 _ v0 p2.1 p3.1 ((-1)) p3.1 0 p3.2 hyp)
theorem dX9_undo_0 : decode cX9_undo 0 = .ok (.aload_n 0, 1) := by decide +kernel
theorem dX9_undo_1 : decode cX9_undo 1 = .ok (.getfield 48, 3) := by decide +kernel
theorem dX9_undo_4 : decode cX9_undo 4 = .ok (.aload_n 0, 1) := by decide +kernel
theorem dX9_undo_5 : decode cX9_undo 5 = .ok (.getfield 38, 3) := by decide +kernel
theorem dX9_undo_8 : decode cX9_undo 8 = .ok (.invokevirtual 176, 3) := by decide +kernel
theorem dX9_undo_11 : decode cX9_undo 11 = .ok (.ireturn, 1) := by decide +kernel
def fX9_undo (n : Nat) (v0 : Nat) (h : qH) : Option (Int32 × qH) :=
  (isO h v0 9).bind fun _ =>
  (gR h v0 9 6).bind fun x1 =>
  (gR h v0 9 4).bind fun x3 =>
  (fX0_giveBack n x1 x3 h).bind fun p5 =>
  (qB p5.1).bind fun _ =>
  some (p5.1, p5.2)
theorem obX9_undo {n : Nat} {v0 : Nat} {h : qH} {p : Int32 × qH} (hyp : fX9_undo n v0 h = some p) : ∃ fs, h.1 v0 = some (.inr (9, fs)) := by
  unfold fX9_undo at hyp
  exact q_bind hyp (fun _ e _ => isO_some e)
set_option maxHeartbeats 4000000 in
set_option maxRecDepth 100000 in
theorem okX9_undo {l : Launch} {n : Nat} {v0 : Nat} {h : qH} {p : Int32 × qH} (hyp : fX9_undo n v0 h = some p) : q_M l 3 yX9_undo cX9_undo 1 (some .boolean) [.ref v0] h (some (.int p.1)) p.2 := by
  obtain ⟨r, h'⟩ := p
  unfold fX9_undo at hyp
  refine q_bind hyp (fun _ _ hyp => ?_)
  refine q_M.of (by decide) (Nat.le_of_ble_eq_true rfl) ?_
  refine q_to (ls' := [(0, .ref v0)]) (st' := []) rfl rfl ?_
  refine q_aload_n 0 rfl dX9_undo_0 ?_
  refine q_bind hyp (fun x1 e2 hyp => ?_)
  refine q_getR kF_X9_48 dX9_undo_1 e2 ?_
  refine q_aload_n 0 rfl dX9_undo_4 ?_
  refine q_bind hyp (fun x3 e4 hyp => ?_)
  refine q_getR kF_X9_38 dX9_undo_5 e4 ?_
  refine q_bind hyp (fun p5 e7 hyp => ?_)
  refine q_callV (as := [.ref x3]) (st := []) kY_X0_giveBack kL_X9_176 (okX0_giveBack (l := l) e7) (by decide) rfl (obX0_giveBack e7) (Nat.le_of_ble_eq_true rfl) dX9_undo_8 ?_
  refine q_to (ls' := [(0, .ref v0)]) (st' := [.int p5.1]) rfl rfl ?_
  refine q_bind hyp (fun _ e6 hyp => ?_)
  exact q_iretH rfl (qB_some e6) dX9_undo_11 hyp
theorem dX9_wants_0 : decode cX9_wants 0 = .ok (.aload_n 0, 1) := by decide +kernel
theorem dX9_wants_1 : decode cX9_wants 1 = .ok (.iload_n 1, 1) := by decide +kernel
theorem dX9_wants_2 : decode cX9_wants 2 = .ok (.invokevirtual 122, 3) := by decide +kernel
theorem dX9_wants_5 : decode cX9_wants 5 = .ok (.ifCond .eq 11, 3) := by decide +kernel
theorem dX9_wants_8 : decode cX9_wants 8 = .ok (.aload_n 0, 1) := by decide +kernel
theorem dX9_wants_9 : decode cX9_wants 9 = .ok (.iload_n 1, 1) := by decide +kernel
theorem dX9_wants_10 : decode cX9_wants 10 = .ok (.invokevirtual 204, 3) := by decide +kernel
theorem dX9_wants_13 : decode cX9_wants 13 = .ok (.goto 4, 3) := by decide +kernel
theorem dX9_wants_16 : decode cX9_wants 16 = .ok (.iconst (-1), 1) := by decide +kernel
theorem dX9_wants_17 : decode cX9_wants 17 = .ok (.ireturn, 1) := by decide +kernel
def fX9_wants (n : Nat) (v0 : Nat) (v1 : Int32) (h : qH) : Option (Int32 × qH) :=
  (isO h v0 9).bind fun _ =>
  (fX9_isMatter v0 v1 h).bind fun p1 =>
  if p1.1 = 0 then
  (some ((-1), p1.2))
  else
  ((fX9_coatsWanted n v0 v1 p1.2).bind fun p3 =>
  some (p3.1, p3.2))
theorem obX9_wants {n : Nat} {v0 : Nat} {v1 : Int32} {h : qH} {p : Int32 × qH} (hyp : fX9_wants n v0 v1 h = some p) : ∃ fs, h.1 v0 = some (.inr (9, fs)) := by
  unfold fX9_wants at hyp
  exact q_bind hyp (fun _ e _ => isO_some e)
set_option maxHeartbeats 4000000 in
set_option maxRecDepth 100000 in
theorem okX9_wants {l : Launch} {n : Nat} {v0 : Nat} {v1 : Int32} {h : qH} {p : Int32 × qH} (hyp : fX9_wants n v0 v1 h = some p) : q_M l 5 yX9_wants cX9_wants 2 (some .int) [.ref v0, .int v1] h (some (.int p.1)) p.2 := by
  obtain ⟨r, h'⟩ := p
  unfold fX9_wants at hyp
  refine q_bind hyp (fun _ _ hyp => ?_)
  refine q_M.of (by decide) (Nat.le_of_ble_eq_true rfl) ?_
  refine q_to (ls' := [(0, .ref v0), (1, .int v1)]) (st' := []) rfl rfl ?_
  refine q_aload_n 0 rfl dX9_wants_0 ?_
  refine q_iload_n 1 rfl dX9_wants_1 ?_
  refine q_bind hyp (fun p1 e5 hyp => ?_)
  refine q_callV (as := [.int v1]) (st := []) kY_X9_isMatter kL_X9_122 (okX9_isMatter (l := l) e5) (by decide) rfl (obX9_isMatter e5) (Nat.le_of_ble_eq_true rfl) dX9_wants_2 ?_
  refine q_to (ls' := [(0, .ref v0), (1, .int v1)]) (st' := [.int p1.1]) rfl rfl ?_
  refine q_if_eq (tgt := 16) dX9_wants_5 (by decide) (fun c2 => ?_) (fun c2 => ?_)
  · have hyp := q_pos c2 hyp
    refine q_iconst (x := (-1)) rfl dX9_wants_16 ?_
    exact q_iretH rfl rfl dX9_wants_17 hyp
  · have hyp := q_neg c2 hyp
    refine q_aload_n 0 rfl dX9_wants_8 ?_
    refine q_iload_n 1 rfl dX9_wants_9 ?_
    refine q_bind hyp (fun p3 e4 hyp => ?_)
    refine q_callV (as := [.int v1]) (st := []) kY_X9_coatsWanted kL_X9_204 (okX9_coatsWanted (l := l) e4) (by decide) rfl (obX9_coatsWanted e4) (Nat.le_of_ble_eq_true rfl) dX9_wants_10 ?_
    refine q_to (ls' := [(0, .ref v0), (1, .int v1)]) (st' := [.int p3.1]) rfl rfl ?_
    refine q_goto (tgt := 17) dX9_wants_13 (by decide) ?_
    exact q_iretH rfl rfl dX9_wants_17 hyp
theorem dX9_ways_0 : decode cX9_ways 0 = .ok (.aload_n 0, 1) := by decide +kernel
theorem dX9_ways_1 : decode cX9_ways 1 = .ok (.iload_n 1, 1) := by decide +kernel
theorem dX9_ways_2 : decode cX9_ways 2 = .ok (.invokevirtual 122, 3) := by decide +kernel
theorem dX9_ways_5 : decode cX9_ways 5 = .ok (.ifCond .eq 24, 3) := by decide +kernel
theorem dX9_ways_8 : decode cX9_ways 8 = .ok (.aload_n 0, 1) := by decide +kernel
theorem dX9_ways_9 : decode cX9_ways 9 = .ok (.iload_n 2, 1) := by decide +kernel
theorem dX9_ways_10 : decode cX9_ways 10 = .ok (.invokevirtual 122, 3) := by decide +kernel
theorem dX9_ways_13 : decode cX9_ways 13 = .ok (.ifCond .eq 16, 3) := by decide +kernel
theorem dX9_ways_16 : decode cX9_ways 16 = .ok (.aload_n 0, 1) := by decide +kernel
theorem dX9_ways_17 : decode cX9_ways 17 = .ok (.getfield 28, 3) := by decide +kernel
theorem dX9_ways_20 : decode cX9_ways 20 = .ok (.iload_n 1, 1) := by decide +kernel
theorem dX9_ways_21 : decode cX9_ways 21 = .ok (.iload_n 2, 1) := by decide +kernel
theorem dX9_ways_22 : decode cX9_ways 22 = .ok (.iconst 0, 1) := by decide +kernel
theorem dX9_ways_23 : decode cX9_ways 23 = .ok (.invokevirtual 261, 3) := by decide +kernel
theorem dX9_ways_26 : decode cX9_ways 26 = .ok (.goto 4, 3) := by decide +kernel
theorem dX9_ways_29 : decode cX9_ways 29 = .ok (.iconst (-1), 1) := by decide +kernel
theorem dX9_ways_30 : decode cX9_ways 30 = .ok (.ireturn, 1) := by decide +kernel
def fX9_ways (n : Nat) (v0 : Nat) (v1 : Int32) (v2 : Int32) (h : qH) : Option (Int32 × qH) :=
  (isO h v0 9).bind fun _ =>
  (fX9_isMatter v0 v1 h).bind fun p1 =>
  if p1.1 = 0 then
  (some ((-1), p1.2))
  else
  ((fX9_isMatter v0 v2 p1.2).bind fun p3 =>
  if p3.1 = 0 then
  (some ((-1), p3.2))
  else
  ((gR p3.2 v0 9 2).bind fun x5 =>
  (fX5_waysTo n x5 v1 v2 0 p3.2).bind fun p7 =>
  some (p7.1, p7.2)))
theorem obX9_ways {n : Nat} {v0 : Nat} {v1 : Int32} {v2 : Int32} {h : qH} {p : Int32 × qH} (hyp : fX9_ways n v0 v1 v2 h = some p) : ∃ fs, h.1 v0 = some (.inr (9, fs)) := by
  unfold fX9_ways at hyp
  exact q_bind hyp (fun _ e _ => isO_some e)
set_option maxHeartbeats 4000000 in
set_option maxRecDepth 100000 in
theorem okX9_ways {l : Launch} {n : Nat} {v0 : Nat} {v1 : Int32} {v2 : Int32} {h : qH} {p : Int32 × qH} (hyp : fX9_ways n v0 v1 v2 h = some p) : q_M l 13 yX9_ways cX9_ways 3 (some .int) [.ref v0, .int v1, .int v2] h (some (.int p.1)) p.2 := by
  obtain ⟨r, h'⟩ := p
  unfold fX9_ways at hyp
  refine q_bind hyp (fun _ _ hyp => ?_)
  refine q_M.of (by decide) (Nat.le_of_ble_eq_true rfl) ?_
  refine q_to (ls' := [(0, .ref v0), (1, .int v1), (2, .int v2)]) (st' := []) rfl rfl ?_
  refine q_aload_n 0 rfl dX9_ways_0 ?_
  refine q_iload_n 1 rfl dX9_ways_1 ?_
  refine q_bind hyp (fun p1 e10 hyp => ?_)
  refine q_callV (as := [.int v1]) (st := []) kY_X9_isMatter kL_X9_122 (okX9_isMatter (l := l) e10) (by decide) rfl (obX9_isMatter e10) (Nat.le_of_ble_eq_true rfl) dX9_ways_2 ?_
  refine q_to (ls' := [(0, .ref v0), (1, .int v1), (2, .int v2)]) (st' := [.int p1.1]) rfl rfl ?_
  refine q_if_eq (tgt := 29) dX9_ways_5 (by decide) (fun c2 => ?_) (fun c2 => ?_)
  · have hyp := q_pos c2 hyp
    refine q_iconst (x := (-1)) rfl dX9_ways_29 ?_
    exact q_iretH rfl rfl dX9_ways_30 hyp
  · have hyp := q_neg c2 hyp
    refine q_aload_n 0 rfl dX9_ways_8 ?_
    refine q_iload_n 2 rfl dX9_ways_9 ?_
    refine q_bind hyp (fun p3 e9 hyp => ?_)
    refine q_callV (as := [.int v2]) (st := []) kY_X9_isMatter kL_X9_122 (okX9_isMatter (l := l) e9) (by decide) rfl (obX9_isMatter e9) (Nat.le_of_ble_eq_true rfl) dX9_ways_10 ?_
    refine q_to (ls' := [(0, .ref v0), (1, .int v1), (2, .int v2)]) (st' := [.int p3.1]) rfl rfl ?_
    refine q_if_eq (tgt := 29) dX9_ways_13 (by decide) (fun c4 => ?_) (fun c4 => ?_)
    · have hyp := q_pos c4 hyp
      refine q_iconst (x := (-1)) rfl dX9_ways_29 ?_
      exact q_iretH rfl rfl dX9_ways_30 hyp
    · have hyp := q_neg c4 hyp
      refine q_aload_n 0 rfl dX9_ways_16 ?_
      refine q_bind hyp (fun x5 e6 hyp => ?_)
      refine q_getR kF_X9_28 dX9_ways_17 e6 ?_
      refine q_iload_n 1 rfl dX9_ways_20 ?_
      refine q_iload_n 2 rfl dX9_ways_21 ?_
      refine q_iconst (x := 0) rfl dX9_ways_22 ?_
      refine q_bind hyp (fun p7 e8 hyp => ?_)
      refine q_callV (as := [.int v1, .int v2, .int 0]) (st := []) kY_X5_waysTo kL_X9_261 (okX5_waysTo (l := l) e8) (by decide) rfl (obX5_waysTo e8) (Nat.le_of_ble_eq_true rfl) dX9_ways_23 ?_
      refine q_to (ls' := [(0, .ref v0), (1, .int v1), (2, .int v2)]) (st' := [.int p7.1]) rfl rfl ?_
      refine q_goto (tgt := 30) dX9_ways_26 (by decide) ?_
      exact q_iretH rfl rfl dX9_ways_30 hyp
theorem dX9_who_0 : decode cX9_who 0 = .ok (.aload_n 0, 1) := by decide +kernel
theorem dX9_who_1 : decode cX9_who 1 = .ok (.invokevirtual 280, 3) := by decide +kernel
theorem dX9_who_4 : decode cX9_who 4 = .ok (.aload_n 0, 1) := by decide +kernel
theorem dX9_who_5 : decode cX9_who 5 = .ok (.invokevirtual 283, 3) := by decide +kernel
theorem dX9_who_8 : decode cX9_who 8 = .ok (.ireturn, 1) := by decide +kernel
def fX9_who (n : Nat) (v0 : Nat) (h : qH) : Option (Int32 × qH) :=
  (isO h v0 9).bind fun _ =>
  (fX9_reckonTastes n v0 h).bind fun h1 =>
  (fX9_suspects n v0 h1).bind fun p2 =>
  some (p2.1, p2.2)
theorem obX9_who {n : Nat} {v0 : Nat} {h : qH} {p : Int32 × qH} (hyp : fX9_who n v0 h = some p) : ∃ fs, h.1 v0 = some (.inr (9, fs)) := by
  unfold fX9_who at hyp
  exact q_bind hyp (fun _ e _ => isO_some e)
set_option maxHeartbeats 4000000 in
set_option maxRecDepth 100000 in
theorem okX9_who {l : Launch} {n : Nat} {v0 : Nat} {h : qH} {p : Int32 × qH} (hyp : fX9_who n v0 h = some p) : q_M l 5 yX9_who cX9_who 1 (some .int) [.ref v0] h (some (.int p.1)) p.2 := by
  obtain ⟨r, h'⟩ := p
  unfold fX9_who at hyp
  refine q_bind hyp (fun _ _ hyp => ?_)
  refine q_M.of (by decide) (Nat.le_of_ble_eq_true rfl) ?_
  refine q_to (ls' := [(0, .ref v0)]) (st' := []) rfl rfl ?_
  refine q_aload_n 0 rfl dX9_who_0 ?_
  refine q_bind hyp (fun h1 e4 hyp => ?_)
  refine q_callV (as := []) (st := []) kY_X9_reckonTastes kL_X9_280 (okX9_reckonTastes (l := l) e4) (by decide) rfl (obX9_reckonTastes e4) (Nat.le_of_ble_eq_true rfl) dX9_who_1 ?_
  refine q_to (ls' := [(0, .ref v0)]) (st' := []) rfl rfl ?_
  refine q_aload_n 0 rfl dX9_who_4 ?_
  refine q_bind hyp (fun p2 e3 hyp => ?_)
  refine q_callV (as := []) (st := []) kY_X9_suspects kL_X9_283 (okX9_suspects (l := l) e3) (by decide) rfl (obX9_suspects e3) (Nat.le_of_ble_eq_true rfl) dX9_who_5 ?_
  refine q_to (ls' := [(0, .ref v0)]) (st' := [.int p2.1]) rfl rfl ?_
  exact q_iretH rfl rfl dX9_who_8 hyp
theorem dX9_year_0 : decode cX9_year 0 = .ok (.aload_n 0, 1) := by decide +kernel
theorem dX9_year_1 : decode cX9_year 1 = .ok (.getfield 48, 3) := by decide +kernel
theorem dX9_year_4 : decode cX9_year 4 = .ok (.aload_n 0, 1) := by decide +kernel
theorem dX9_year_5 : decode cX9_year 5 = .ok (.getfield 38, 3) := by decide +kernel
theorem dX9_year_8 : decode cX9_year 8 = .ok (.invokevirtual 156, 3) := by decide +kernel
theorem dX9_year_11 : decode cX9_year 11 = .ok (.aload_n 0, 1) := by decide +kernel
theorem dX9_year_12 : decode cX9_year 12 = .ok (.getfield 38, 3) := by decide +kernel
theorem dX9_year_15 : decode cX9_year 15 = .ok (.aload_n 0, 1) := by decide +kernel
theorem dX9_year_16 : decode cX9_year 16 = .ok (.getfield 28, 3) := by decide +kernel
theorem dX9_year_19 : decode cX9_year 19 = .ok (.invokevirtual 167, 3) := by decide +kernel
theorem dX9_year_22 : decode cX9_year 22 = .ok (.aload_n 0, 1) := by decide +kernel
theorem dX9_year_23 : decode cX9_year 23 = .ok (.invokevirtual 138, 3) := by decide +kernel
theorem dX9_year_26 : decode cX9_year 26 = .ok (.invokestatic 170, 3) := by decide +kernel
theorem dX9_year_29 : decode cX9_year 29 = .ok (.ireturn, 1) := by decide +kernel
def fX9_year (n : Nat) (v0 : Nat) (h : qH) : Option (Int32 × qH) :=
  (isO h v0 9).bind fun _ =>
  (gR h v0 9 6).bind fun x1 =>
  (gR h v0 9 4).bind fun x3 =>
  (fX0_keep n x1 x3 h).bind fun h5 =>
  (gR h5 v0 9 4).bind fun x6 =>
  (gR h5 v0 9 2).bind fun x8 =>
  (fX8_pass n x6 x8 h5).bind fun h10 =>
  (fX9_meant n v0 h10).bind fun p11 =>
  (fJ6_bitCount_0f7a4 p11.1 p11.2).bind fun p12 =>
  some (p12.1, p12.2)
theorem obX9_year {n : Nat} {v0 : Nat} {h : qH} {p : Int32 × qH} (hyp : fX9_year n v0 h = some p) : ∃ fs, h.1 v0 = some (.inr (9, fs)) := by
  unfold fX9_year at hyp
  exact q_bind hyp (fun _ e _ => isO_some e)
set_option maxHeartbeats 4000000 in
set_option maxRecDepth 100000 in
theorem okX9_year {l : Launch} {n : Nat} {v0 : Nat} {h : qH} {p : Int32 × qH} (hyp : fX9_year n v0 h = some p) : q_M l 3 yX9_year cX9_year 1 (some .int) [.ref v0] h (some (.int p.1)) p.2 := by
  obtain ⟨r, h'⟩ := p
  unfold fX9_year at hyp
  refine q_bind hyp (fun _ _ hyp => ?_)
  refine q_M.of (by decide) (Nat.le_of_ble_eq_true rfl) ?_
  refine q_to (ls' := [(0, .ref v0)]) (st' := []) rfl rfl ?_
  refine q_aload_n 0 rfl dX9_year_0 ?_
  refine q_bind hyp (fun x1 e2 hyp => ?_)
  refine q_getR kF_X9_48 dX9_year_1 e2 ?_
  refine q_aload_n 0 rfl dX9_year_4 ?_
  refine q_bind hyp (fun x3 e4 hyp => ?_)
  refine q_getR kF_X9_38 dX9_year_5 e4 ?_
  refine q_bind hyp (fun h5 e16 hyp => ?_)
  refine q_callV (as := [.ref x3]) (st := []) kY_X0_keep kL_X9_156 (okX0_keep (l := l) e16) (by decide) rfl (obX0_keep e16) (Nat.le_of_ble_eq_true rfl) dX9_year_8 ?_
  refine q_to (ls' := [(0, .ref v0)]) (st' := []) rfl rfl ?_
  refine q_aload_n 0 rfl dX9_year_11 ?_
  refine q_bind hyp (fun x6 e7 hyp => ?_)
  refine q_getR kF_X9_38 dX9_year_12 e7 ?_
  refine q_aload_n 0 rfl dX9_year_15 ?_
  refine q_bind hyp (fun x8 e9 hyp => ?_)
  refine q_getR kF_X9_28 dX9_year_16 e9 ?_
  refine q_bind hyp (fun h10 e15 hyp => ?_)
  refine q_callV (as := [.ref x8]) (st := []) kY_X8_pass kL_X9_167 (okX8_pass (l := l) e15) (by decide) rfl (obX8_pass e15) (Nat.le_of_ble_eq_true rfl) dX9_year_19 ?_
  refine q_to (ls' := [(0, .ref v0)]) (st' := []) rfl rfl ?_
  refine q_aload_n 0 rfl dX9_year_22 ?_
  refine q_bind hyp (fun p11 e14 hyp => ?_)
  refine q_callV (as := []) (st := []) kY_X9_meant kL_X9_138 (okX9_meant (l := l) e14) (by decide) rfl (obX9_meant e14) (Nat.le_of_ble_eq_true rfl) dX9_year_23 ?_
  refine q_to (ls' := [(0, .ref v0)]) (st' := [.int p11.1]) rfl rfl ?_
  refine q_bind hyp (fun p12 e13 hyp => ?_)
  refine q_callS (as := [.int p11.1]) (st := []) kY_J6_bitCount_0f7a4 kS_J6_bitCount_0f7a4 kL_X9_170 (okJ6_bitCount_0f7a4 (l := l) e13) (by decide) rfl (Nat.le_of_ble_eq_true rfl) dX9_year_26 ?_
  refine q_to (ls' := [(0, .ref v0)]) (st' := [.int p12.1]) rfl rfl ?_
  exact q_iretH rfl rfl dX9_year_29 hyp
theorem dX9_years_0 : decode cX9_years 0 = .ok (.iload_n 1, 1) := by decide +kernel
theorem dX9_years_1 : decode cX9_years 1 = .ok (.iconst 0, 1) := by decide +kernel
theorem dX9_years_2 : decode cX9_years 2 = .ok (.sipush 9999, 3) := by decide +kernel
theorem dX9_years_5 : decode cX9_years 5 = .ok (.invokestatic 180, 3) := by decide +kernel
theorem dX9_years_8 : decode cX9_years 8 = .ok (.ifCond .eq 22, 3) := by decide +kernel
theorem dX9_years_11 : decode cX9_years 11 = .ok (.iload_n 2, 1) := by decide +kernel
theorem dX9_years_12 : decode cX9_years 12 = .ok (.iconst 1, 1) := by decide +kernel
theorem dX9_years_13 : decode cX9_years 13 = .ok (.bipush 99, 2) := by decide +kernel
theorem dX9_years_15 : decode cX9_years 15 = .ok (.invokestatic 180, 3) := by decide +kernel
theorem dX9_years_18 : decode cX9_years 18 = .ok (.ifCond .eq 12, 3) := by decide +kernel
theorem dX9_years_21 : decode cX9_years 21 = .ok (.iload_n 3, 1) := by decide +kernel
theorem dX9_years_22 : decode cX9_years 22 = .ok (.iconst 0, 1) := by decide +kernel
theorem dX9_years_23 : decode cX9_years 23 = .ok (.iconst 2, 1) := by decide +kernel
theorem dX9_years_24 : decode cX9_years 24 = .ok (.invokestatic 180, 3) := by decide +kernel
theorem dX9_years_27 : decode cX9_years 27 = .ok (.ifCond .ne 5, 3) := by decide +kernel
theorem dX9_years_30 : decode cX9_years 30 = .ok (.iconst (-1), 1) := by decide +kernel
theorem dX9_years_31 : decode cX9_years 31 = .ok (.ireturn, 1) := by decide +kernel
theorem dX9_years_32 : decode cX9_years 32 = .ok (.aload_n 0, 1) := by decide +kernel
theorem dX9_years_33 : decode cX9_years 33 = .ok (.iload_n 1, 1) := by decide +kernel
theorem dX9_years_34 : decode cX9_years 34 = .ok (.iload_n 2, 1) := by decide +kernel
theorem dX9_years_35 : decode cX9_years 35 = .ok (.invokevirtual 313, 3) := by decide +kernel
theorem dX9_years_38 : decode cX9_years 38 = .ok (.istore 4, 2) := by decide +kernel
theorem dX9_years_40 : decode cX9_years 40 = .ok (.iload_n 3, 1) := by decide +kernel
theorem dX9_years_41 : decode cX9_years 41 = .ok (.lookupswitch 42 #[(0, 27), (1, 30)], 27) := by decide +kernel
theorem dX9_years_68 : decode cX9_years 68 = .ok (.iload 4, 2) := by decide +kernel
theorem dX9_years_70 : decode cX9_years 70 = .ok (.ireturn, 1) := by decide +kernel
theorem dX9_years_71 : decode cX9_years 71 = .ok (.aload_n 0, 1) := by decide +kernel
theorem dX9_years_72 : decode cX9_years 72 = .ok (.getfield 42, 3) := by decide +kernel
theorem dX9_years_75 : decode cX9_years 75 = .ok (.aload_n 0, 1) := by decide +kernel
theorem dX9_years_76 : decode cX9_years 76 = .ok (.getfield 28, 3) := by decide +kernel
theorem dX9_years_79 : decode cX9_years 79 = .ok (.invokevirtual 195, 3) := by decide +kernel
theorem dX9_years_82 : decode cX9_years 82 = .ok (.ireturn, 1) := by decide +kernel
theorem dX9_years_83 : decode cX9_years 83 = .ok (.aload_n 0, 1) := by decide +kernel
theorem dX9_years_84 : decode cX9_years 84 = .ok (.getfield 42, 3) := by decide +kernel
theorem dX9_years_87 : decode cX9_years 87 = .ok (.getfield 241, 3) := by decide +kernel
theorem dX9_years_90 : decode cX9_years 90 = .ok (.ireturn, 1) := by decide +kernel
def fX9_years (n : Nat) (v0 : Nat) (v1 : Int32) (v2 : Int32) (v3 : Int32) (h : qH) : Option (Int32 × qH) :=
  (isO h v0 9).bind fun _ =>
  (fX9_within v1 0 9999 h).bind fun p1 =>
  if p1.1 = 0 then
  (some ((-1), p1.2))
  else
  ((fX9_within v2 1 99 p1.2).bind fun p3 =>
  if p3.1 = 0 then
  (some ((-1), p3.2))
  else
  ((fX9_within v3 0 2 p3.2).bind fun p5 =>
  if p5.1 = 0 then
  (some ((-1), p5.2))
  else
  ((fX9_liveYears n v0 v1 v2 p5.2).bind fun p7 =>
  if v3 = 0 then
  (some (p7.1, p7.2))
  else
  (if v3 = 1 then
  ((gR p7.2 v0 9 5).bind fun x10 =>
  (gR p7.2 v0 9 2).bind fun x12 =>
  (fX8_meantBits n x10 x12 p7.2).bind fun p14 =>
  some (p14.1, p14.2))
  else
  ((gR p7.2 v0 9 5).bind fun x16 =>
  (gI p7.2 x16 8 2).bind fun x18 =>
  some (x18, p7.2))))))
theorem obX9_years {n : Nat} {v0 : Nat} {v1 : Int32} {v2 : Int32} {v3 : Int32} {h : qH} {p : Int32 × qH} (hyp : fX9_years n v0 v1 v2 v3 h = some p) : ∃ fs, h.1 v0 = some (.inr (9, fs)) := by
  unfold fX9_years at hyp
  exact q_bind hyp (fun _ e _ => isO_some e)
set_option maxHeartbeats 4000000 in
set_option maxRecDepth 100000 in
theorem okX9_years {l : Launch} {n : Nat} {v0 : Nat} {v1 : Int32} {v2 : Int32} {v3 : Int32} {h : qH} {p : Int32 × qH} (hyp : fX9_years n v0 v1 v2 v3 h = some p) : q_M l 7 yX9_years cX9_years 5 (some .int) [.ref v0, .int v1, .int v2, .int v3] h (some (.int p.1)) p.2 := by
  obtain ⟨r, h'⟩ := p
  unfold fX9_years at hyp
  refine q_bind hyp (fun _ _ hyp => ?_)
  refine q_M.of (by decide) (Nat.le_of_ble_eq_true rfl) ?_
  refine q_to (ls' := [(0, .ref v0), (1, .int v1), (2, .int v2), (3, .int v3)]) (st' := []) rfl rfl ?_
  refine q_iload_n 1 rfl dX9_years_0 ?_
  refine q_iconst (x := 0) rfl dX9_years_1 ?_
  refine q_sipush (x := 9999) (by decide) dX9_years_2 ?_
  refine q_bind hyp (fun p1 e23 hyp => ?_)
  refine q_callS (as := [.int v1, .int 0, .int 9999]) (st := []) kY_X9_within kS_X9_within kL_X9_180 (okX9_within (l := l) e23) (by decide) rfl (Nat.le_of_ble_eq_true rfl) dX9_years_5 ?_
  refine q_to (ls' := [(0, .ref v0), (1, .int v1), (2, .int v2), (3, .int v3)]) (st' := [.int p1.1]) rfl rfl ?_
  refine q_if_eq (tgt := 30) dX9_years_8 (by decide) (fun c2 => ?_) (fun c2 => ?_)
  · have hyp := q_pos c2 hyp
    refine q_iconst (x := (-1)) rfl dX9_years_30 ?_
    exact q_iretH rfl rfl dX9_years_31 hyp
  · have hyp := q_neg c2 hyp
    refine q_iload_n 2 rfl dX9_years_11 ?_
    refine q_iconst (x := 1) rfl dX9_years_12 ?_
    refine q_bipush (x := 99) (by decide) dX9_years_13 ?_
    refine q_bind hyp (fun p3 e22 hyp => ?_)
    refine q_callS (as := [.int v2, .int 1, .int 99]) (st := []) kY_X9_within kS_X9_within kL_X9_180 (okX9_within (l := l) e22) (by decide) rfl (Nat.le_of_ble_eq_true rfl) dX9_years_15 ?_
    refine q_to (ls' := [(0, .ref v0), (1, .int v1), (2, .int v2), (3, .int v3)]) (st' := [.int p3.1]) rfl rfl ?_
    refine q_if_eq (tgt := 30) dX9_years_18 (by decide) (fun c4 => ?_) (fun c4 => ?_)
    · have hyp := q_pos c4 hyp
      refine q_iconst (x := (-1)) rfl dX9_years_30 ?_
      exact q_iretH rfl rfl dX9_years_31 hyp
    · have hyp := q_neg c4 hyp
      refine q_iload_n 3 rfl dX9_years_21 ?_
      refine q_iconst (x := 0) rfl dX9_years_22 ?_
      refine q_iconst (x := 2) rfl dX9_years_23 ?_
      refine q_bind hyp (fun p5 e21 hyp => ?_)
      refine q_callS (as := [.int v3, .int 0, .int 2]) (st := []) kY_X9_within kS_X9_within kL_X9_180 (okX9_within (l := l) e21) (by decide) rfl (Nat.le_of_ble_eq_true rfl) dX9_years_24 ?_
      refine q_to (ls' := [(0, .ref v0), (1, .int v1), (2, .int v2), (3, .int v3)]) (st' := [.int p5.1]) rfl rfl ?_
      refine q_if_ne (tgt := 32) dX9_years_27 (by decide) (fun c6 => ?_) (fun c6 => ?_)
      · have hyp := q_neg c6 hyp
        refine q_aload_n 0 rfl dX9_years_32 ?_
        refine q_iload_n 1 rfl dX9_years_33 ?_
        refine q_iload_n 2 rfl dX9_years_34 ?_
        refine q_bind hyp (fun p7 e20 hyp => ?_)
        refine q_callV (as := [.int v1, .int v2]) (st := []) kY_X9_liveYears kL_X9_313 (okX9_liveYears (l := l) e20) (by decide) rfl (obX9_liveYears e20) (Nat.le_of_ble_eq_true rfl) dX9_years_35 ?_
        refine q_to (ls' := [(0, .ref v0), (1, .int v1), (2, .int v2), (3, .int v3)]) (st' := [.int p7.1]) rfl rfl ?_
        refine q_istore (ls' := [(4, .int p7.1), (0, .ref v0), (1, .int v1), (2, .int v2), (3, .int v3)]) (by decide) rfl dX9_years_38 ?_
        refine q_iload_n 4 rfl dX9_years_40 ?_
        refine q_ite hyp (fun c8 hyp => ?_) (fun c8 hyp => ?_)
        · refine q_lookup (off := 27) (tgt := 68) dX9_years_41 (by decide) (by rw [c8]; decide) (by decide) ?_
          refine q_iload 0 rfl dX9_years_68 ?_
          exact q_iretH rfl rfl dX9_years_70 hyp
        · refine q_ite hyp (fun c9 hyp => ?_) (fun c9 hyp => ?_)
          · refine q_lookup (off := 30) (tgt := 71) dX9_years_41 (by decide) (by rw [c9]; decide) (by decide) ?_
            refine q_aload_n 1 rfl dX9_years_71 ?_
            refine q_bind hyp (fun x10 e11 hyp => ?_)
            refine q_getR kF_X9_42 dX9_years_72 e11 ?_
            refine q_aload_n 1 rfl dX9_years_75 ?_
            refine q_bind hyp (fun x12 e13 hyp => ?_)
            refine q_getR kF_X9_28 dX9_years_76 e13 ?_
            refine q_bind hyp (fun p14 e15 hyp => ?_)
            refine q_callV (as := [.ref x12]) (st := []) kY_X8_meantBits kL_X9_195 (okX8_meantBits (l := l) e15) (by decide) rfl (obX8_meantBits e15) (Nat.le_of_ble_eq_true rfl) dX9_years_79 ?_
            refine q_to (ls' := [(4, .int p7.1), (0, .ref v0), (1, .int v1), (2, .int v2), (3, .int v3)]) (st' := [.int p14.1]) rfl rfl ?_
            exact q_iretH rfl rfl dX9_years_82 hyp
          · have zc8 := q_ni c8
            have zc9 := q_ni c9
            have zz : Op.lookupswitch.offset [(0, 27), (1, 30)] 42 v3.toInt = 42 := by
              rw [show (0 : Int32).toInt = 0 from rfl] at zc8
              rw [show (1 : Int32).toInt = 1 from rfl] at zc9
              rw [Op.lookupswitch.offset_cons, if_neg (Ne.symm zc8), Op.lookupswitch.offset_cons, if_neg (Ne.symm zc9)]
              rfl
            refine q_lookup (off := 42) (tgt := 83) dX9_years_41 (by decide) zz (by decide) ?_
            refine q_aload_n 1 rfl dX9_years_83 ?_
            refine q_bind hyp (fun x16 e17 hyp => ?_)
            refine q_getR kF_X9_42 dX9_years_84 e17 ?_
            refine q_bind hyp (fun x18 e19 hyp => ?_)
            refine q_getI kF_X9_241 dX9_years_87 e19 ?_
            exact q_iretH rfl rfl dX9_years_90 hyp
      · have hyp := q_pos c6 hyp
        refine q_iconst (x := (-1)) rfl dX9_years_30 ?_
        exact q_iretH rfl rfl dX9_years_31 hyp
