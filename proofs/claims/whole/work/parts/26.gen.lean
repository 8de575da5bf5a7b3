/-! Functions over the abstract heap, and that the machine computes them (written by gen.py). -/
theorem dX10_lacks_0 : decode cX10_lacks 0 = .ok (.aload_n 0, 1) := by decide +kernel
theorem dX10_lacks_1 : decode cX10_lacks 1 = .ok (.iconst 0, 1) := by decide +kernel
theorem dX10_lacks_2 : decode cX10_lacks 2 = .ok (.putfield 136, 3) := by decide +kernel
theorem dX10_lacks_5 : decode cX10_lacks 5 = .ok (.aload_n 0, 1) := by decide +kernel
theorem dX10_lacks_6 : decode cX10_lacks 6 = .ok (.invokevirtual 396, 3) := by decide +kernel
theorem dX10_lacks_9 : decode cX10_lacks 9 = .ok (.istore_n 1, 1) := by decide +kernel
theorem dX10_lacks_10 : decode cX10_lacks 10 = .ok (.iload_n 1, 1) := by decide +kernel
theorem dX10_lacks_11 : decode cX10_lacks 11 = .ok (.ifCond .ge 7, 3) := by decide +kernel
theorem dX10_lacks_14 : decode cX10_lacks 14 = .ok (.iconst (-1), 1) := by decide +kernel
theorem dX10_lacks_15 : decode cX10_lacks 15 = .ok (.goto 15, 3) := by decide +kernel
theorem dX10_lacks_18 : decode cX10_lacks 18 = .ok (.iconst 0, 1) := by decide +kernel
theorem dX10_lacks_19 : decode cX10_lacks 19 = .ok (.iload_n 1, 1) := by decide +kernel
theorem dX10_lacks_20 : decode cX10_lacks 20 = .ok (.aload_n 0, 1) := by decide +kernel
theorem dX10_lacks_21 : decode cX10_lacks 21 = .ok (.getfield 99, 3) := by decide +kernel
theorem dX10_lacks_24 : decode cX10_lacks 24 = .ok (.iconst 1, 1) := by decide +kernel
theorem dX10_lacks_25 : decode cX10_lacks 25 = .ok (.iaload, 1) := by decide +kernel
theorem dX10_lacks_26 : decode cX10_lacks 26 = .ok (.isub, 1) := by decide +kernel
theorem dX10_lacks_27 : decode cX10_lacks 27 = .ok (.invokestatic 337, 3) := by decide +kernel
theorem dX10_lacks_30 : decode cX10_lacks 30 = .ok (.ireturn, 1) := by decide +kernel
def fX10_lacks (n : Nat) (v0 : Nat) (h : qH) : Option (Int32 × qH) :=
  (isO h v0 10).bind fun _ =>
  (pF h v0 10 0 (.int 0)).bind fun h1 =>
  (fX10_rightAll n v0 h1).bind fun p3 =>
  if 0 ≤ p3.1 then
  ((gR p3.2 v0 10 41).bind fun x5 =>
  (aI .int p3.2 x5 1).bind fun x7 =>
  some (if (0 : Int32) < (p3.1 - x7) then (p3.1 - x7) else (0 : Int32), p3.2))
  else
  (some ((-1), p3.2))
theorem obX10_lacks {n : Nat} {v0 : Nat} {h : qH} {p : Int32 × qH} (hyp : fX10_lacks n v0 h = some p) : ∃ fs, h.1 v0 = some (.inr (10, fs)) := by
  unfold fX10_lacks at hyp
  exact q_bind hyp (fun _ e _ => isO_some e)
set_option maxHeartbeats 4000000 in
set_option maxRecDepth 100000 in
theorem okX10_lacks {l : Launch} {n : Nat} {v0 : Nat} {h : qH} {p : Int32 × qH} (hyp : fX10_lacks n v0 h = some p) : q_M l 9 yX10_lacks cX10_lacks 2 (some .int) [.ref v0] h (some (.int p.1)) p.2 := by
  obtain ⟨r, h'⟩ := p
  unfold fX10_lacks at hyp
  refine q_bind hyp (fun _ _ hyp => ?_)
  refine q_M.of (by decide) (Nat.le_of_ble_eq_true rfl) ?_
  refine q_to (ls' := [(0, .ref v0)]) (st' := []) rfl rfl ?_
  refine q_aload_n 0 rfl dX10_lacks_0 ?_
  refine q_iconst (x := 0) rfl dX10_lacks_1 ?_
  refine q_bind hyp (fun h1 e2 hyp => ?_)
  refine q_putF kF_X10_136 (fun _ => ⟨rfl, rfl⟩) dX10_lacks_2 e2 ?_
  refine q_aload_n 0 rfl dX10_lacks_5 ?_
  refine q_bind hyp (fun p3 e9 hyp => ?_)
  refine q_callV (as := []) (st := []) kY_X10_rightAll kL_X10_396 (okX10_rightAll (l := l) e9) (by decide) rfl (obX10_rightAll e9) (Nat.le_of_ble_eq_true rfl) dX10_lacks_6 ?_
  refine q_to (ls' := [(0, .ref v0)]) (st' := [.int p3.1]) rfl rfl ?_
  refine q_istore_n (ls' := [(1, .int p3.1), (0, .ref v0)]) (by decide) rfl dX10_lacks_9 ?_
  refine q_iload_n 0 rfl dX10_lacks_10 ?_
  refine q_if_ge (tgt := 18) dX10_lacks_11 (by decide) (fun c4 => ?_) (fun c4 => ?_)
  · have hyp := q_pos c4 hyp
    refine q_iconst (x := 0) rfl dX10_lacks_18 ?_
    refine q_iload_n 0 rfl dX10_lacks_19 ?_
    refine q_aload_n 1 rfl dX10_lacks_20 ?_
    refine q_bind hyp (fun x5 e6 hyp => ?_)
    refine q_getR kF_X10_99 dX10_lacks_21 e6 ?_
    refine q_iconst (x := 1) rfl dX10_lacks_24 ?_
    refine q_bind hyp (fun x7 e8 hyp => ?_)
    refine q_iald dX10_lacks_25 e8 ?_
    refine q_isub dX10_lacks_26 ?_
    refine q_max kL_X10_337 kS_max kZ_math kD_max (by decide) (Nat.le_of_ble_eq_true rfl) dX10_lacks_27 ?_
    exact q_iretH rfl rfl dX10_lacks_30 hyp
  · have hyp := q_neg c4 hyp
    refine q_iconst (x := (-1)) rfl dX10_lacks_14 ?_
    refine q_goto (tgt := 30) dX10_lacks_15 (by decide) ?_
    exact q_iretH rfl rfl dX10_lacks_30 hyp
theorem dX10_later_0 : decode cX10_later 0 = .ok (.aload_n 0, 1) := by decide +kernel
theorem dX10_later_1 : decode cX10_later 1 = .ok (.iconst 0, 1) := by decide +kernel
theorem dX10_later_2 : decode cX10_later 2 = .ok (.putfield 136, 3) := by decide +kernel
theorem dX10_later_5 : decode cX10_later 5 = .ok (.aload_n 0, 1) := by decide +kernel
theorem dX10_later_6 : decode cX10_later 6 = .ok (.iload_n 1, 1) := by decide +kernel
theorem dX10_later_7 : decode cX10_later 7 = .ok (.invokevirtual 346, 3) := by decide +kernel
theorem dX10_later_10 : decode cX10_later 10 = .ok (.ifCond .eq 13, 3) := by decide +kernel
theorem dX10_later_13 : decode cX10_later 13 = .ok (.iload_n 2, 1) := by decide +kernel
theorem dX10_later_14 : decode cX10_later 14 = .ok (.iconst 0, 1) := by decide +kernel
theorem dX10_later_15 : decode cX10_later 15 = .ok (.bipush 60, 2) := by decide +kernel
theorem dX10_later_17 : decode cX10_later 17 = .ok (.invokestatic 252, 3) := by decide +kernel
theorem dX10_later_20 : decode cX10_later 20 = .ok (.ifCond .ne 5, 3) := by decide +kernel
theorem dX10_later_23 : decode cX10_later 23 = .ok (.iconst (-1), 1) := by decide +kernel
theorem dX10_later_24 : decode cX10_later 24 = .ok (.ireturn, 1) := by decide +kernel
theorem dX10_later_25 : decode cX10_later 25 = .ok (.aload_n 0, 1) := by decide +kernel
theorem dX10_later_26 : decode cX10_later 26 = .ok (.getfield 99, 3) := by decide +kernel
theorem dX10_later_29 : decode cX10_later 29 = .ok (.iconst 0, 1) := by decide +kernel
theorem dX10_later_30 : decode cX10_later 30 = .ok (.aload_n 0, 1) := by decide +kernel
theorem dX10_later_31 : decode cX10_later 31 = .ok (.getfield 105, 3) := by decide +kernel
theorem dX10_later_34 : decode cX10_later 34 = .ok (.iconst 0, 1) := by decide +kernel
theorem dX10_later_35 : decode cX10_later 35 = .ok (.invokestatic 355, 3) := by decide +kernel
theorem dX10_later_38 : decode cX10_later 38 = .ok (.iconst 0, 1) := by decide +kernel
theorem dX10_later_39 : decode cX10_later 39 = .ok (.istore_n 3, 1) := by decide +kernel
theorem dX10_later_40 : decode cX10_later 40 = .ok (.iload_n 3, 1) := by decide +kernel
theorem dX10_later_41 : decode cX10_later 41 = .ok (.iload_n 2, 1) := by decide +kernel
theorem dX10_later_42 : decode cX10_later 42 = .ok (.if_icmp .ge 13, 3) := by decide +kernel
theorem dX10_later_45 : decode cX10_later 45 = .ok (.aload_n 0, 1) := by decide +kernel
theorem dX10_later_46 : decode cX10_later 46 = .ok (.invokevirtual 368, 3) := by decide +kernel
theorem dX10_later_49 : decode cX10_later 49 = .ok (.iinc 3 1, 3) := by decide +kernel
theorem dX10_later_52 : decode cX10_later 52 = .ok (.goto (-12), 3) := by decide +kernel
theorem dX10_later_55 : decode cX10_later 55 = .ok (.aload_n 0, 1) := by decide +kernel
theorem dX10_later_56 : decode cX10_later 56 = .ok (.getfield 99, 3) := by decide +kernel
theorem dX10_later_59 : decode cX10_later 59 = .ok (.iconst 2, 1) := by decide +kernel
theorem dX10_later_60 : decode cX10_later 60 = .ok (.iload_n 1, 1) := by decide +kernel
theorem dX10_later_61 : decode cX10_later 61 = .ok (.iadd, 1) := by decide +kernel
theorem dX10_later_62 : decode cX10_later 62 = .ok (.iaload, 1) := by decide +kernel
theorem dX10_later_63 : decode cX10_later 63 = .ok (.istore_n 3, 1) := by decide +kernel
theorem dX10_later_64 : decode cX10_later 64 = .ok (.aload_n 0, 1) := by decide +kernel
theorem dX10_later_65 : decode cX10_later 65 = .ok (.getfield 105, 3) := by decide +kernel
theorem dX10_later_68 : decode cX10_later 68 = .ok (.iconst 0, 1) := by decide +kernel
theorem dX10_later_69 : decode cX10_later 69 = .ok (.aload_n 0, 1) := by decide +kernel
theorem dX10_later_70 : decode cX10_later 70 = .ok (.getfield 99, 3) := by decide +kernel
theorem dX10_later_73 : decode cX10_later 73 = .ok (.iconst 0, 1) := by decide +kernel
theorem dX10_later_74 : decode cX10_later 74 = .ok (.invokestatic 355, 3) := by decide +kernel
theorem dX10_later_77 : decode cX10_later 77 = .ok (.iload_n 3, 1) := by decide +kernel
theorem dX10_later_78 : decode cX10_later 78 = .ok (.ireturn, 1) := by decide +kernel
def fX10_later_b40 (n : Nat) : Nat → Nat → Int32 → Int32 → Int32 → qH → Option (Int32 × qH)
  | 0, _, _, _, _, _ => none
  | w + 1, v0, v1, v2, v3, h =>
    if v2 ≤ v3 then
    ((gR h v0 10 41).bind fun x2 =>
    (aI .int h x2 (2 + v1)).bind fun x4 =>
    (gR h v0 10 43).bind fun x6 =>
    (gR h v0 10 41).bind fun x8 =>
    (fX10_copies n x6 0 x8 0 h).bind fun h10 =>
    some (x4, h10))
    else
    ((fX10_passes n v0 h).bind fun h12 =>
    fX10_later_b40 n w v0 v1 v2 (v3 + 1) h12)
set_option maxHeartbeats 4000000 in
set_option maxRecDepth 100000 in
theorem okX10_later_b40 {l : Launch} {n : Nat} {r : Int32} {h' : qH} : ∀ (w : Nat) (v0 : Nat) (v1 : Int32) (v2 : Int32) (v3 : Int32) (h : qH), fX10_later_b40 n w v0 v1 v2 v3 h = some (r, h') → q_W l 2 yX10_later cX10_later 4 (some .int) (some (.int r)) h' 40 [(0, .ref v0), (1, .int v1), (2, .int v2), (3, .int v3)] [] h := by
  intro w
  induction w with
  | zero => intro v0 v1 v2 v3 h hyp; cases hyp
  | succ w ih =>
    intro v0 v1 v2 v3 h hyp
    unfold fX10_later_b40 at hyp
    refine q_iload_n 3 rfl dX10_later_40 ?_
    refine q_iload_n 2 rfl dX10_later_41 ?_
    refine q_icmp_ge (tgt := 55) dX10_later_42 (by decide) (fun c1 => ?_) (fun c1 => ?_)
    · have hyp := q_pos c1 hyp
      refine q_aload_n 0 rfl dX10_later_55 ?_
      refine q_bind hyp (fun x2 e3 hyp => ?_)
      refine q_getR kF_X10_99 dX10_later_56 e3 ?_
      refine q_iconst (x := 2) rfl dX10_later_59 ?_
      refine q_iload_n 1 rfl dX10_later_60 ?_
      refine q_iadd dX10_later_61 ?_
      refine q_bind hyp (fun x4 e5 hyp => ?_)
      refine q_iald dX10_later_62 e5 ?_
      refine q_istore_n (ls' := [(3, .int x4), (0, .ref v0), (1, .int v1), (2, .int v2)]) (by decide) rfl dX10_later_63 ?_
      refine q_aload_n 1 rfl dX10_later_64 ?_
      refine q_bind hyp (fun x6 e7 hyp => ?_)
      refine q_getR kF_X10_105 dX10_later_65 e7 ?_
      refine q_iconst (x := 0) rfl dX10_later_68 ?_
      refine q_aload_n 1 rfl dX10_later_69 ?_
      refine q_bind hyp (fun x8 e9 hyp => ?_)
      refine q_getR kF_X10_99 dX10_later_70 e9 ?_
      refine q_iconst (x := 0) rfl dX10_later_73 ?_
      refine q_bind hyp (fun h10 e11 hyp => ?_)
      refine q_callS (as := [.ref x6, .int 0, .ref x8, .int 0]) (st := []) kY_X10_copies kS_X10_copies kL_X10_355 (okX10_copies (l := l) e11) (by decide) rfl (Nat.le_of_ble_eq_true rfl) dX10_later_74 ?_
      refine q_to (ls' := [(3, .int x4), (0, .ref v0), (1, .int v1), (2, .int v2)]) (st' := []) rfl rfl ?_
      refine q_iload_n 0 rfl dX10_later_77 ?_
      exact q_iretH rfl rfl dX10_later_78 hyp
    · have hyp := q_neg c1 hyp
      refine q_aload_n 0 rfl dX10_later_45 ?_
      refine q_bind hyp (fun h12 e13 hyp => ?_)
      refine q_callV (as := []) (st := []) kY_X10_passes kL_X10_368 (okX10_passes (l := l) e13) (by decide) rfl (obX10_passes e13) (Nat.le_of_ble_eq_true rfl) dX10_later_46 ?_
      refine q_to (ls' := [(0, .ref v0), (1, .int v1), (2, .int v2), (3, .int v3)]) (st' := []) rfl rfl ?_
      refine q_iinc (ls' := [(3, .int (v3 + 1)), (0, .ref v0), (1, .int v1), (2, .int v2)]) 3 rfl rfl (by decide) rfl dX10_later_49 ?_
      refine q_goto (tgt := 40) dX10_later_52 (by decide) ?_
      exact q_sub [1, 2, 3, 0] rfl (ih v0 v1 v2 (v3 + 1) h12 hyp)
def fX10_later (n : Nat) (v0 : Nat) (v1 : Int32) (v2 : Int32) (h : qH) : Option (Int32 × qH) :=
  (isO h v0 10).bind fun _ =>
  (pF h v0 10 0 (.int 0)).bind fun h1 =>
  (fX10_isMatter v0 v1 h1).bind fun p3 =>
  if p3.1 = 0 then
  (some ((-1), p3.2))
  else
  ((fX10_within v2 0 60 p3.2).bind fun p5 =>
  if p5.1 = 0 then
  (some ((-1), p5.2))
  else
  ((gR p5.2 v0 10 41).bind fun x7 =>
  (gR p5.2 v0 10 43).bind fun x9 =>
  (fX10_copies n x7 0 x9 0 p5.2).bind fun h11 =>
  fX10_later_b40 n n v0 v1 v2 0 h11))
theorem obX10_later {n : Nat} {v0 : Nat} {v1 : Int32} {v2 : Int32} {h : qH} {p : Int32 × qH} (hyp : fX10_later n v0 v1 v2 h = some p) : ∃ fs, h.1 v0 = some (.inr (10, fs)) := by
  unfold fX10_later at hyp
  exact q_bind hyp (fun _ e _ => isO_some e)
set_option maxHeartbeats 4000000 in
set_option maxRecDepth 100000 in
theorem okX10_later {l : Launch} {n : Nat} {v0 : Nat} {v1 : Int32} {v2 : Int32} {h : qH} {p : Int32 × qH} (hyp : fX10_later n v0 v1 v2 h = some p) : q_M l 2 yX10_later cX10_later 4 (some .int) [.ref v0, .int v1, .int v2] h (some (.int p.1)) p.2 := by
  obtain ⟨r, h'⟩ := p
  unfold fX10_later at hyp
  refine q_bind hyp (fun _ _ hyp => ?_)
  refine q_M.of (by decide) (Nat.le_of_ble_eq_true rfl) ?_
  refine q_to (ls' := [(0, .ref v0), (1, .int v1), (2, .int v2)]) (st' := []) rfl rfl ?_
  refine q_aload_n 0 rfl dX10_later_0 ?_
  refine q_iconst (x := 0) rfl dX10_later_1 ?_
  refine q_bind hyp (fun h1 e2 hyp => ?_)
  refine q_putF kF_X10_136 (fun _ => ⟨rfl, rfl⟩) dX10_later_2 e2 ?_
  refine q_aload_n 0 rfl dX10_later_5 ?_
  refine q_iload_n 1 rfl dX10_later_6 ?_
  refine q_bind hyp (fun p3 e14 hyp => ?_)
  refine q_callV (as := [.int v1]) (st := []) kY_X10_isMatter kL_X10_346 (okX10_isMatter (l := l) e14) (by decide) rfl (obX10_isMatter e14) (Nat.le_of_ble_eq_true rfl) dX10_later_7 ?_
  refine q_to (ls' := [(0, .ref v0), (1, .int v1), (2, .int v2)]) (st' := [.int p3.1]) rfl rfl ?_
  refine q_if_eq (tgt := 23) dX10_later_10 (by decide) (fun c4 => ?_) (fun c4 => ?_)
  · have hyp := q_pos c4 hyp
    refine q_iconst (x := (-1)) rfl dX10_later_23 ?_
    exact q_iretH rfl rfl dX10_later_24 hyp
  · have hyp := q_neg c4 hyp
    refine q_iload_n 2 rfl dX10_later_13 ?_
    refine q_iconst (x := 0) rfl dX10_later_14 ?_
    refine q_bipush (x := 60) (by decide) dX10_later_15 ?_
    refine q_bind hyp (fun p5 e13 hyp => ?_)
    refine q_callS (as := [.int v2, .int 0, .int 60]) (st := []) kY_X10_within kS_X10_within kL_X10_252 (okX10_within (l := l) e13) (by decide) rfl (Nat.le_of_ble_eq_true rfl) dX10_later_17 ?_
    refine q_to (ls' := [(0, .ref v0), (1, .int v1), (2, .int v2)]) (st' := [.int p5.1]) rfl rfl ?_
    refine q_if_ne (tgt := 25) dX10_later_20 (by decide) (fun c6 => ?_) (fun c6 => ?_)
    · have hyp := q_neg c6 hyp
      refine q_aload_n 0 rfl dX10_later_25 ?_
      refine q_bind hyp (fun x7 e8 hyp => ?_)
      refine q_getR kF_X10_99 dX10_later_26 e8 ?_
      refine q_iconst (x := 0) rfl dX10_later_29 ?_
      refine q_aload_n 0 rfl dX10_later_30 ?_
      refine q_bind hyp (fun x9 e10 hyp => ?_)
      refine q_getR kF_X10_105 dX10_later_31 e10 ?_
      refine q_iconst (x := 0) rfl dX10_later_34 ?_
      refine q_bind hyp (fun h11 e12 hyp => ?_)
      refine q_callS (as := [.ref x7, .int 0, .ref x9, .int 0]) (st := []) kY_X10_copies kS_X10_copies kL_X10_355 (okX10_copies (l := l) e12) (by decide) rfl (Nat.le_of_ble_eq_true rfl) dX10_later_35 ?_
      refine q_to (ls' := [(0, .ref v0), (1, .int v1), (2, .int v2)]) (st' := []) rfl rfl ?_
      refine q_iconst (x := 0) rfl dX10_later_38 ?_
      refine q_istore_n (ls' := [(3, .int 0), (0, .ref v0), (1, .int v1), (2, .int v2)]) (by decide) rfl dX10_later_39 ?_
      exact q_sub [1, 2, 3, 0] rfl (okX10_later_b40 _ v0 v1 v2 0 h11 hyp)
    · have hyp := q_pos c6 hyp
      refine q_iconst (x := (-1)) rfl dX10_later_23 ?_
      exact q_iretH rfl rfl dX10_later_24 hyp
theorem dX10_shifts_0 : decode cX10_shifts 0 = .ok (.iconst 0, 1) := by decide +kernel
theorem dX10_shifts_1 : decode cX10_shifts 1 = .ok (.istore_n 2, 1) := by decide +kernel
theorem dX10_shifts_2 : decode cX10_shifts 2 = .ok (.iload_n 2, 1) := by decide +kernel
theorem dX10_shifts_3 : decode cX10_shifts 3 = .ok (.iload_n 1, 1) := by decide +kernel
theorem dX10_shifts_4 : decode cX10_shifts 4 = .ok (.if_icmp .ge 17, 3) := by decide +kernel
theorem dX10_shifts_7 : decode cX10_shifts 7 = .ok (.aload_n 0, 1) := by decide +kernel
theorem dX10_shifts_8 : decode cX10_shifts 8 = .ok (.iload_n 2, 1) := by decide +kernel
theorem dX10_shifts_9 : decode cX10_shifts 9 = .ok (.aload_n 0, 1) := by decide +kernel
theorem dX10_shifts_10 : decode cX10_shifts 10 = .ok (.iload_n 1, 1) := by decide +kernel
theorem dX10_shifts_11 : decode cX10_shifts 11 = .ok (.iload_n 2, 1) := by decide +kernel
theorem dX10_shifts_12 : decode cX10_shifts 12 = .ok (.iadd, 1) := by decide +kernel
theorem dX10_shifts_13 : decode cX10_shifts 13 = .ok (.iaload, 1) := by decide +kernel
theorem dX10_shifts_14 : decode cX10_shifts 14 = .ok (.iastore, 1) := by decide +kernel
theorem dX10_shifts_15 : decode cX10_shifts 15 = .ok (.iinc 2 1, 3) := by decide +kernel
theorem dX10_shifts_18 : decode cX10_shifts 18 = .ok (.goto (-16), 3) := by decide +kernel
theorem dX10_shifts_21 : decode cX10_shifts 21 = .ok (.return_, 1) := by decide +kernel
def fX10_shifts_b2 (n : Nat) : Nat → Nat → Int32 → Int32 → qH → Option (qH)
  | 0, _, _, _, _ => none
  | w + 1, v0, v1, v2, h =>
    if v1 ≤ v2 then
    (some h)
    else
    ((aI .int h v0 (v1 + v2)).bind fun x2 =>
    (sI .int h v0 v2 x2).bind fun h4 =>
    fX10_shifts_b2 n w v0 v1 (v2 + 1) h4)
set_option maxHeartbeats 4000000 in
set_option maxRecDepth 100000 in
theorem okX10_shifts_b2 {l : Launch} {n : Nat} {h' : qH} : ∀ (w : Nat) (v0 : Nat) (v1 : Int32) (v2 : Int32) (h : qH), fX10_shifts_b2 n w v0 v1 v2 h = some h' → q_W l 1 yX10_shifts cX10_shifts 3 none none h' 2 [(0, .ref v0), (1, .int v1), (2, .int v2)] [] h := by
  intro w
  induction w with
  | zero => intro v0 v1 v2 h hyp; cases hyp
  | succ w ih =>
    intro v0 v1 v2 h hyp
    unfold fX10_shifts_b2 at hyp
    refine q_iload_n 2 rfl dX10_shifts_2 ?_
    refine q_iload_n 1 rfl dX10_shifts_3 ?_
    refine q_icmp_ge (tgt := 21) dX10_shifts_4 (by decide) (fun c1 => ?_) (fun c1 => ?_)
    · have hyp := q_pos c1 hyp
      exact q_vretH rfl dX10_shifts_21 hyp
    · have hyp := q_neg c1 hyp
      refine q_aload_n 0 rfl dX10_shifts_7 ?_
      refine q_iload_n 2 rfl dX10_shifts_8 ?_
      refine q_aload_n 0 rfl dX10_shifts_9 ?_
      refine q_iload_n 1 rfl dX10_shifts_10 ?_
      refine q_iload_n 2 rfl dX10_shifts_11 ?_
      refine q_iadd dX10_shifts_12 ?_
      refine q_bind hyp (fun x2 e3 hyp => ?_)
      refine q_iald dX10_shifts_13 e3 ?_
      refine q_bind hyp (fun h4 e5 hyp => ?_)
      refine q_iast dX10_shifts_14 e5 ?_
      refine q_iinc (ls' := [(2, .int (v2 + 1)), (0, .ref v0), (1, .int v1)]) 2 rfl rfl (by decide) rfl dX10_shifts_15 ?_
      refine q_goto (tgt := 2) dX10_shifts_18 (by decide) ?_
      exact q_sub [1, 2, 0] rfl (ih v0 v1 (v2 + 1) h4 hyp)
def fX10_shifts (n : Nat) (v0 : Nat) (v1 : Int32) (h : qH) : Option (qH) :=
  fX10_shifts_b2 n n v0 v1 0 h
set_option maxHeartbeats 4000000 in
set_option maxRecDepth 100000 in
theorem okX10_shifts {l : Launch} {n : Nat} {v0 : Nat} {v1 : Int32} {h : qH} {h' : qH} (hyp : fX10_shifts n v0 v1 h = some h') : q_M l 1 yX10_shifts cX10_shifts 3 none [.ref v0, .int v1] h none h' := by
  unfold fX10_shifts at hyp
  refine q_M.of (by decide) (Nat.le_of_ble_eq_true rfl) ?_
  refine q_to (ls' := [(0, .ref v0), (1, .int v1)]) (st' := []) rfl rfl ?_
  refine q_iconst (x := 0) rfl dX10_shifts_0 ?_
  refine q_istore_n (ls' := [(2, .int 0), (0, .ref v0), (1, .int v1)]) (by decide) rfl dX10_shifts_1 ?_
  exact q_sub [1, 2, 0] rfl (okX10_shifts_b2 _ v0 v1 0 h hyp)
theorem dX10_lays_0 : decode cX10_lays 0 = .ok (.aload_n 0, 1) := by decide +kernel
theorem dX10_lays_1 : decode cX10_lays 1 = .ok (.getfield 13, 3) := by decide +kernel
theorem dX10_lays_4 : decode cX10_lays 4 = .ok (.iconst 4, 1) := by decide +kernel
theorem dX10_lays_5 : decode cX10_lays 5 = .ok (.invokestatic 301, 3) := by decide +kernel
theorem dX10_lays_8 : decode cX10_lays 8 = .ok (.iconst 0, 1) := by decide +kernel
theorem dX10_lays_9 : decode cX10_lays 9 = .ok (.istore_n 1, 1) := by decide +kernel
theorem dX10_lays_10 : decode cX10_lays 10 = .ok (.iload_n 1, 1) := by decide +kernel
theorem dX10_lays_11 : decode cX10_lays 11 = .ok (.bipush 7, 2) := by decide +kernel
theorem dX10_lays_13 : decode cX10_lays 13 = .ok (.if_icmp .ge 24, 3) := by decide +kernel
theorem dX10_lays_16 : decode cX10_lays 16 = .ok (.aload_n 0, 1) := by decide +kernel
theorem dX10_lays_17 : decode cX10_lays 17 = .ok (.getfield 16, 3) := by decide +kernel
theorem dX10_lays_20 : decode cX10_lays 20 = .ok (.iload_n 1, 1) := by decide +kernel
theorem dX10_lays_21 : decode cX10_lays 21 = .ok (.aload_n 0, 1) := by decide +kernel
theorem dX10_lays_22 : decode cX10_lays 22 = .ok (.getfield 16, 3) := by decide +kernel
theorem dX10_lays_25 : decode cX10_lays 25 = .ok (.bipush 7, 2) := by decide +kernel
theorem dX10_lays_27 : decode cX10_lays 27 = .ok (.iload_n 1, 1) := by decide +kernel
theorem dX10_lays_28 : decode cX10_lays 28 = .ok (.iadd, 1) := by decide +kernel
theorem dX10_lays_29 : decode cX10_lays 29 = .ok (.laload, 1) := by decide +kernel
theorem dX10_lays_30 : decode cX10_lays 30 = .ok (.lastore, 1) := by decide +kernel
theorem dX10_lays_31 : decode cX10_lays 31 = .ok (.iinc 1 1, 3) := by decide +kernel
theorem dX10_lays_34 : decode cX10_lays 34 = .ok (.goto (-24), 3) := by decide +kernel
theorem dX10_lays_37 : decode cX10_lays 37 = .ok (.aload_n 0, 1) := by decide +kernel
theorem dX10_lays_38 : decode cX10_lays 38 = .ok (.getfield 20, 3) := by decide +kernel
theorem dX10_lays_41 : decode cX10_lays 41 = .ok (.bipush 7, 2) := by decide +kernel
theorem dX10_lays_43 : decode cX10_lays 43 = .ok (.invokestatic 301, 3) := by decide +kernel
theorem dX10_lays_46 : decode cX10_lays 46 = .ok (.aload_n 0, 1) := by decide +kernel
theorem dX10_lays_47 : decode cX10_lays 47 = .ok (.getfield 23, 3) := by decide +kernel
theorem dX10_lays_50 : decode cX10_lays 50 = .ok (.bipush 7, 2) := by decide +kernel
theorem dX10_lays_52 : decode cX10_lays 52 = .ok (.invokestatic 301, 3) := by decide +kernel
theorem dX10_lays_55 : decode cX10_lays 55 = .ok (.aload_n 0, 1) := by decide +kernel
theorem dX10_lays_56 : decode cX10_lays 56 = .ok (.getfield 26, 3) := by decide +kernel
theorem dX10_lays_59 : decode cX10_lays 59 = .ok (.bipush 7, 2) := by decide +kernel
theorem dX10_lays_61 : decode cX10_lays 61 = .ok (.invokestatic 301, 3) := by decide +kernel
theorem dX10_lays_64 : decode cX10_lays 64 = .ok (.aload_n 0, 1) := by decide +kernel
theorem dX10_lays_65 : decode cX10_lays 65 = .ok (.getfield 29, 3) := by decide +kernel
theorem dX10_lays_68 : decode cX10_lays 68 = .ok (.bipush 7, 2) := by decide +kernel
theorem dX10_lays_70 : decode cX10_lays 70 = .ok (.invokestatic 301, 3) := by decide +kernel
theorem dX10_lays_73 : decode cX10_lays 73 = .ok (.aload_n 0, 1) := by decide +kernel
theorem dX10_lays_74 : decode cX10_lays 74 = .ok (.getfield 38, 3) := by decide +kernel
theorem dX10_lays_77 : decode cX10_lays 77 = .ok (.sipush 1000, 3) := by decide +kernel
theorem dX10_lays_80 : decode cX10_lays 80 = .ok (.invokestatic 301, 3) := by decide +kernel
theorem dX10_lays_83 : decode cX10_lays 83 = .ok (.aload_n 0, 1) := by decide +kernel
theorem dX10_lays_84 : decode cX10_lays 84 = .ok (.getfield 32, 3) := by decide +kernel
theorem dX10_lays_87 : decode cX10_lays 87 = .ok (.iconst 0, 1) := by decide +kernel
theorem dX10_lays_88 : decode cX10_lays 88 = .ok (.aload_n 0, 1) := by decide +kernel
theorem dX10_lays_89 : decode cX10_lays 89 = .ok (.getfield 32, 3) := by decide +kernel
theorem dX10_lays_92 : decode cX10_lays 92 = .ok (.iconst 1, 1) := by decide +kernel
theorem dX10_lays_93 : decode cX10_lays 93 = .ok (.iaload, 1) := by decide +kernel
theorem dX10_lays_94 : decode cX10_lays 94 = .ok (.sipush 1000, 3) := by decide +kernel
theorem dX10_lays_97 : decode cX10_lays 97 = .ok (.isub, 1) := by decide +kernel
theorem dX10_lays_98 : decode cX10_lays 98 = .ok (.iastore, 1) := by decide +kernel
theorem dX10_lays_99 : decode cX10_lays 99 = .ok (.aload_n 0, 1) := by decide +kernel
theorem dX10_lays_100 : decode cX10_lays 100 = .ok (.getfield 35, 3) := by decide +kernel
theorem dX10_lays_103 : decode cX10_lays 103 = .ok (.iconst 0, 1) := by decide +kernel
theorem dX10_lays_104 : decode cX10_lays 104 = .ok (.aload_n 0, 1) := by decide +kernel
theorem dX10_lays_105 : decode cX10_lays 105 = .ok (.getfield 35, 3) := by decide +kernel
theorem dX10_lays_108 : decode cX10_lays 108 = .ok (.iconst 1, 1) := by decide +kernel
theorem dX10_lays_109 : decode cX10_lays 109 = .ok (.iaload, 1) := by decide +kernel
theorem dX10_lays_110 : decode cX10_lays 110 = .ok (.sipush 1000, 3) := by decide +kernel
theorem dX10_lays_113 : decode cX10_lays 113 = .ok (.isub, 1) := by decide +kernel
theorem dX10_lays_114 : decode cX10_lays 114 = .ok (.iastore, 1) := by decide +kernel
theorem dX10_lays_115 : decode cX10_lays 115 = .ok (.return_, 1) := by decide +kernel
def fX10_lays_b10 (n : Nat) : Nat → Nat → Int32 → qH → Option (qH)
  | 0, _, _, _ => none
  | w + 1, v0, v1, h =>
    if 7 ≤ v1 then
    ((gR h v0 10 12).bind fun x2 =>
    (fX10_shifts n x2 7 h).bind fun h4 =>
    (gR h4 v0 10 13).bind fun x5 =>
    (fX10_shifts n x5 7 h4).bind fun h7 =>
    (gR h7 v0 10 14).bind fun x8 =>
    (fX10_shifts n x8 7 h7).bind fun h10 =>
    (gR h10 v0 10 15).bind fun x11 =>
    (fX10_shifts n x11 7 h10).bind fun h13 =>
    (gR h13 v0 10 18).bind fun x14 =>
    (fX10_shifts n x14 1000 h13).bind fun h16 =>
    (gR h16 v0 10 16).bind fun x17 =>
    (gR h16 v0 10 16).bind fun x19 =>
    (aI .int h16 x19 1).bind fun x21 =>
    (sI .int h16 x17 0 (x21 - 1000)).bind fun h23 =>
    (gR h23 v0 10 17).bind fun x25 =>
    (gR h23 v0 10 17).bind fun x27 =>
    (aI .int h23 x27 1).bind fun x29 =>
    (sI .int h23 x25 0 (x29 - 1000)).bind fun h31 =>
    some h31)
    else
    ((gR h v0 10 11).bind fun x38 =>
    (gR h v0 10 11).bind fun x40 =>
    (aL h x40 (7 + v1)).bind fun x42 =>
    (sL h x38 v1 x42).bind fun h44 =>
    fX10_lays_b10 n w v0 (v1 + 1) h44)
set_option maxHeartbeats 4000000 in
set_option maxRecDepth 100000 in
theorem okX10_lays_b10 {l : Launch} {n : Nat} {h' : qH} : ∀ (w : Nat) (v0 : Nat) (v1 : Int32) (h : qH), fX10_lays_b10 n w v0 v1 h = some h' → q_W l 2 yX10_lays cX10_lays 2 none none h' 10 [(0, .ref v0), (1, .int v1)] [] h := by
  intro w
  induction w with
  | zero => intro v0 v1 h hyp; cases hyp
  | succ w ih =>
    intro v0 v1 h hyp
    unfold fX10_lays_b10 at hyp
    refine q_iload_n 1 rfl dX10_lays_10 ?_
    refine q_bipush (x := 7) (by decide) dX10_lays_11 ?_
    refine q_icmp_ge (tgt := 37) dX10_lays_13 (by decide) (fun c1 => ?_) (fun c1 => ?_)
    · have hyp := q_pos c1 hyp
      refine q_aload_n 0 rfl dX10_lays_37 ?_
      refine q_bind hyp (fun x2 e3 hyp => ?_)
      refine q_getR kF_X10_20 dX10_lays_38 e3 ?_
      refine q_bipush (x := 7) (by decide) dX10_lays_41 ?_
      refine q_bind hyp (fun h4 e37 hyp => ?_)
      refine q_callS (as := [.ref x2, .int 7]) (st := []) kY_X10_shifts kS_X10_shifts kL_X10_301 (okX10_shifts (l := l) e37) (by decide) rfl (Nat.le_of_ble_eq_true rfl) dX10_lays_43 ?_
      refine q_to (ls' := [(0, .ref v0), (1, .int v1)]) (st' := []) rfl rfl ?_
      refine q_aload_n 0 rfl dX10_lays_46 ?_
      refine q_bind hyp (fun x5 e6 hyp => ?_)
      refine q_getR kF_X10_23 dX10_lays_47 e6 ?_
      refine q_bipush (x := 7) (by decide) dX10_lays_50 ?_
      refine q_bind hyp (fun h7 e36 hyp => ?_)
      refine q_callS (as := [.ref x5, .int 7]) (st := []) kY_X10_shifts kS_X10_shifts kL_X10_301 (okX10_shifts (l := l) e36) (by decide) rfl (Nat.le_of_ble_eq_true rfl) dX10_lays_52 ?_
      refine q_to (ls' := [(0, .ref v0), (1, .int v1)]) (st' := []) rfl rfl ?_
      refine q_aload_n 0 rfl dX10_lays_55 ?_
      refine q_bind hyp (fun x8 e9 hyp => ?_)
      refine q_getR kF_X10_26 dX10_lays_56 e9 ?_
      refine q_bipush (x := 7) (by decide) dX10_lays_59 ?_
      refine q_bind hyp (fun h10 e35 hyp => ?_)
      refine q_callS (as := [.ref x8, .int 7]) (st := []) kY_X10_shifts kS_X10_shifts kL_X10_301 (okX10_shifts (l := l) e35) (by decide) rfl (Nat.le_of_ble_eq_true rfl) dX10_lays_61 ?_
      refine q_to (ls' := [(0, .ref v0), (1, .int v1)]) (st' := []) rfl rfl ?_
      refine q_aload_n 0 rfl dX10_lays_64 ?_
      refine q_bind hyp (fun x11 e12 hyp => ?_)
      refine q_getR kF_X10_29 dX10_lays_65 e12 ?_
      refine q_bipush (x := 7) (by decide) dX10_lays_68 ?_
      refine q_bind hyp (fun h13 e34 hyp => ?_)
      refine q_callS (as := [.ref x11, .int 7]) (st := []) kY_X10_shifts kS_X10_shifts kL_X10_301 (okX10_shifts (l := l) e34) (by decide) rfl (Nat.le_of_ble_eq_true rfl) dX10_lays_70 ?_
      refine q_to (ls' := [(0, .ref v0), (1, .int v1)]) (st' := []) rfl rfl ?_
      refine q_aload_n 0 rfl dX10_lays_73 ?_
      refine q_bind hyp (fun x14 e15 hyp => ?_)
      refine q_getR kF_X10_38 dX10_lays_74 e15 ?_
      refine q_sipush (x := 1000) (by decide) dX10_lays_77 ?_
      refine q_bind hyp (fun h16 e33 hyp => ?_)
      refine q_callS (as := [.ref x14, .int 1000]) (st := []) kY_X10_shifts kS_X10_shifts kL_X10_301 (okX10_shifts (l := l) e33) (by decide) rfl (Nat.le_of_ble_eq_true rfl) dX10_lays_80 ?_
      refine q_to (ls' := [(0, .ref v0), (1, .int v1)]) (st' := []) rfl rfl ?_
      refine q_aload_n 0 rfl dX10_lays_83 ?_
      refine q_bind hyp (fun x17 e18 hyp => ?_)
      refine q_getR kF_X10_32 dX10_lays_84 e18 ?_
      refine q_iconst (x := 0) rfl dX10_lays_87 ?_
      refine q_aload_n 0 rfl dX10_lays_88 ?_
      refine q_bind hyp (fun x19 e20 hyp => ?_)
      refine q_getR kF_X10_32 dX10_lays_89 e20 ?_
      refine q_iconst (x := 1) rfl dX10_lays_92 ?_
      refine q_bind hyp (fun x21 e22 hyp => ?_)
      refine q_iald dX10_lays_93 e22 ?_
      refine q_sipush (x := 1000) (by decide) dX10_lays_94 ?_
      refine q_isub dX10_lays_97 ?_
      refine q_bind hyp (fun h23 e24 hyp => ?_)
      refine q_iast dX10_lays_98 e24 ?_
      refine q_aload_n 0 rfl dX10_lays_99 ?_
      refine q_bind hyp (fun x25 e26 hyp => ?_)
      refine q_getR kF_X10_35 dX10_lays_100 e26 ?_
      refine q_iconst (x := 0) rfl dX10_lays_103 ?_
      refine q_aload_n 0 rfl dX10_lays_104 ?_
      refine q_bind hyp (fun x27 e28 hyp => ?_)
      refine q_getR kF_X10_35 dX10_lays_105 e28 ?_
      refine q_iconst (x := 1) rfl dX10_lays_108 ?_
      refine q_bind hyp (fun x29 e30 hyp => ?_)
      refine q_iald dX10_lays_109 e30 ?_
      refine q_sipush (x := 1000) (by decide) dX10_lays_110 ?_
      refine q_isub dX10_lays_113 ?_
      refine q_bind hyp (fun h31 e32 hyp => ?_)
      refine q_iast dX10_lays_114 e32 ?_
      exact q_vretH rfl dX10_lays_115 hyp
    · have hyp := q_neg c1 hyp
      refine q_aload_n 0 rfl dX10_lays_16 ?_
      refine q_bind hyp (fun x38 e39 hyp => ?_)
      refine q_getR kF_X10_16 dX10_lays_17 e39 ?_
      refine q_iload_n 1 rfl dX10_lays_20 ?_
      refine q_aload_n 0 rfl dX10_lays_21 ?_
      refine q_bind hyp (fun x40 e41 hyp => ?_)
      refine q_getR kF_X10_16 dX10_lays_22 e41 ?_
      refine q_bipush (x := 7) (by decide) dX10_lays_25 ?_
      refine q_iload_n 1 rfl dX10_lays_27 ?_
      refine q_iadd dX10_lays_28 ?_
      refine q_bind hyp (fun x42 e43 hyp => ?_)
      refine q_lald dX10_lays_29 e43 ?_
      refine q_bind hyp (fun h44 e45 hyp => ?_)
      refine q_last dX10_lays_30 e45 ?_
      refine q_iinc (ls' := [(1, .int (v1 + 1)), (0, .ref v0)]) 1 rfl rfl (by decide) rfl dX10_lays_31 ?_
      refine q_goto (tgt := 10) dX10_lays_34 (by decide) ?_
      exact q_sub [1, 0] rfl (ih v0 (v1 + 1) h44 hyp)
def fX10_lays (n : Nat) (v0 : Nat) (h : qH) : Option (qH) :=
  (isO h v0 10).bind fun _ =>
  (gR h v0 10 10).bind fun x1 =>
  (fX10_shifts n x1 4 h).bind fun h3 =>
  fX10_lays_b10 n n v0 0 h3
theorem obX10_lays {n : Nat} {v0 : Nat} {h : qH} {p : qH} (hyp : fX10_lays n v0 h = some p) : ∃ fs, h.1 v0 = some (.inr (10, fs)) := by
  unfold fX10_lays at hyp
  exact q_bind hyp (fun _ e _ => isO_some e)
set_option maxHeartbeats 4000000 in
set_option maxRecDepth 100000 in
theorem okX10_lays {l : Launch} {n : Nat} {v0 : Nat} {h : qH} {h' : qH} (hyp : fX10_lays n v0 h = some h') : q_M l 2 yX10_lays cX10_lays 2 none [.ref v0] h none h' := by
  unfold fX10_lays at hyp
  refine q_bind hyp (fun _ _ hyp => ?_)
  refine q_M.of (by decide) (Nat.le_of_ble_eq_true rfl) ?_
  refine q_to (ls' := [(0, .ref v0)]) (st' := []) rfl rfl ?_
  refine q_aload_n 0 rfl dX10_lays_0 ?_
  refine q_bind hyp (fun x1 e2 hyp => ?_)
  refine q_getR kF_X10_13 dX10_lays_1 e2 ?_
  refine q_iconst (x := 4) rfl dX10_lays_4 ?_
  refine q_bind hyp (fun h3 e4 hyp => ?_)
  refine q_callS (as := [.ref x1, .int 4]) (st := []) kY_X10_shifts kS_X10_shifts kL_X10_301 (okX10_shifts (l := l) e4) (by decide) rfl (Nat.le_of_ble_eq_true rfl) dX10_lays_5 ?_
  refine q_to (ls' := [(0, .ref v0)]) (st' := []) rfl rfl ?_
  refine q_iconst (x := 0) rfl dX10_lays_8 ?_
  refine q_istore_n (ls' := [(1, .int 0), (0, .ref v0)]) (by decide) rfl dX10_lays_9 ?_
  exact q_sub [1, 0] rfl (okX10_lays_b10 _ v0 0 h3 hyp)
theorem dX10_laysCauses_0 : decode cX10_laysCauses 0 = .ok (.iconst 0, 1) := by decide +kernel
theorem dX10_laysCauses_1 : decode cX10_laysCauses 1 = .ok (.istore_n 1, 1) := by decide +kernel
theorem dX10_laysCauses_2 : decode cX10_laysCauses 2 = .ok (.iload_n 1, 1) := by decide +kernel
theorem dX10_laysCauses_3 : decode cX10_laysCauses 3 = .ok (.bipush 7, 2) := by decide +kernel
theorem dX10_laysCauses_5 : decode cX10_laysCauses 5 = .ok (.if_icmp .ge 35, 3) := by decide +kernel
theorem dX10_laysCauses_8 : decode cX10_laysCauses 8 = .ok (.aload_n 0, 1) := by decide +kernel
theorem dX10_laysCauses_9 : decode cX10_laysCauses 9 = .ok (.getfield 117, 3) := by decide +kernel
theorem dX10_laysCauses_12 : decode cX10_laysCauses 12 = .ok (.iload_n 1, 1) := by decide +kernel
theorem dX10_laysCauses_13 : decode cX10_laysCauses 13 = .ok (.iload_n 1, 1) := by decide +kernel
theorem dX10_laysCauses_14 : decode cX10_laysCauses 14 = .ok (.aload_n 0, 1) := by decide +kernel
theorem dX10_laysCauses_15 : decode cX10_laysCauses 15 = .ok (.getfield 13, 3) := by decide +kernel
theorem dX10_laysCauses_18 : decode cX10_laysCauses 18 = .ok (.iconst 0, 1) := by decide +kernel
theorem dX10_laysCauses_19 : decode cX10_laysCauses 19 = .ok (.iaload, 1) := by decide +kernel
theorem dX10_laysCauses_20 : decode cX10_laysCauses 20 = .ok (.if_icmp .ge 12, 3) := by decide +kernel
theorem dX10_laysCauses_23 : decode cX10_laysCauses 23 = .ok (.aload_n 0, 1) := by decide +kernel
theorem dX10_laysCauses_24 : decode cX10_laysCauses 24 = .ok (.getfield 29, 3) := by decide +kernel
theorem dX10_laysCauses_27 : decode cX10_laysCauses 27 = .ok (.iload_n 1, 1) := by decide +kernel
theorem dX10_laysCauses_28 : decode cX10_laysCauses 28 = .ok (.iaload, 1) := by decide +kernel
theorem dX10_laysCauses_29 : decode cX10_laysCauses 29 = .ok (.goto 4, 3) := by decide +kernel
theorem dX10_laysCauses_32 : decode cX10_laysCauses 32 = .ok (.iconst 0, 1) := by decide +kernel
theorem dX10_laysCauses_33 : decode cX10_laysCauses 33 = .ok (.iastore, 1) := by decide +kernel
theorem dX10_laysCauses_34 : decode cX10_laysCauses 34 = .ok (.iinc 1 1, 3) := by decide +kernel
theorem dX10_laysCauses_37 : decode cX10_laysCauses 37 = .ok (.goto (-35), 3) := by decide +kernel
theorem dX10_laysCauses_40 : decode cX10_laysCauses 40 = .ok (.iconst 0, 1) := by decide +kernel
theorem dX10_laysCauses_41 : decode cX10_laysCauses 41 = .ok (.istore_n 1, 1) := by decide +kernel
theorem dX10_laysCauses_42 : decode cX10_laysCauses 42 = .ok (.iload_n 1, 1) := by decide +kernel
theorem dX10_laysCauses_43 : decode cX10_laysCauses 43 = .ok (.bipush 7, 2) := by decide +kernel
theorem dX10_laysCauses_45 : decode cX10_laysCauses 45 = .ok (.if_icmp .ge 78, 3) := by decide +kernel
theorem dX10_laysCauses_48 : decode cX10_laysCauses 48 = .ok (.iconst 0, 1) := by decide +kernel
theorem dX10_laysCauses_49 : decode cX10_laysCauses 49 = .ok (.istore_n 2, 1) := by decide +kernel
theorem dX10_laysCauses_50 : decode cX10_laysCauses 50 = .ok (.iload_n 2, 1) := by decide +kernel
theorem dX10_laysCauses_51 : decode cX10_laysCauses 51 = .ok (.aload_n 0, 1) := by decide +kernel
theorem dX10_laysCauses_52 : decode cX10_laysCauses 52 = .ok (.getfield 13, 3) := by decide +kernel
theorem dX10_laysCauses_55 : decode cX10_laysCauses 55 = .ok (.iconst 0, 1) := by decide +kernel
theorem dX10_laysCauses_56 : decode cX10_laysCauses 56 = .ok (.iaload, 1) := by decide +kernel
theorem dX10_laysCauses_57 : decode cX10_laysCauses 57 = .ok (.if_icmp .ge 60, 3) := by decide +kernel
theorem dX10_laysCauses_60 : decode cX10_laysCauses 60 = .ok (.iconst 0, 1) := by decide +kernel
theorem dX10_laysCauses_61 : decode cX10_laysCauses 61 = .ok (.istore_n 3, 1) := by decide +kernel
theorem dX10_laysCauses_62 : decode cX10_laysCauses 62 = .ok (.iload_n 3, 1) := by decide +kernel
theorem dX10_laysCauses_63 : decode cX10_laysCauses 63 = .ok (.aload_n 0, 1) := by decide +kernel
theorem dX10_laysCauses_64 : decode cX10_laysCauses 64 = .ok (.getfield 13, 3) := by decide +kernel
theorem dX10_laysCauses_67 : decode cX10_laysCauses 67 = .ok (.iconst 0, 1) := by decide +kernel
theorem dX10_laysCauses_68 : decode cX10_laysCauses 68 = .ok (.iaload, 1) := by decide +kernel
theorem dX10_laysCauses_69 : decode cX10_laysCauses 69 = .ok (.if_icmp .ge 42, 3) := by decide +kernel
theorem dX10_laysCauses_72 : decode cX10_laysCauses 72 = .ok (.aload_n 0, 1) := by decide +kernel
theorem dX10_laysCauses_73 : decode cX10_laysCauses 73 = .ok (.getfield 117, 3) := by decide +kernel
theorem dX10_laysCauses_76 : decode cX10_laysCauses 76 = .ok (.iload_n 2, 1) := by decide +kernel
theorem dX10_laysCauses_77 : decode cX10_laysCauses 77 = .ok (.dup2, 1) := by decide +kernel
theorem dX10_laysCauses_78 : decode cX10_laysCauses 78 = .ok (.iaload, 1) := by decide +kernel
theorem dX10_laysCauses_79 : decode cX10_laysCauses 79 = .ok (.aload_n 0, 1) := by decide +kernel
theorem dX10_laysCauses_80 : decode cX10_laysCauses 80 = .ok (.getfield 117, 3) := by decide +kernel
theorem dX10_laysCauses_83 : decode cX10_laysCauses 83 = .ok (.iload_n 2, 1) := by decide +kernel
theorem dX10_laysCauses_84 : decode cX10_laysCauses 84 = .ok (.iaload, 1) := by decide +kernel
theorem dX10_laysCauses_85 : decode cX10_laysCauses 85 = .ok (.iload_n 3, 1) := by decide +kernel
theorem dX10_laysCauses_86 : decode cX10_laysCauses 86 = .ok (.ishr, 1) := by decide +kernel
theorem dX10_laysCauses_87 : decode cX10_laysCauses 87 = .ok (.iconst 1, 1) := by decide +kernel
theorem dX10_laysCauses_88 : decode cX10_laysCauses 88 = .ok (.iand, 1) := by decide +kernel
theorem dX10_laysCauses_89 : decode cX10_laysCauses 89 = .ok (.iconst 1, 1) := by decide +kernel
theorem dX10_laysCauses_90 : decode cX10_laysCauses 90 = .ok (.if_icmp .ne 12, 3) := by decide +kernel
theorem dX10_laysCauses_93 : decode cX10_laysCauses 93 = .ok (.aload_n 0, 1) := by decide +kernel
theorem dX10_laysCauses_94 : decode cX10_laysCauses 94 = .ok (.getfield 117, 3) := by decide +kernel
theorem dX10_laysCauses_97 : decode cX10_laysCauses 97 = .ok (.iload_n 3, 1) := by decide +kernel
theorem dX10_laysCauses_98 : decode cX10_laysCauses 98 = .ok (.iaload, 1) := by decide +kernel
theorem dX10_laysCauses_99 : decode cX10_laysCauses 99 = .ok (.goto 4, 3) := by decide +kernel
theorem dX10_laysCauses_102 : decode cX10_laysCauses 102 = .ok (.iconst 0, 1) := by decide +kernel
theorem dX10_laysCauses_103 : decode cX10_laysCauses 103 = .ok (.ior, 1) := by decide +kernel
theorem dX10_laysCauses_104 : decode cX10_laysCauses 104 = .ok (.iastore, 1) := by decide +kernel
theorem dX10_laysCauses_105 : decode cX10_laysCauses 105 = .ok (.iinc 3 1, 3) := by decide +kernel
theorem dX10_laysCauses_108 : decode cX10_laysCauses 108 = .ok (.goto (-46), 3) := by decide +kernel
theorem dX10_laysCauses_111 : decode cX10_laysCauses 111 = .ok (.iinc 2 1, 3) := by decide +kernel
theorem dX10_laysCauses_114 : decode cX10_laysCauses 114 = .ok (.goto (-64), 3) := by decide +kernel
theorem dX10_laysCauses_117 : decode cX10_laysCauses 117 = .ok (.iinc 1 1, 3) := by decide +kernel
theorem dX10_laysCauses_120 : decode cX10_laysCauses 120 = .ok (.goto (-78), 3) := by decide +kernel
theorem dX10_laysCauses_123 : decode cX10_laysCauses 123 = .ok (.return_, 1) := by decide +kernel
def fX10_laysCauses_b103 (n : Nat) (K62 : Nat → Int32 → Int32 → Int32 → qH → Option (qH)) (v0 : Nat) (v1 : Int32) (v2 : Int32) (v3 : Int32) (s0 : Int32) (s1 : Int32) (s2 : Int32) (s3 : Nat) (h : qH) : Option (qH) :=
  (sI .int h s3 s2 (s1 ||| s0)).bind fun h1 =>
  K62 v0 v1 v2 (v3 + 1) h1
set_option maxHeartbeats 4000000 in
set_option maxRecDepth 100000 in
theorem okX10_laysCauses_b103 {l : Launch} {n : Nat} {K62 : Nat → Int32 → Int32 → Int32 → qH → Option (qH)} {v0 : Nat} {v1 : Int32} {v2 : Int32} {v3 : Int32} {s0 : Int32} {s1 : Int32} {s2 : Int32} {s3 : Nat} {h : qH} {h' : qH} (hK62 : ∀ (v0 : Nat) (v1 : Int32) (v2 : Int32) (v3 : Int32) (h : qH), K62 v0 v1 v2 v3 h = some h' → q_W l 1 yX10_laysCauses cX10_laysCauses 4 none none h' 62 [(0, .ref v0), (1, .int v1), (2, .int v2), (3, .int v3)] [] h) (hyp : fX10_laysCauses_b103 n K62 v0 v1 v2 v3 s0 s1 s2 s3 h = some h') : q_W l 1 yX10_laysCauses cX10_laysCauses 4 none none h' 103 [(0, .ref v0), (1, .int v1), (2, .int v2), (3, .int v3)] [.int s0, .int s1, .int s2, .ref s3] h := by
  unfold fX10_laysCauses_b103 at hyp
  refine q_ior dX10_laysCauses_103 ?_
  refine q_bind hyp (fun h1 e2 hyp => ?_)
  refine q_iast dX10_laysCauses_104 e2 ?_
  refine q_iinc (ls' := [(3, .int (v3 + 1)), (0, .ref v0), (1, .int v1), (2, .int v2)]) 3 rfl rfl (by decide) rfl dX10_laysCauses_105 ?_
  refine q_goto (tgt := 62) dX10_laysCauses_108 (by decide) ?_
  exact q_sub [1, 2, 3, 0] rfl (hK62 v0 v1 v2 (v3 + 1) h1 hyp)
def fX10_laysCauses_b62 (n : Nat) (K50 : Nat → Int32 → Int32 → qH → Option (qH)) : Nat → Nat → Int32 → Int32 → Int32 → qH → Option (qH)
  | 0, _, _, _, _, _ => none
  | w + 1, v0, v1, v2, v3, h =>
    (gR h v0 10 10).bind fun x1 =>
    (aI .int h x1 0).bind fun x3 =>
    if x3 ≤ v3 then
    (K50 v0 v1 (v2 + 1) h)
    else
    ((gR h v0 10 48).bind fun x6 =>
    (aI .int h x6 v2).bind fun x8 =>
    (gR h v0 10 48).bind fun x10 =>
    (aI .int h x10 v2).bind fun x12 =>
    if ((x12 >>> (v3 &&& 31)) &&& 1) = 1 then
    ((gR h v0 10 48).bind fun x15 =>
    (aI .int h x15 v3).bind fun x17 =>
    fX10_laysCauses_b103 n (fX10_laysCauses_b62 n K50 w) v0 v1 v2 v3 x17 x8 v2 x6 h)
    else
    (fX10_laysCauses_b103 n (fX10_laysCauses_b62 n K50 w) v0 v1 v2 v3 0 x8 v2 x6 h))
set_option maxHeartbeats 4000000 in
set_option maxRecDepth 100000 in
theorem okX10_laysCauses_b62 {l : Launch} {n : Nat} {K50 : Nat → Int32 → Int32 → qH → Option (qH)} {h' : qH} (hK50 : ∀ (v0 : Nat) (v1 : Int32) (v2 : Int32) (h : qH), K50 v0 v1 v2 h = some h' → q_W l 1 yX10_laysCauses cX10_laysCauses 4 none none h' 50 [(0, .ref v0), (1, .int v1), (2, .int v2)] [] h) : ∀ (w : Nat) (v0 : Nat) (v1 : Int32) (v2 : Int32) (v3 : Int32) (h : qH), fX10_laysCauses_b62 n K50 w v0 v1 v2 v3 h = some h' → q_W l 1 yX10_laysCauses cX10_laysCauses 4 none none h' 62 [(0, .ref v0), (1, .int v1), (2, .int v2), (3, .int v3)] [] h := by
  intro w
  induction w with
  | zero => intro v0 v1 v2 v3 h hyp; cases hyp
  | succ w ih =>
    intro v0 v1 v2 v3 h hyp
    unfold fX10_laysCauses_b62 at hyp
    refine q_iload_n 3 rfl dX10_laysCauses_62 ?_
    refine q_aload_n 0 rfl dX10_laysCauses_63 ?_
    refine q_bind hyp (fun x1 e2 hyp => ?_)
    refine q_getR kF_X10_13 dX10_laysCauses_64 e2 ?_
    refine q_iconst (x := 0) rfl dX10_laysCauses_67 ?_
    refine q_bind hyp (fun x3 e4 hyp => ?_)
    refine q_iald dX10_laysCauses_68 e4 ?_
    refine q_icmp_ge (tgt := 111) dX10_laysCauses_69 (by decide) (fun c5 => ?_) (fun c5 => ?_)
    · have hyp := q_pos c5 hyp
      refine q_iinc (ls' := [(2, .int (v2 + 1)), (0, .ref v0), (1, .int v1), (3, .int v3)]) 2 rfl rfl (by decide) rfl dX10_laysCauses_111 ?_
      refine q_goto (tgt := 50) dX10_laysCauses_114 (by decide) ?_
      exact q_sub [1, 2, 0] rfl (hK50 v0 v1 (v2 + 1) h hyp)
    · have hyp := q_neg c5 hyp
      refine q_aload_n 0 rfl dX10_laysCauses_72 ?_
      refine q_bind hyp (fun x6 e7 hyp => ?_)
      refine q_getR kF_X10_117 dX10_laysCauses_73 e7 ?_
      refine q_iload_n 2 rfl dX10_laysCauses_76 ?_
      refine q_dup2 rfl rfl dX10_laysCauses_77 ?_
      refine q_bind hyp (fun x8 e9 hyp => ?_)
      refine q_iald dX10_laysCauses_78 e9 ?_
      refine q_aload_n 0 rfl dX10_laysCauses_79 ?_
      refine q_bind hyp (fun x10 e11 hyp => ?_)
      refine q_getR kF_X10_117 dX10_laysCauses_80 e11 ?_
      refine q_iload_n 2 rfl dX10_laysCauses_83 ?_
      refine q_bind hyp (fun x12 e13 hyp => ?_)
      refine q_iald dX10_laysCauses_84 e13 ?_
      refine q_iload_n 3 rfl dX10_laysCauses_85 ?_
      refine q_ishr dX10_laysCauses_86 ?_
      refine q_iconst (x := 1) rfl dX10_laysCauses_87 ?_
      refine q_iand dX10_laysCauses_88 ?_
      refine q_iconst (x := 1) rfl dX10_laysCauses_89 ?_
      refine q_icmp_ne (tgt := 102) dX10_laysCauses_90 (by decide) (fun c14 => ?_) (fun c14 => ?_)
      · have hyp := q_neg c14 hyp
        refine q_iconst (x := 0) rfl dX10_laysCauses_102 ?_
        exact q_sub [0, 1, 2, 3] rfl (okX10_laysCauses_b103 ih hyp)
      · have hyp := q_pos c14 hyp
        refine q_aload_n 0 rfl dX10_laysCauses_93 ?_
        refine q_bind hyp (fun x15 e16 hyp => ?_)
        refine q_getR kF_X10_117 dX10_laysCauses_94 e16 ?_
        refine q_iload_n 3 rfl dX10_laysCauses_97 ?_
        refine q_bind hyp (fun x17 e18 hyp => ?_)
        refine q_iald dX10_laysCauses_98 e18 ?_
        refine q_goto (tgt := 103) dX10_laysCauses_99 (by decide) ?_
        exact q_sub [0, 1, 2, 3] rfl (okX10_laysCauses_b103 ih hyp)
def fX10_laysCauses_b50 (n : Nat) (K42 : Nat → Int32 → qH → Option (qH)) : Nat → Nat → Int32 → Int32 → qH → Option (qH)
  | 0, _, _, _, _ => none
  | w + 1, v0, v1, v2, h =>
    (gR h v0 10 10).bind fun x1 =>
    (aI .int h x1 0).bind fun x3 =>
    if x3 ≤ v2 then
    (K42 v0 (v1 + 1) h)
    else
    (fX10_laysCauses_b62 n (fX10_laysCauses_b50 n K42 w) n v0 v1 v2 0 h)
set_option maxHeartbeats 4000000 in
set_option maxRecDepth 100000 in
theorem okX10_laysCauses_b50 {l : Launch} {n : Nat} {K42 : Nat → Int32 → qH → Option (qH)} {h' : qH} (hK42 : ∀ (v0 : Nat) (v1 : Int32) (h : qH), K42 v0 v1 h = some h' → q_W l 1 yX10_laysCauses cX10_laysCauses 4 none none h' 42 [(0, .ref v0), (1, .int v1)] [] h) : ∀ (w : Nat) (v0 : Nat) (v1 : Int32) (v2 : Int32) (h : qH), fX10_laysCauses_b50 n K42 w v0 v1 v2 h = some h' → q_W l 1 yX10_laysCauses cX10_laysCauses 4 none none h' 50 [(0, .ref v0), (1, .int v1), (2, .int v2)] [] h := by
  intro w
  induction w with
  | zero => intro v0 v1 v2 h hyp; cases hyp
  | succ w ih =>
    intro v0 v1 v2 h hyp
    unfold fX10_laysCauses_b50 at hyp
    refine q_iload_n 2 rfl dX10_laysCauses_50 ?_
    refine q_aload_n 0 rfl dX10_laysCauses_51 ?_
    refine q_bind hyp (fun x1 e2 hyp => ?_)
    refine q_getR kF_X10_13 dX10_laysCauses_52 e2 ?_
    refine q_iconst (x := 0) rfl dX10_laysCauses_55 ?_
    refine q_bind hyp (fun x3 e4 hyp => ?_)
    refine q_iald dX10_laysCauses_56 e4 ?_
    refine q_icmp_ge (tgt := 117) dX10_laysCauses_57 (by decide) (fun c5 => ?_) (fun c5 => ?_)
    · have hyp := q_pos c5 hyp
      refine q_iinc (ls' := [(1, .int (v1 + 1)), (0, .ref v0), (2, .int v2)]) 1 rfl rfl (by decide) rfl dX10_laysCauses_117 ?_
      refine q_goto (tgt := 42) dX10_laysCauses_120 (by decide) ?_
      exact q_sub [1, 0] rfl (hK42 v0 (v1 + 1) h hyp)
    · have hyp := q_neg c5 hyp
      refine q_iconst (x := 0) rfl dX10_laysCauses_60 ?_
      refine q_istore_n (ls' := [(3, .int 0), (0, .ref v0), (1, .int v1), (2, .int v2)]) (by decide) rfl dX10_laysCauses_61 ?_
      exact q_sub [1, 2, 3, 0] rfl (okX10_laysCauses_b62 ih _ v0 v1 v2 0 h hyp)
def fX10_laysCauses_b42 (n : Nat) : Nat → Nat → Int32 → qH → Option (qH)
  | 0, _, _, _ => none
  | w + 1, v0, v1, h =>
    if 7 ≤ v1 then
    (some h)
    else
    (fX10_laysCauses_b50 n (fX10_laysCauses_b42 n w) n v0 v1 0 h)
set_option maxHeartbeats 4000000 in
set_option maxRecDepth 100000 in
theorem okX10_laysCauses_b42 {l : Launch} {n : Nat} {h' : qH} : ∀ (w : Nat) (v0 : Nat) (v1 : Int32) (h : qH), fX10_laysCauses_b42 n w v0 v1 h = some h' → q_W l 1 yX10_laysCauses cX10_laysCauses 4 none none h' 42 [(0, .ref v0), (1, .int v1)] [] h := by
  intro w
  induction w with
  | zero => intro v0 v1 h hyp; cases hyp
  | succ w ih =>
    intro v0 v1 h hyp
    unfold fX10_laysCauses_b42 at hyp
    refine q_iload_n 1 rfl dX10_laysCauses_42 ?_
    refine q_bipush (x := 7) (by decide) dX10_laysCauses_43 ?_
    refine q_icmp_ge (tgt := 123) dX10_laysCauses_45 (by decide) (fun c1 => ?_) (fun c1 => ?_)
    · have hyp := q_pos c1 hyp
      exact q_vretH rfl dX10_laysCauses_123 hyp
    · have hyp := q_neg c1 hyp
      refine q_iconst (x := 0) rfl dX10_laysCauses_48 ?_
      refine q_istore_n (ls' := [(2, .int 0), (0, .ref v0), (1, .int v1)]) (by decide) rfl dX10_laysCauses_49 ?_
      exact q_sub [1, 2, 0] rfl (okX10_laysCauses_b50 ih _ v0 v1 0 h hyp)
def fX10_laysCauses_b33 (n : Nat) (K2 : Nat → Int32 → qH → Option (qH)) (v0 : Nat) (v1 : Int32) (s0 : Int32) (s1 : Int32) (s2 : Nat) (h : qH) : Option (qH) :=
  (sI .int h s2 s1 s0).bind fun h1 =>
  K2 v0 (v1 + 1) h1
set_option maxHeartbeats 4000000 in
set_option maxRecDepth 100000 in
theorem okX10_laysCauses_b33 {l : Launch} {n : Nat} {K2 : Nat → Int32 → qH → Option (qH)} {v0 : Nat} {v1 : Int32} {s0 : Int32} {s1 : Int32} {s2 : Nat} {h : qH} {h' : qH} (hK2 : ∀ (v0 : Nat) (v1 : Int32) (h : qH), K2 v0 v1 h = some h' → q_W l 1 yX10_laysCauses cX10_laysCauses 4 none none h' 2 [(0, .ref v0), (1, .int v1)] [] h) (hyp : fX10_laysCauses_b33 n K2 v0 v1 s0 s1 s2 h = some h') : q_W l 1 yX10_laysCauses cX10_laysCauses 4 none none h' 33 [(0, .ref v0), (1, .int v1)] [.int s0, .int s1, .ref s2] h := by
  unfold fX10_laysCauses_b33 at hyp
  refine q_bind hyp (fun h1 e2 hyp => ?_)
  refine q_iast dX10_laysCauses_33 e2 ?_
  refine q_iinc (ls' := [(1, .int (v1 + 1)), (0, .ref v0)]) 1 rfl rfl (by decide) rfl dX10_laysCauses_34 ?_
  refine q_goto (tgt := 2) dX10_laysCauses_37 (by decide) ?_
  exact q_sub [1, 0] rfl (hK2 v0 (v1 + 1) h1 hyp)
def fX10_laysCauses_b2 (n : Nat) : Nat → Nat → Int32 → qH → Option (qH)
  | 0, _, _, _ => none
  | w + 1, v0, v1, h =>
    if 7 ≤ v1 then
    (fX10_laysCauses_b42 n n v0 0 h)
    else
    ((gR h v0 10 48).bind fun x2 =>
    (gR h v0 10 10).bind fun x4 =>
    (aI .int h x4 0).bind fun x6 =>
    if x6 ≤ v1 then
    (fX10_laysCauses_b33 n (fX10_laysCauses_b2 n w) v0 v1 0 v1 x2 h)
    else
    ((gR h v0 10 15).bind fun x9 =>
    (aI .int h x9 v1).bind fun x11 =>
    fX10_laysCauses_b33 n (fX10_laysCauses_b2 n w) v0 v1 x11 v1 x2 h))
set_option maxHeartbeats 4000000 in
set_option maxRecDepth 100000 in
theorem okX10_laysCauses_b2 {l : Launch} {n : Nat} {h' : qH} : ∀ (w : Nat) (v0 : Nat) (v1 : Int32) (h : qH), fX10_laysCauses_b2 n w v0 v1 h = some h' → q_W l 1 yX10_laysCauses cX10_laysCauses 4 none none h' 2 [(0, .ref v0), (1, .int v1)] [] h := by
  intro w
  induction w with
  | zero => intro v0 v1 h hyp; cases hyp
  | succ w ih =>
    intro v0 v1 h hyp
    unfold fX10_laysCauses_b2 at hyp
    refine q_iload_n 1 rfl dX10_laysCauses_2 ?_
    refine q_bipush (x := 7) (by decide) dX10_laysCauses_3 ?_
    refine q_icmp_ge (tgt := 40) dX10_laysCauses_5 (by decide) (fun c1 => ?_) (fun c1 => ?_)
    · have hyp := q_pos c1 hyp
      refine q_iconst (x := 0) rfl dX10_laysCauses_40 ?_
      refine q_istore_n (ls' := [(1, .int 0), (0, .ref v0)]) (by decide) rfl dX10_laysCauses_41 ?_
      exact q_sub [1, 0] rfl (okX10_laysCauses_b42 _ v0 0 h hyp)
    · have hyp := q_neg c1 hyp
      refine q_aload_n 0 rfl dX10_laysCauses_8 ?_
      refine q_bind hyp (fun x2 e3 hyp => ?_)
      refine q_getR kF_X10_117 dX10_laysCauses_9 e3 ?_
      refine q_iload_n 1 rfl dX10_laysCauses_12 ?_
      refine q_iload_n 1 rfl dX10_laysCauses_13 ?_
      refine q_aload_n 0 rfl dX10_laysCauses_14 ?_
      refine q_bind hyp (fun x4 e5 hyp => ?_)
      refine q_getR kF_X10_13 dX10_laysCauses_15 e5 ?_
      refine q_iconst (x := 0) rfl dX10_laysCauses_18 ?_
      refine q_bind hyp (fun x6 e7 hyp => ?_)
      refine q_iald dX10_laysCauses_19 e7 ?_
      refine q_icmp_ge (tgt := 32) dX10_laysCauses_20 (by decide) (fun c8 => ?_) (fun c8 => ?_)
      · have hyp := q_pos c8 hyp
        refine q_iconst (x := 0) rfl dX10_laysCauses_32 ?_
        exact q_sub [0, 1] rfl (okX10_laysCauses_b33 ih hyp)
      · have hyp := q_neg c8 hyp
        refine q_aload_n 0 rfl dX10_laysCauses_23 ?_
        refine q_bind hyp (fun x9 e10 hyp => ?_)
        refine q_getR kF_X10_29 dX10_laysCauses_24 e10 ?_
        refine q_iload_n 1 rfl dX10_laysCauses_27 ?_
        refine q_bind hyp (fun x11 e12 hyp => ?_)
        refine q_iald dX10_laysCauses_28 e12 ?_
        refine q_goto (tgt := 33) dX10_laysCauses_29 (by decide) ?_
        exact q_sub [0, 1] rfl (okX10_laysCauses_b33 ih hyp)
def fX10_laysCauses (n : Nat) (v0 : Nat) (h : qH) : Option (qH) :=
  (isO h v0 10).bind fun _ =>
  fX10_laysCauses_b2 n n v0 0 h
theorem obX10_laysCauses {n : Nat} {v0 : Nat} {h : qH} {p : qH} (hyp : fX10_laysCauses n v0 h = some p) : ∃ fs, h.1 v0 = some (.inr (10, fs)) := by
  unfold fX10_laysCauses at hyp
  exact q_bind hyp (fun _ e _ => isO_some e)
set_option maxHeartbeats 4000000 in
set_option maxRecDepth 100000 in
theorem okX10_laysCauses {l : Launch} {n : Nat} {v0 : Nat} {h : qH} {h' : qH} (hyp : fX10_laysCauses n v0 h = some h') : q_M l 1 yX10_laysCauses cX10_laysCauses 4 none [.ref v0] h none h' := by
  unfold fX10_laysCauses at hyp
  refine q_bind hyp (fun _ _ hyp => ?_)
  refine q_M.of (by decide) (Nat.le_of_ble_eq_true rfl) ?_
  refine q_to (ls' := [(0, .ref v0)]) (st' := []) rfl rfl ?_
  refine q_iconst (x := 0) rfl dX10_laysCauses_0 ?_
  refine q_istore_n (ls' := [(1, .int 0), (0, .ref v0)]) (by decide) rfl dX10_laysCauses_1 ?_
  exact q_sub [1, 0] rfl (okX10_laysCauses_b2 _ v0 0 h hyp)
theorem dX10_laysLines_0 : decode cX10_laysLines 0 = .ok (.aload_n 0, 1) := by decide +kernel
theorem dX10_laysLines_1 : decode cX10_laysLines 1 = .ok (.getfield 78, 3) := by decide +kernel
theorem dX10_laysLines_4 : decode cX10_laysLines 4 = .ok (.iload_n 2, 1) := by decide +kernel
theorem dX10_laysLines_5 : decode cX10_laysLines 5 = .ok (.aload_n 0, 1) := by decide +kernel
theorem dX10_laysLines_6 : decode cX10_laysLines 6 = .ok (.getfield 78, 3) := by decide +kernel
theorem dX10_laysLines_9 : decode cX10_laysLines 9 = .ok (.iload_n 1, 1) := by decide +kernel
theorem dX10_laysLines_10 : decode cX10_laysLines 10 = .ok (.iaload, 1) := by decide +kernel
theorem dX10_laysLines_11 : decode cX10_laysLines 11 = .ok (.iastore, 1) := by decide +kernel
theorem dX10_laysLines_12 : decode cX10_laysLines 12 = .ok (.iconst 0, 1) := by decide +kernel
theorem dX10_laysLines_13 : decode cX10_laysLines 13 = .ok (.istore_n 3, 1) := by decide +kernel
theorem dX10_laysLines_14 : decode cX10_laysLines 14 = .ok (.iload_n 3, 1) := by decide +kernel
theorem dX10_laysLines_15 : decode cX10_laysLines 15 = .ok (.bipush 40, 2) := by decide +kernel
theorem dX10_laysLines_17 : decode cX10_laysLines 17 = .ok (.if_icmp .ge 53, 3) := by decide +kernel
theorem dX10_laysLines_20 : decode cX10_laysLines 20 = .ok (.aload_n 0, 1) := by decide +kernel
theorem dX10_laysLines_21 : decode cX10_laysLines 21 = .ok (.getfield 81, 3) := by decide +kernel
theorem dX10_laysLines_24 : decode cX10_laysLines 24 = .ok (.bipush 40, 2) := by decide +kernel
theorem dX10_laysLines_26 : decode cX10_laysLines 26 = .ok (.iload_n 2, 1) := by decide +kernel
theorem dX10_laysLines_27 : decode cX10_laysLines 27 = .ok (.imul, 1) := by decide +kernel
theorem dX10_laysLines_28 : decode cX10_laysLines 28 = .ok (.iload_n 3, 1) := by decide +kernel
theorem dX10_laysLines_29 : decode cX10_laysLines 29 = .ok (.iadd, 1) := by decide +kernel
theorem dX10_laysLines_30 : decode cX10_laysLines 30 = .ok (.aload_n 0, 1) := by decide +kernel
theorem dX10_laysLines_31 : decode cX10_laysLines 31 = .ok (.getfield 81, 3) := by decide +kernel
theorem dX10_laysLines_34 : decode cX10_laysLines 34 = .ok (.bipush 40, 2) := by decide +kernel
theorem dX10_laysLines_36 : decode cX10_laysLines 36 = .ok (.iload_n 1, 1) := by decide +kernel
theorem dX10_laysLines_37 : decode cX10_laysLines 37 = .ok (.imul, 1) := by decide +kernel
theorem dX10_laysLines_38 : decode cX10_laysLines 38 = .ok (.iload_n 3, 1) := by decide +kernel
theorem dX10_laysLines_39 : decode cX10_laysLines 39 = .ok (.iadd, 1) := by decide +kernel
theorem dX10_laysLines_40 : decode cX10_laysLines 40 = .ok (.iaload, 1) := by decide +kernel
theorem dX10_laysLines_41 : decode cX10_laysLines 41 = .ok (.iastore, 1) := by decide +kernel
theorem dX10_laysLines_42 : decode cX10_laysLines 42 = .ok (.aload_n 0, 1) := by decide +kernel
theorem dX10_laysLines_43 : decode cX10_laysLines 43 = .ok (.getfield 84, 3) := by decide +kernel
theorem dX10_laysLines_46 : decode cX10_laysLines 46 = .ok (.bipush 40, 2) := by decide +kernel
theorem dX10_laysLines_48 : decode cX10_laysLines 48 = .ok (.iload_n 2, 1) := by decide +kernel
theorem dX10_laysLines_49 : decode cX10_laysLines 49 = .ok (.imul, 1) := by decide +kernel
theorem dX10_laysLines_50 : decode cX10_laysLines 50 = .ok (.iload_n 3, 1) := by decide +kernel
theorem dX10_laysLines_51 : decode cX10_laysLines 51 = .ok (.iadd, 1) := by decide +kernel
theorem dX10_laysLines_52 : decode cX10_laysLines 52 = .ok (.aload_n 0, 1) := by decide +kernel
theorem dX10_laysLines_53 : decode cX10_laysLines 53 = .ok (.getfield 84, 3) := by decide +kernel
theorem dX10_laysLines_56 : decode cX10_laysLines 56 = .ok (.bipush 40, 2) := by decide +kernel
theorem dX10_laysLines_58 : decode cX10_laysLines 58 = .ok (.iload_n 1, 1) := by decide +kernel
theorem dX10_laysLines_59 : decode cX10_laysLines 59 = .ok (.imul, 1) := by decide +kernel
theorem dX10_laysLines_60 : decode cX10_laysLines 60 = .ok (.iload_n 3, 1) := by decide +kernel
theorem dX10_laysLines_61 : decode cX10_laysLines 61 = .ok (.iadd, 1) := by decide +kernel
theorem dX10_laysLines_62 : decode cX10_laysLines 62 = .ok (.iaload, 1) := by decide +kernel
theorem dX10_laysLines_63 : decode cX10_laysLines 63 = .ok (.iastore, 1) := by decide +kernel
theorem dX10_laysLines_64 : decode cX10_laysLines 64 = .ok (.iinc 3 1, 3) := by decide +kernel
theorem dX10_laysLines_67 : decode cX10_laysLines 67 = .ok (.goto (-53), 3) := by decide +kernel
theorem dX10_laysLines_70 : decode cX10_laysLines 70 = .ok (.return_, 1) := by decide +kernel
def fX10_laysLines_b14 (n : Nat) : Nat → Nat → Int32 → Int32 → Int32 → qH → Option (qH)
  | 0, _, _, _, _, _ => none
  | w + 1, v0, v1, v2, v3, h =>
    if 40 ≤ v3 then
    (some h)
    else
    ((gR h v0 10 35).bind fun x2 =>
    (gR h v0 10 35).bind fun x4 =>
    (aI .int h x4 ((40 * v1) + v3)).bind fun x6 =>
    (sI .int h x2 ((40 * v2) + v3) x6).bind fun h8 =>
    (gR h8 v0 10 36).bind fun x10 =>
    (gR h8 v0 10 36).bind fun x12 =>
    (aI .int h8 x12 ((40 * v1) + v3)).bind fun x14 =>
    (sI .int h8 x10 ((40 * v2) + v3) x14).bind fun h16 =>
    fX10_laysLines_b14 n w v0 v1 v2 (v3 + 1) h16)
set_option maxHeartbeats 4000000 in
set_option maxRecDepth 100000 in
theorem okX10_laysLines_b14 {l : Launch} {n : Nat} {h' : qH} : ∀ (w : Nat) (v0 : Nat) (v1 : Int32) (v2 : Int32) (v3 : Int32) (h : qH), fX10_laysLines_b14 n w v0 v1 v2 v3 h = some h' → q_W l 1 yX10_laysLines cX10_laysLines 4 none none h' 14 [(0, .ref v0), (1, .int v1), (2, .int v2), (3, .int v3)] [] h := by
  intro w
  induction w with
  | zero => intro v0 v1 v2 v3 h hyp; cases hyp
  | succ w ih =>
    intro v0 v1 v2 v3 h hyp
    unfold fX10_laysLines_b14 at hyp
    refine q_iload_n 3 rfl dX10_laysLines_14 ?_
    refine q_bipush (x := 40) (by decide) dX10_laysLines_15 ?_
    refine q_icmp_ge (tgt := 70) dX10_laysLines_17 (by decide) (fun c1 => ?_) (fun c1 => ?_)
    · have hyp := q_pos c1 hyp
      exact q_vretH rfl dX10_laysLines_70 hyp
    · have hyp := q_neg c1 hyp
      refine q_aload_n 0 rfl dX10_laysLines_20 ?_
      refine q_bind hyp (fun x2 e3 hyp => ?_)
      refine q_getR kF_X10_81 dX10_laysLines_21 e3 ?_
      refine q_bipush (x := 40) (by decide) dX10_laysLines_24 ?_
      refine q_iload_n 2 rfl dX10_laysLines_26 ?_
      refine q_imul dX10_laysLines_27 ?_
      refine q_iload_n 3 rfl dX10_laysLines_28 ?_
      refine q_iadd dX10_laysLines_29 ?_
      refine q_aload_n 0 rfl dX10_laysLines_30 ?_
      refine q_bind hyp (fun x4 e5 hyp => ?_)
      refine q_getR kF_X10_81 dX10_laysLines_31 e5 ?_
      refine q_bipush (x := 40) (by decide) dX10_laysLines_34 ?_
      refine q_iload_n 1 rfl dX10_laysLines_36 ?_
      refine q_imul dX10_laysLines_37 ?_
      refine q_iload_n 3 rfl dX10_laysLines_38 ?_
      refine q_iadd dX10_laysLines_39 ?_
      refine q_bind hyp (fun x6 e7 hyp => ?_)
      refine q_iald dX10_laysLines_40 e7 ?_
      refine q_bind hyp (fun h8 e9 hyp => ?_)
      refine q_iast dX10_laysLines_41 e9 ?_
      refine q_aload_n 0 rfl dX10_laysLines_42 ?_
      refine q_bind hyp (fun x10 e11 hyp => ?_)
      refine q_getR kF_X10_84 dX10_laysLines_43 e11 ?_
      refine q_bipush (x := 40) (by decide) dX10_laysLines_46 ?_
      refine q_iload_n 2 rfl dX10_laysLines_48 ?_
      refine q_imul dX10_laysLines_49 ?_
      refine q_iload_n 3 rfl dX10_laysLines_50 ?_
      refine q_iadd dX10_laysLines_51 ?_
      refine q_aload_n 0 rfl dX10_laysLines_52 ?_
      refine q_bind hyp (fun x12 e13 hyp => ?_)
      refine q_getR kF_X10_84 dX10_laysLines_53 e13 ?_
      refine q_bipush (x := 40) (by decide) dX10_laysLines_56 ?_
      refine q_iload_n 1 rfl dX10_laysLines_58 ?_
      refine q_imul dX10_laysLines_59 ?_
      refine q_iload_n 3 rfl dX10_laysLines_60 ?_
      refine q_iadd dX10_laysLines_61 ?_
      refine q_bind hyp (fun x14 e15 hyp => ?_)
      refine q_iald dX10_laysLines_62 e15 ?_
      refine q_bind hyp (fun h16 e17 hyp => ?_)
      refine q_iast dX10_laysLines_63 e17 ?_
      refine q_iinc (ls' := [(3, .int (v3 + 1)), (0, .ref v0), (1, .int v1), (2, .int v2)]) 3 rfl rfl (by decide) rfl dX10_laysLines_64 ?_
      refine q_goto (tgt := 14) dX10_laysLines_67 (by decide) ?_
      exact q_sub [1, 2, 3, 0] rfl (ih v0 v1 v2 (v3 + 1) h16 hyp)
def fX10_laysLines (n : Nat) (v0 : Nat) (v1 : Int32) (v2 : Int32) (h : qH) : Option (qH) :=
  (isO h v0 10).bind fun _ =>
  (gR h v0 10 34).bind fun x1 =>
  (gR h v0 10 34).bind fun x3 =>
  (aI .int h x3 v1).bind fun x5 =>
  (sI .int h x1 v2 x5).bind fun h7 =>
  fX10_laysLines_b14 n n v0 v1 v2 0 h7
theorem obX10_laysLines {n : Nat} {v0 : Nat} {v1 : Int32} {v2 : Int32} {h : qH} {p : qH} (hyp : fX10_laysLines n v0 v1 v2 h = some p) : ∃ fs, h.1 v0 = some (.inr (10, fs)) := by
  unfold fX10_laysLines at hyp
  exact q_bind hyp (fun _ e _ => isO_some e)
set_option maxHeartbeats 4000000 in
set_option maxRecDepth 100000 in
theorem okX10_laysLines {l : Launch} {n : Nat} {v0 : Nat} {v1 : Int32} {v2 : Int32} {h : qH} {h' : qH} (hyp : fX10_laysLines n v0 v1 v2 h = some h') : q_M l 1 yX10_laysLines cX10_laysLines 4 none [.ref v0, .int v1, .int v2] h none h' := by
  unfold fX10_laysLines at hyp
  refine q_bind hyp (fun _ _ hyp => ?_)
  refine q_M.of (by decide) (Nat.le_of_ble_eq_true rfl) ?_
  refine q_to (ls' := [(0, .ref v0), (1, .int v1), (2, .int v2)]) (st' := []) rfl rfl ?_
  refine q_aload_n 0 rfl dX10_laysLines_0 ?_
  refine q_bind hyp (fun x1 e2 hyp => ?_)
  refine q_getR kF_X10_78 dX10_laysLines_1 e2 ?_
  refine q_iload_n 2 rfl dX10_laysLines_4 ?_
  refine q_aload_n 0 rfl dX10_laysLines_5 ?_
  refine q_bind hyp (fun x3 e4 hyp => ?_)
  refine q_getR kF_X10_78 dX10_laysLines_6 e4 ?_
  refine q_iload_n 1 rfl dX10_laysLines_9 ?_
  refine q_bind hyp (fun x5 e6 hyp => ?_)
  refine q_iald dX10_laysLines_10 e6 ?_
  refine q_bind hyp (fun h7 e8 hyp => ?_)
  refine q_iast dX10_laysLines_11 e8 ?_
  refine q_iconst (x := 0) rfl dX10_laysLines_12 ?_
  refine q_istore_n (ls' := [(3, .int 0), (0, .ref v0), (1, .int v1), (2, .int v2)]) (by decide) rfl dX10_laysLines_13 ?_
  exact q_sub [1, 2, 3, 0] rfl (okX10_laysLines_b14 _ v0 v1 v2 0 h7 hyp)
theorem dX10_laysSeen_0 : decode cX10_laysSeen 0 = .ok (.aload_n 0, 1) := by decide +kernel
theorem dX10_laysSeen_1 : decode cX10_laysSeen 1 = .ok (.getfield 87, 3) := by decide +kernel
theorem dX10_laysSeen_4 : decode cX10_laysSeen 4 = .ok (.iload_n 2, 1) := by decide +kernel
theorem dX10_laysSeen_5 : decode cX10_laysSeen 5 = .ok (.aload_n 0, 1) := by decide +kernel
theorem dX10_laysSeen_6 : decode cX10_laysSeen 6 = .ok (.getfield 87, 3) := by decide +kernel
theorem dX10_laysSeen_9 : decode cX10_laysSeen 9 = .ok (.iload_n 1, 1) := by decide +kernel
theorem dX10_laysSeen_10 : decode cX10_laysSeen 10 = .ok (.iaload, 1) := by decide +kernel
theorem dX10_laysSeen_11 : decode cX10_laysSeen 11 = .ok (.iastore, 1) := by decide +kernel
theorem dX10_laysSeen_12 : decode cX10_laysSeen 12 = .ok (.iconst 0, 1) := by decide +kernel
theorem dX10_laysSeen_13 : decode cX10_laysSeen 13 = .ok (.istore_n 3, 1) := by decide +kernel
theorem dX10_laysSeen_14 : decode cX10_laysSeen 14 = .ok (.iload_n 3, 1) := by decide +kernel
theorem dX10_laysSeen_15 : decode cX10_laysSeen 15 = .ok (.bipush 8, 2) := by decide +kernel
theorem dX10_laysSeen_17 : decode cX10_laysSeen 17 = .ok (.if_icmp .ge 75, 3) := by decide +kernel
theorem dX10_laysSeen_20 : decode cX10_laysSeen 20 = .ok (.aload_n 0, 1) := by decide +kernel
theorem dX10_laysSeen_21 : decode cX10_laysSeen 21 = .ok (.getfield 90, 3) := by decide +kernel
theorem dX10_laysSeen_24 : decode cX10_laysSeen 24 = .ok (.bipush 8, 2) := by decide +kernel
theorem dX10_laysSeen_26 : decode cX10_laysSeen 26 = .ok (.iload_n 2, 1) := by decide +kernel
theorem dX10_laysSeen_27 : decode cX10_laysSeen 27 = .ok (.imul, 1) := by decide +kernel
theorem dX10_laysSeen_28 : decode cX10_laysSeen 28 = .ok (.iload_n 3, 1) := by decide +kernel
theorem dX10_laysSeen_29 : decode cX10_laysSeen 29 = .ok (.iadd, 1) := by decide +kernel
theorem dX10_laysSeen_30 : decode cX10_laysSeen 30 = .ok (.aload_n 0, 1) := by decide +kernel
theorem dX10_laysSeen_31 : decode cX10_laysSeen 31 = .ok (.getfield 90, 3) := by decide +kernel
theorem dX10_laysSeen_34 : decode cX10_laysSeen 34 = .ok (.bipush 8, 2) := by decide +kernel
theorem dX10_laysSeen_36 : decode cX10_laysSeen 36 = .ok (.iload_n 1, 1) := by decide +kernel
theorem dX10_laysSeen_37 : decode cX10_laysSeen 37 = .ok (.imul, 1) := by decide +kernel
theorem dX10_laysSeen_38 : decode cX10_laysSeen 38 = .ok (.iload_n 3, 1) := by decide +kernel
theorem dX10_laysSeen_39 : decode cX10_laysSeen 39 = .ok (.iadd, 1) := by decide +kernel
theorem dX10_laysSeen_40 : decode cX10_laysSeen 40 = .ok (.iaload, 1) := by decide +kernel
theorem dX10_laysSeen_41 : decode cX10_laysSeen 41 = .ok (.iastore, 1) := by decide +kernel
theorem dX10_laysSeen_42 : decode cX10_laysSeen 42 = .ok (.aload_n 0, 1) := by decide +kernel
theorem dX10_laysSeen_43 : decode cX10_laysSeen 43 = .ok (.getfield 93, 3) := by decide +kernel
theorem dX10_laysSeen_46 : decode cX10_laysSeen 46 = .ok (.bipush 8, 2) := by decide +kernel
theorem dX10_laysSeen_48 : decode cX10_laysSeen 48 = .ok (.iload_n 2, 1) := by decide +kernel
theorem dX10_laysSeen_49 : decode cX10_laysSeen 49 = .ok (.imul, 1) := by decide +kernel
theorem dX10_laysSeen_50 : decode cX10_laysSeen 50 = .ok (.iload_n 3, 1) := by decide +kernel
theorem dX10_laysSeen_51 : decode cX10_laysSeen 51 = .ok (.iadd, 1) := by decide +kernel
theorem dX10_laysSeen_52 : decode cX10_laysSeen 52 = .ok (.aload_n 0, 1) := by decide +kernel
theorem dX10_laysSeen_53 : decode cX10_laysSeen 53 = .ok (.getfield 93, 3) := by decide +kernel
theorem dX10_laysSeen_56 : decode cX10_laysSeen 56 = .ok (.bipush 8, 2) := by decide +kernel
theorem dX10_laysSeen_58 : decode cX10_laysSeen 58 = .ok (.iload_n 1, 1) := by decide +kernel
theorem dX10_laysSeen_59 : decode cX10_laysSeen 59 = .ok (.imul, 1) := by decide +kernel
theorem dX10_laysSeen_60 : decode cX10_laysSeen 60 = .ok (.iload_n 3, 1) := by decide +kernel
theorem dX10_laysSeen_61 : decode cX10_laysSeen 61 = .ok (.iadd, 1) := by decide +kernel
theorem dX10_laysSeen_62 : decode cX10_laysSeen 62 = .ok (.iaload, 1) := by decide +kernel
theorem dX10_laysSeen_63 : decode cX10_laysSeen 63 = .ok (.iastore, 1) := by decide +kernel
theorem dX10_laysSeen_64 : decode cX10_laysSeen 64 = .ok (.aload_n 0, 1) := by decide +kernel
theorem dX10_laysSeen_65 : decode cX10_laysSeen 65 = .ok (.getfield 96, 3) := by decide +kernel
theorem dX10_laysSeen_68 : decode cX10_laysSeen 68 = .ok (.bipush 8, 2) := by decide +kernel
theorem dX10_laysSeen_70 : decode cX10_laysSeen 70 = .ok (.iload_n 2, 1) := by decide +kernel
theorem dX10_laysSeen_71 : decode cX10_laysSeen 71 = .ok (.imul, 1) := by decide +kernel
theorem dX10_laysSeen_72 : decode cX10_laysSeen 72 = .ok (.iload_n 3, 1) := by decide +kernel
theorem dX10_laysSeen_73 : decode cX10_laysSeen 73 = .ok (.iadd, 1) := by decide +kernel
theorem dX10_laysSeen_74 : decode cX10_laysSeen 74 = .ok (.aload_n 0, 1) := by decide +kernel
theorem dX10_laysSeen_75 : decode cX10_laysSeen 75 = .ok (.getfield 96, 3) := by decide +kernel
theorem dX10_laysSeen_78 : decode cX10_laysSeen 78 = .ok (.bipush 8, 2) := by decide +kernel
theorem dX10_laysSeen_80 : decode cX10_laysSeen 80 = .ok (.iload_n 1, 1) := by decide +kernel
theorem dX10_laysSeen_81 : decode cX10_laysSeen 81 = .ok (.imul, 1) := by decide +kernel
theorem dX10_laysSeen_82 : decode cX10_laysSeen 82 = .ok (.iload_n 3, 1) := by decide +kernel
theorem dX10_laysSeen_83 : decode cX10_laysSeen 83 = .ok (.iadd, 1) := by decide +kernel
theorem dX10_laysSeen_84 : decode cX10_laysSeen 84 = .ok (.baload, 1) := by decide +kernel
theorem dX10_laysSeen_85 : decode cX10_laysSeen 85 = .ok (.bastore, 1) := by decide +kernel
theorem dX10_laysSeen_86 : decode cX10_laysSeen 86 = .ok (.iinc 3 1, 3) := by decide +kernel
theorem dX10_laysSeen_89 : decode cX10_laysSeen 89 = .ok (.goto (-75), 3) := by decide +kernel
theorem dX10_laysSeen_92 : decode cX10_laysSeen 92 = .ok (.return_, 1) := by decide +kernel
def fX10_laysSeen_b14 (n : Nat) : Nat → Nat → Int32 → Int32 → Int32 → qH → Option (qH)
  | 0, _, _, _, _, _ => none
  | w + 1, v0, v1, v2, v3, h =>
    if 8 ≤ v3 then
    (some h)
    else
    ((gR h v0 10 38).bind fun x2 =>
    (gR h v0 10 38).bind fun x4 =>
    (aI .int h x4 ((8 * v1) + v3)).bind fun x6 =>
    (sI .int h x2 ((8 * v2) + v3) x6).bind fun h8 =>
    (gR h8 v0 10 39).bind fun x10 =>
    (gR h8 v0 10 39).bind fun x12 =>
    (aI .int h8 x12 ((8 * v1) + v3)).bind fun x14 =>
    (sI .int h8 x10 ((8 * v2) + v3) x14).bind fun h16 =>
    (gR h16 v0 10 40).bind fun x18 =>
    (gR h16 v0 10 40).bind fun x20 =>
    (aI .boolean h16 x20 ((8 * v1) + v3)).bind fun x22 =>
    (sI .boolean h16 x18 ((8 * v2) + v3) x22).bind fun h24 =>
    fX10_laysSeen_b14 n w v0 v1 v2 (v3 + 1) h24)
set_option maxHeartbeats 4000000 in
set_option maxRecDepth 100000 in
theorem okX10_laysSeen_b14 {l : Launch} {n : Nat} {h' : qH} : ∀ (w : Nat) (v0 : Nat) (v1 : Int32) (v2 : Int32) (v3 : Int32) (h : qH), fX10_laysSeen_b14 n w v0 v1 v2 v3 h = some h' → q_W l 1 yX10_laysSeen cX10_laysSeen 4 none none h' 14 [(0, .ref v0), (1, .int v1), (2, .int v2), (3, .int v3)] [] h := by
  intro w
  induction w with
  | zero => intro v0 v1 v2 v3 h hyp; cases hyp
  | succ w ih =>
    intro v0 v1 v2 v3 h hyp
    unfold fX10_laysSeen_b14 at hyp
    refine q_iload_n 3 rfl dX10_laysSeen_14 ?_
    refine q_bipush (x := 8) (by decide) dX10_laysSeen_15 ?_
    refine q_icmp_ge (tgt := 92) dX10_laysSeen_17 (by decide) (fun c1 => ?_) (fun c1 => ?_)
    · have hyp := q_pos c1 hyp
      exact q_vretH rfl dX10_laysSeen_92 hyp
    · have hyp := q_neg c1 hyp
      refine q_aload_n 0 rfl dX10_laysSeen_20 ?_
      refine q_bind hyp (fun x2 e3 hyp => ?_)
      refine q_getR kF_X10_90 dX10_laysSeen_21 e3 ?_
      refine q_bipush (x := 8) (by decide) dX10_laysSeen_24 ?_
      refine q_iload_n 2 rfl dX10_laysSeen_26 ?_
      refine q_imul dX10_laysSeen_27 ?_
      refine q_iload_n 3 rfl dX10_laysSeen_28 ?_
      refine q_iadd dX10_laysSeen_29 ?_
      refine q_aload_n 0 rfl dX10_laysSeen_30 ?_
      refine q_bind hyp (fun x4 e5 hyp => ?_)
      refine q_getR kF_X10_90 dX10_laysSeen_31 e5 ?_
      refine q_bipush (x := 8) (by decide) dX10_laysSeen_34 ?_
      refine q_iload_n 1 rfl dX10_laysSeen_36 ?_
      refine q_imul dX10_laysSeen_37 ?_
      refine q_iload_n 3 rfl dX10_laysSeen_38 ?_
      refine q_iadd dX10_laysSeen_39 ?_
      refine q_bind hyp (fun x6 e7 hyp => ?_)
      refine q_iald dX10_laysSeen_40 e7 ?_
      refine q_bind hyp (fun h8 e9 hyp => ?_)
      refine q_iast dX10_laysSeen_41 e9 ?_
      refine q_aload_n 0 rfl dX10_laysSeen_42 ?_
      refine q_bind hyp (fun x10 e11 hyp => ?_)
      refine q_getR kF_X10_93 dX10_laysSeen_43 e11 ?_
      refine q_bipush (x := 8) (by decide) dX10_laysSeen_46 ?_
      refine q_iload_n 2 rfl dX10_laysSeen_48 ?_
      refine q_imul dX10_laysSeen_49 ?_
      refine q_iload_n 3 rfl dX10_laysSeen_50 ?_
      refine q_iadd dX10_laysSeen_51 ?_
      refine q_aload_n 0 rfl dX10_laysSeen_52 ?_
      refine q_bind hyp (fun x12 e13 hyp => ?_)
      refine q_getR kF_X10_93 dX10_laysSeen_53 e13 ?_
      refine q_bipush (x := 8) (by decide) dX10_laysSeen_56 ?_
      refine q_iload_n 1 rfl dX10_laysSeen_58 ?_
      refine q_imul dX10_laysSeen_59 ?_
      refine q_iload_n 3 rfl dX10_laysSeen_60 ?_
      refine q_iadd dX10_laysSeen_61 ?_
      refine q_bind hyp (fun x14 e15 hyp => ?_)
      refine q_iald dX10_laysSeen_62 e15 ?_
      refine q_bind hyp (fun h16 e17 hyp => ?_)
      refine q_iast dX10_laysSeen_63 e17 ?_
      refine q_aload_n 0 rfl dX10_laysSeen_64 ?_
      refine q_bind hyp (fun x18 e19 hyp => ?_)
      refine q_getR kF_X10_96 dX10_laysSeen_65 e19 ?_
      refine q_bipush (x := 8) (by decide) dX10_laysSeen_68 ?_
      refine q_iload_n 2 rfl dX10_laysSeen_70 ?_
      refine q_imul dX10_laysSeen_71 ?_
      refine q_iload_n 3 rfl dX10_laysSeen_72 ?_
      refine q_iadd dX10_laysSeen_73 ?_
      refine q_aload_n 0 rfl dX10_laysSeen_74 ?_
      refine q_bind hyp (fun x20 e21 hyp => ?_)
      refine q_getR kF_X10_96 dX10_laysSeen_75 e21 ?_
      refine q_bipush (x := 8) (by decide) dX10_laysSeen_78 ?_
      refine q_iload_n 1 rfl dX10_laysSeen_80 ?_
      refine q_imul dX10_laysSeen_81 ?_
      refine q_iload_n 3 rfl dX10_laysSeen_82 ?_
      refine q_iadd dX10_laysSeen_83 ?_
      refine q_bind hyp (fun x22 e23 hyp => ?_)
      refine q_zald dX10_laysSeen_84 e23 ?_
      refine q_bind hyp (fun h24 e25 hyp => ?_)
      refine q_zast dX10_laysSeen_85 e25 ?_
      refine q_iinc (ls' := [(3, .int (v3 + 1)), (0, .ref v0), (1, .int v1), (2, .int v2)]) 3 rfl rfl (by decide) rfl dX10_laysSeen_86 ?_
      refine q_goto (tgt := 14) dX10_laysSeen_89 (by decide) ?_
      exact q_sub [1, 2, 3, 0] rfl (ih v0 v1 v2 (v3 + 1) h24 hyp)
def fX10_laysSeen (n : Nat) (v0 : Nat) (v1 : Int32) (v2 : Int32) (h : qH) : Option (qH) :=
  (isO h v0 10).bind fun _ =>
  (gR h v0 10 37).bind fun x1 =>
  (gR h v0 10 37).bind fun x3 =>
  (aI .int h x3 v1).bind fun x5 =>
  (sI .int h x1 v2 x5).bind fun h7 =>
  fX10_laysSeen_b14 n n v0 v1 v2 0 h7
theorem obX10_laysSeen {n : Nat} {v0 : Nat} {v1 : Int32} {v2 : Int32} {h : qH} {p : qH} (hyp : fX10_laysSeen n v0 v1 v2 h = some p) : ∃ fs, h.1 v0 = some (.inr (10, fs)) := by
  unfold fX10_laysSeen at hyp
  exact q_bind hyp (fun _ e _ => isO_some e)
set_option maxHeartbeats 4000000 in
set_option maxRecDepth 100000 in
theorem okX10_laysSeen {l : Launch} {n : Nat} {v0 : Nat} {v1 : Int32} {v2 : Int32} {h : qH} {h' : qH} (hyp : fX10_laysSeen n v0 v1 v2 h = some h') : q_M l 1 yX10_laysSeen cX10_laysSeen 4 none [.ref v0, .int v1, .int v2] h none h' := by
  unfold fX10_laysSeen at hyp
  refine q_bind hyp (fun _ _ hyp => ?_)
  refine q_M.of (by decide) (Nat.le_of_ble_eq_true rfl) ?_
  refine q_to (ls' := [(0, .ref v0), (1, .int v1), (2, .int v2)]) (st' := []) rfl rfl ?_
  refine q_aload_n 0 rfl dX10_laysSeen_0 ?_
  refine q_bind hyp (fun x1 e2 hyp => ?_)
  refine q_getR kF_X10_87 dX10_laysSeen_1 e2 ?_
  refine q_iload_n 2 rfl dX10_laysSeen_4 ?_
  refine q_aload_n 0 rfl dX10_laysSeen_5 ?_
  refine q_bind hyp (fun x3 e4 hyp => ?_)
  refine q_getR kF_X10_87 dX10_laysSeen_6 e4 ?_
  refine q_iload_n 1 rfl dX10_laysSeen_9 ?_
  refine q_bind hyp (fun x5 e6 hyp => ?_)
  refine q_iald dX10_laysSeen_10 e6 ?_
  refine q_bind hyp (fun h7 e8 hyp => ?_)
  refine q_iast dX10_laysSeen_11 e8 ?_
  refine q_iconst (x := 0) rfl dX10_laysSeen_12 ?_
  refine q_istore_n (ls' := [(3, .int 0), (0, .ref v0), (1, .int v1), (2, .int v2)]) (by decide) rfl dX10_laysSeen_13 ?_
  exact q_sub [1, 2, 3, 0] rfl (okX10_laysSeen_b14 _ v0 v1 v2 0 h7 hyp)
theorem dX10_sourBy_0 : decode cX10_sourBy 0 = .ok (.aload_n 0, 1) := by decide +kernel
theorem dX10_sourBy_1 : decode cX10_sourBy 1 = .ok (.getfield 99, 3) := by decide +kernel
theorem dX10_sourBy_4 : decode cX10_sourBy 4 = .ok (.iconst 2, 1) := by decide +kernel
theorem dX10_sourBy_5 : decode cX10_sourBy 5 = .ok (.iload_n 1, 1) := by decide +kernel
theorem dX10_sourBy_6 : decode cX10_sourBy 6 = .ok (.iadd, 1) := by decide +kernel
theorem dX10_sourBy_7 : decode cX10_sourBy 7 = .ok (.iaload, 1) := by decide +kernel
theorem dX10_sourBy_8 : decode cX10_sourBy 8 = .ok (.istore_n 3, 1) := by decide +kernel
theorem dX10_sourBy_9 : decode cX10_sourBy 9 = .ok (.iconst 0, 1) := by decide +kernel
theorem dX10_sourBy_10 : decode cX10_sourBy 10 = .ok (.istore 4, 2) := by decide +kernel
theorem dX10_sourBy_12 : decode cX10_sourBy 12 = .ok (.iload 4, 2) := by decide +kernel
theorem dX10_sourBy_14 : decode cX10_sourBy 14 = .ok (.iload_n 2, 1) := by decide +kernel
theorem dX10_sourBy_15 : decode cX10_sourBy 15 = .ok (.if_icmp .ge 44, 3) := by decide +kernel
theorem dX10_sourBy_18 : decode cX10_sourBy 18 = .ok (.aload_n 0, 1) := by decide +kernel
theorem dX10_sourBy_19 : decode cX10_sourBy 19 = .ok (.getfield 20, 3) := by decide +kernel
theorem dX10_sourBy_22 : decode cX10_sourBy 22 = .ok (.iload_n 1, 1) := by decide +kernel
theorem dX10_sourBy_23 : decode cX10_sourBy 23 = .ok (.iaload, 1) := by decide +kernel
theorem dX10_sourBy_24 : decode cX10_sourBy 24 = .ok (.iconst 3, 1) := by decide +kernel
theorem dX10_sourBy_25 : decode cX10_sourBy 25 = .ok (.if_icmp .eq 34, 3) := by decide +kernel
theorem dX10_sourBy_28 : decode cX10_sourBy 28 = .ok (.iconst 0, 1) := by decide +kernel
theorem dX10_sourBy_29 : decode cX10_sourBy 29 = .ok (.iload_n 3, 1) := by decide +kernel
theorem dX10_sourBy_30 : decode cX10_sourBy 30 = .ok (.aload_n 0, 1) := by decide +kernel
theorem dX10_sourBy_31 : decode cX10_sourBy 31 = .ok (.iload_n 1, 1) := by decide +kernel
theorem dX10_sourBy_32 : decode cX10_sourBy 32 = .ok (.iload_n 3, 1) := by decide +kernel
theorem dX10_sourBy_33 : decode cX10_sourBy 33 = .ok (.aload_n 0, 1) := by decide +kernel
theorem dX10_sourBy_34 : decode cX10_sourBy 34 = .ok (.getfield 99, 3) := by decide +kernel
theorem dX10_sourBy_37 : decode cX10_sourBy 37 = .ok (.bipush 9, 2) := by decide +kernel
theorem dX10_sourBy_39 : decode cX10_sourBy 39 = .ok (.iload_n 1, 1) := by decide +kernel
theorem dX10_sourBy_40 : decode cX10_sourBy 40 = .ok (.iadd, 1) := by decide +kernel
theorem dX10_sourBy_41 : decode cX10_sourBy 41 = .ok (.iaload, 1) := by decide +kernel
theorem dX10_sourBy_42 : decode cX10_sourBy 42 = .ok (.iload 4, 2) := by decide +kernel
theorem dX10_sourBy_44 : decode cX10_sourBy 44 = .ok (.iadd, 1) := by decide +kernel
theorem dX10_sourBy_45 : decode cX10_sourBy 45 = .ok (.invokevirtual 334, 3) := by decide +kernel
theorem dX10_sourBy_48 : decode cX10_sourBy 48 = .ok (.isub, 1) := by decide +kernel
theorem dX10_sourBy_49 : decode cX10_sourBy 49 = .ok (.invokestatic 337, 3) := by decide +kernel
theorem dX10_sourBy_52 : decode cX10_sourBy 52 = .ok (.istore_n 3, 1) := by decide +kernel
theorem dX10_sourBy_53 : decode cX10_sourBy 53 = .ok (.iinc 4 1, 3) := by decide +kernel
theorem dX10_sourBy_56 : decode cX10_sourBy 56 = .ok (.goto (-44), 3) := by decide +kernel
theorem dX10_sourBy_59 : decode cX10_sourBy 59 = .ok (.iload_n 3, 1) := by decide +kernel
theorem dX10_sourBy_60 : decode cX10_sourBy 60 = .ok (.ireturn, 1) := by decide +kernel
def fX10_sourBy_b12 (n : Nat) : Nat → Nat → Int32 → Int32 → Int32 → Int32 → qH → Option (Int32 × qH)
  | 0, _, _, _, _, _, _ => none
  | w + 1, v0, v1, v2, v3, v4, h =>
    if v2 ≤ v4 then
    (some (v3, h))
    else
    ((gR h v0 10 12).bind fun x2 =>
    (aI .int h x2 v1).bind fun x4 =>
    if x4 = 3 then
    (some (v3, h))
    else
    ((gR h v0 10 41).bind fun x7 =>
    (aI .int h x7 (9 + v1)).bind fun x9 =>
    (fX10_takenBy n v0 v1 v3 (x9 + v4) h).bind fun p11 =>
    fX10_sourBy_b12 n w v0 v1 v2 (if (0 : Int32) < (v3 - p11.1) then (v3 - p11.1) else (0 : Int32)) (v4 + 1) p11.2))
set_option maxHeartbeats 4000000 in
set_option maxRecDepth 100000 in
theorem okX10_sourBy_b12 {l : Launch} {n : Nat} {r : Int32} {h' : qH} : ∀ (w : Nat) (v0 : Nat) (v1 : Int32) (v2 : Int32) (v3 : Int32) (v4 : Int32) (h : qH), fX10_sourBy_b12 n w v0 v1 v2 v3 v4 h = some (r, h') → q_W l 5 yX10_sourBy cX10_sourBy 5 (some .int) (some (.int r)) h' 12 [(0, .ref v0), (1, .int v1), (2, .int v2), (3, .int v3), (4, .int v4)] [] h := by
  intro w
  induction w with
  | zero => intro v0 v1 v2 v3 v4 h hyp; cases hyp
  | succ w ih =>
    intro v0 v1 v2 v3 v4 h hyp
    unfold fX10_sourBy_b12 at hyp
    refine q_iload 4 rfl dX10_sourBy_12 ?_
    refine q_iload_n 2 rfl dX10_sourBy_14 ?_
    refine q_icmp_ge (tgt := 59) dX10_sourBy_15 (by decide) (fun c1 => ?_) (fun c1 => ?_)
    · have hyp := q_pos c1 hyp
      refine q_iload_n 3 rfl dX10_sourBy_59 ?_
      exact q_iretH rfl rfl dX10_sourBy_60 hyp
    · have hyp := q_neg c1 hyp
      refine q_aload_n 0 rfl dX10_sourBy_18 ?_
      refine q_bind hyp (fun x2 e3 hyp => ?_)
      refine q_getR kF_X10_20 dX10_sourBy_19 e3 ?_
      refine q_iload_n 1 rfl dX10_sourBy_22 ?_
      refine q_bind hyp (fun x4 e5 hyp => ?_)
      refine q_iald dX10_sourBy_23 e5 ?_
      refine q_iconst (x := 3) rfl dX10_sourBy_24 ?_
      refine q_icmp_eq (tgt := 59) dX10_sourBy_25 (by decide) (fun c6 => ?_) (fun c6 => ?_)
      · have hyp := q_pos c6 hyp
        refine q_iload_n 3 rfl dX10_sourBy_59 ?_
        exact q_iretH rfl rfl dX10_sourBy_60 hyp
      · have hyp := q_neg c6 hyp
        refine q_iconst (x := 0) rfl dX10_sourBy_28 ?_
        refine q_iload_n 3 rfl dX10_sourBy_29 ?_
        refine q_aload_n 0 rfl dX10_sourBy_30 ?_
        refine q_iload_n 1 rfl dX10_sourBy_31 ?_
        refine q_iload_n 3 rfl dX10_sourBy_32 ?_
        refine q_aload_n 0 rfl dX10_sourBy_33 ?_
        refine q_bind hyp (fun x7 e8 hyp => ?_)
        refine q_getR kF_X10_99 dX10_sourBy_34 e8 ?_
        refine q_bipush (x := 9) (by decide) dX10_sourBy_37 ?_
        refine q_iload_n 1 rfl dX10_sourBy_39 ?_
        refine q_iadd dX10_sourBy_40 ?_
        refine q_bind hyp (fun x9 e10 hyp => ?_)
        refine q_iald dX10_sourBy_41 e10 ?_
        refine q_iload 4 rfl dX10_sourBy_42 ?_
        refine q_iadd dX10_sourBy_44 ?_
        refine q_bind hyp (fun p11 e12 hyp => ?_)
        refine q_callV (as := [.int v1, .int v3, .int (x9 + v4)]) (st := [.int v3, .int 0]) kY_X10_takenBy kL_X10_334 (okX10_takenBy (l := l) e12) (by decide) rfl (obX10_takenBy e12) (Nat.le_of_ble_eq_true rfl) dX10_sourBy_45 ?_
        refine q_to (ls' := [(0, .ref v0), (1, .int v1), (2, .int v2), (3, .int v3), (4, .int v4)]) (st' := [.int p11.1, .int v3, .int 0]) rfl rfl ?_
        refine q_isub dX10_sourBy_48 ?_
        refine q_max kL_X10_337 kS_max kZ_math kD_max (by decide) (Nat.le_of_ble_eq_true rfl) dX10_sourBy_49 ?_
        refine q_istore_n (ls' := [(3, .int (if (0 : Int32) < (v3 - p11.1) then (v3 - p11.1) else (0 : Int32))), (0, .ref v0), (1, .int v1), (2, .int v2), (4, .int v4)]) (by decide) rfl dX10_sourBy_52 ?_
        refine q_iinc (ls' := [(4, .int (v4 + 1)), (3, .int (if (0 : Int32) < (v3 - p11.1) then (v3 - p11.1) else (0 : Int32))), (0, .ref v0), (1, .int v1), (2, .int v2)]) 4 rfl rfl (by decide) rfl dX10_sourBy_53 ?_
        refine q_goto (tgt := 12) dX10_sourBy_56 (by decide) ?_
        exact q_sub [2, 3, 4, 1, 0] rfl (ih v0 v1 v2 (if (0 : Int32) < (v3 - p11.1) then (v3 - p11.1) else (0 : Int32)) (v4 + 1) p11.2 hyp)
def fX10_sourBy (n : Nat) (v0 : Nat) (v1 : Int32) (v2 : Int32) (h : qH) : Option (Int32 × qH) :=
  (isO h v0 10).bind fun _ =>
  (gR h v0 10 41).bind fun x1 =>
  (aI .int h x1 (2 + v1)).bind fun x3 =>
  fX10_sourBy_b12 n n v0 v1 v2 x3 0 h
theorem obX10_sourBy {n : Nat} {v0 : Nat} {v1 : Int32} {v2 : Int32} {h : qH} {p : Int32 × qH} (hyp : fX10_sourBy n v0 v1 v2 h = some p) : ∃ fs, h.1 v0 = some (.inr (10, fs)) := by
  unfold fX10_sourBy at hyp
  exact q_bind hyp (fun _ e _ => isO_some e)
set_option maxHeartbeats 4000000 in
set_option maxRecDepth 100000 in
theorem okX10_sourBy {l : Launch} {n : Nat} {v0 : Nat} {v1 : Int32} {v2 : Int32} {h : qH} {p : Int32 × qH} (hyp : fX10_sourBy n v0 v1 v2 h = some p) : q_M l 5 yX10_sourBy cX10_sourBy 5 (some .int) [.ref v0, .int v1, .int v2] h (some (.int p.1)) p.2 := by
  obtain ⟨r, h'⟩ := p
  unfold fX10_sourBy at hyp
  refine q_bind hyp (fun _ _ hyp => ?_)
  refine q_M.of (by decide) (Nat.le_of_ble_eq_true rfl) ?_
  refine q_to (ls' := [(0, .ref v0), (1, .int v1), (2, .int v2)]) (st' := []) rfl rfl ?_
  refine q_aload_n 0 rfl dX10_sourBy_0 ?_
  refine q_bind hyp (fun x1 e2 hyp => ?_)
  refine q_getR kF_X10_99 dX10_sourBy_1 e2 ?_
  refine q_iconst (x := 2) rfl dX10_sourBy_4 ?_
  refine q_iload_n 1 rfl dX10_sourBy_5 ?_
  refine q_iadd dX10_sourBy_6 ?_
  refine q_bind hyp (fun x3 e4 hyp => ?_)
  refine q_iald dX10_sourBy_7 e4 ?_
  refine q_istore_n (ls' := [(3, .int x3), (0, .ref v0), (1, .int v1), (2, .int v2)]) (by decide) rfl dX10_sourBy_8 ?_
  refine q_iconst (x := 0) rfl dX10_sourBy_9 ?_
  refine q_istore (ls' := [(4, .int 0), (3, .int x3), (0, .ref v0), (1, .int v1), (2, .int v2)]) (by decide) rfl dX10_sourBy_10 ?_
  exact q_sub [2, 3, 4, 1, 0] rfl (okX10_sourBy_b12 _ v0 v1 v2 x3 0 h hyp)
theorem dX10_laysSours_0 : decode cX10_laysSours 0 = .ok (.iconst 0, 1) := by decide +kernel
theorem dX10_laysSours_1 : decode cX10_laysSours 1 = .ok (.istore_n 1, 1) := by decide +kernel
theorem dX10_laysSours_2 : decode cX10_laysSours 2 = .ok (.iload_n 1, 1) := by decide +kernel
theorem dX10_laysSours_3 : decode cX10_laysSours 3 = .ok (.aload_n 0, 1) := by decide +kernel
theorem dX10_laysSours_4 : decode cX10_laysSours 4 = .ok (.getfield 13, 3) := by decide +kernel
theorem dX10_laysSours_7 : decode cX10_laysSours 7 = .ok (.iconst 0, 1) := by decide +kernel
theorem dX10_laysSours_8 : decode cX10_laysSours 8 = .ok (.iaload, 1) := by decide +kernel
theorem dX10_laysSours_9 : decode cX10_laysSours 9 = .ok (.if_icmp .ge 40, 3) := by decide +kernel
theorem dX10_laysSours_12 : decode cX10_laysSours 12 = .ok (.iconst 0, 1) := by decide +kernel
theorem dX10_laysSours_13 : decode cX10_laysSours 13 = .ok (.istore_n 2, 1) := by decide +kernel
theorem dX10_laysSours_14 : decode cX10_laysSours 14 = .ok (.iload_n 2, 1) := by decide +kernel
theorem dX10_laysSours_15 : decode cX10_laysSours 15 = .ok (.bipush 10, 2) := by decide +kernel
theorem dX10_laysSours_17 : decode cX10_laysSours 17 = .ok (.if_icmp .ge 26, 3) := by decide +kernel
theorem dX10_laysSours_20 : decode cX10_laysSours 20 = .ok (.aload_n 0, 1) := by decide +kernel
theorem dX10_laysSours_21 : decode cX10_laysSours 21 = .ok (.getfield 126, 3) := by decide +kernel
theorem dX10_laysSours_24 : decode cX10_laysSours 24 = .ok (.bipush 10, 2) := by decide +kernel
theorem dX10_laysSours_26 : decode cX10_laysSours 26 = .ok (.iload_n 1, 1) := by decide +kernel
theorem dX10_laysSours_27 : decode cX10_laysSours 27 = .ok (.imul, 1) := by decide +kernel
theorem dX10_laysSours_28 : decode cX10_laysSours 28 = .ok (.iload_n 2, 1) := by decide +kernel
theorem dX10_laysSours_29 : decode cX10_laysSours 29 = .ok (.iadd, 1) := by decide +kernel
theorem dX10_laysSours_30 : decode cX10_laysSours 30 = .ok (.aload_n 0, 1) := by decide +kernel
theorem dX10_laysSours_31 : decode cX10_laysSours 31 = .ok (.iload_n 1, 1) := by decide +kernel
theorem dX10_laysSours_32 : decode cX10_laysSours 32 = .ok (.iload_n 2, 1) := by decide +kernel
theorem dX10_laysSours_33 : decode cX10_laysSours 33 = .ok (.invokevirtual 406, 3) := by decide +kernel
theorem dX10_laysSours_36 : decode cX10_laysSours 36 = .ok (.iastore, 1) := by decide +kernel
theorem dX10_laysSours_37 : decode cX10_laysSours 37 = .ok (.iinc 2 1, 3) := by decide +kernel
theorem dX10_laysSours_40 : decode cX10_laysSours 40 = .ok (.goto (-26), 3) := by decide +kernel
theorem dX10_laysSours_43 : decode cX10_laysSours 43 = .ok (.iinc 1 1, 3) := by decide +kernel
theorem dX10_laysSours_46 : decode cX10_laysSours 46 = .ok (.goto (-44), 3) := by decide +kernel
theorem dX10_laysSours_49 : decode cX10_laysSours 49 = .ok (.return_, 1) := by decide +kernel
def fX10_laysSours_b14 (n : Nat) (K2 : Nat → Int32 → qH → Option (qH)) : Nat → Nat → Int32 → Int32 → qH → Option (qH)
  | 0, _, _, _, _ => none
  | w + 1, v0, v1, v2, h =>
    if 10 ≤ v2 then
    (K2 v0 (v1 + 1) h)
    else
    ((gR h v0 10 51).bind fun x2 =>
    (fX10_sourBy n v0 v1 v2 h).bind fun p4 =>
    (sI .int p4.2 x2 ((10 * v1) + v2) p4.1).bind fun h5 =>
    fX10_laysSours_b14 n K2 w v0 v1 (v2 + 1) h5)
set_option maxHeartbeats 4000000 in
set_option maxRecDepth 100000 in
theorem okX10_laysSours_b14 {l : Launch} {n : Nat} {K2 : Nat → Int32 → qH → Option (qH)} {h' : qH} (hK2 : ∀ (v0 : Nat) (v1 : Int32) (h : qH), K2 v0 v1 h = some h' → q_W l 6 yX10_laysSours cX10_laysSours 3 none none h' 2 [(0, .ref v0), (1, .int v1)] [] h) : ∀ (w : Nat) (v0 : Nat) (v1 : Int32) (v2 : Int32) (h : qH), fX10_laysSours_b14 n K2 w v0 v1 v2 h = some h' → q_W l 6 yX10_laysSours cX10_laysSours 3 none none h' 14 [(0, .ref v0), (1, .int v1), (2, .int v2)] [] h := by
  intro w
  induction w with
  | zero => intro v0 v1 v2 h hyp; cases hyp
  | succ w ih =>
    intro v0 v1 v2 h hyp
    unfold fX10_laysSours_b14 at hyp
    refine q_iload_n 2 rfl dX10_laysSours_14 ?_
    refine q_bipush (x := 10) (by decide) dX10_laysSours_15 ?_
    refine q_icmp_ge (tgt := 43) dX10_laysSours_17 (by decide) (fun c1 => ?_) (fun c1 => ?_)
    · have hyp := q_pos c1 hyp
      refine q_iinc (ls' := [(1, .int (v1 + 1)), (0, .ref v0), (2, .int v2)]) 1 rfl rfl (by decide) rfl dX10_laysSours_43 ?_
      refine q_goto (tgt := 2) dX10_laysSours_46 (by decide) ?_
      exact q_sub [1, 0] rfl (hK2 v0 (v1 + 1) h hyp)
    · have hyp := q_neg c1 hyp
      refine q_aload_n 0 rfl dX10_laysSours_20 ?_
      refine q_bind hyp (fun x2 e3 hyp => ?_)
      refine q_getR kF_X10_126 dX10_laysSours_21 e3 ?_
      refine q_bipush (x := 10) (by decide) dX10_laysSours_24 ?_
      refine q_iload_n 1 rfl dX10_laysSours_26 ?_
      refine q_imul dX10_laysSours_27 ?_
      refine q_iload_n 2 rfl dX10_laysSours_28 ?_
      refine q_iadd dX10_laysSours_29 ?_
      refine q_aload_n 0 rfl dX10_laysSours_30 ?_
      refine q_iload_n 1 rfl dX10_laysSours_31 ?_
      refine q_iload_n 2 rfl dX10_laysSours_32 ?_
      refine q_bind hyp (fun p4 e7 hyp => ?_)
      refine q_callV (as := [.int v1, .int v2]) (st := [.int ((10 * v1) + v2), .ref x2]) kY_X10_sourBy kL_X10_406 (okX10_sourBy (l := l) e7) (by decide) rfl (obX10_sourBy e7) (Nat.le_of_ble_eq_true rfl) dX10_laysSours_33 ?_
      refine q_to (ls' := [(0, .ref v0), (1, .int v1), (2, .int v2)]) (st' := [.int p4.1, .int ((10 * v1) + v2), .ref x2]) rfl rfl ?_
      refine q_bind hyp (fun h5 e6 hyp => ?_)
      refine q_iast dX10_laysSours_36 e6 ?_
      refine q_iinc (ls' := [(2, .int (v2 + 1)), (0, .ref v0), (1, .int v1)]) 2 rfl rfl (by decide) rfl dX10_laysSours_37 ?_
      refine q_goto (tgt := 14) dX10_laysSours_40 (by decide) ?_
      exact q_sub [1, 2, 0] rfl (ih v0 v1 (v2 + 1) h5 hyp)
def fX10_laysSours_b2 (n : Nat) : Nat → Nat → Int32 → qH → Option (qH)
  | 0, _, _, _ => none
  | w + 1, v0, v1, h =>
    (gR h v0 10 10).bind fun x1 =>
    (aI .int h x1 0).bind fun x3 =>
    if x3 ≤ v1 then
    (some h)
    else
    (fX10_laysSours_b14 n (fX10_laysSours_b2 n w) n v0 v1 0 h)
set_option maxHeartbeats 4000000 in
set_option maxRecDepth 100000 in
theorem okX10_laysSours_b2 {l : Launch} {n : Nat} {h' : qH} : ∀ (w : Nat) (v0 : Nat) (v1 : Int32) (h : qH), fX10_laysSours_b2 n w v0 v1 h = some h' → q_W l 6 yX10_laysSours cX10_laysSours 3 none none h' 2 [(0, .ref v0), (1, .int v1)] [] h := by
  intro w
  induction w with
  | zero => intro v0 v1 h hyp; cases hyp
  | succ w ih =>
    intro v0 v1 h hyp
    unfold fX10_laysSours_b2 at hyp
    refine q_iload_n 1 rfl dX10_laysSours_2 ?_
    refine q_aload_n 0 rfl dX10_laysSours_3 ?_
    refine q_bind hyp (fun x1 e2 hyp => ?_)
    refine q_getR kF_X10_13 dX10_laysSours_4 e2 ?_
    refine q_iconst (x := 0) rfl dX10_laysSours_7 ?_
    refine q_bind hyp (fun x3 e4 hyp => ?_)
    refine q_iald dX10_laysSours_8 e4 ?_
    refine q_icmp_ge (tgt := 49) dX10_laysSours_9 (by decide) (fun c5 => ?_) (fun c5 => ?_)
    · have hyp := q_pos c5 hyp
      exact q_vretH rfl dX10_laysSours_49 hyp
    · have hyp := q_neg c5 hyp
      refine q_iconst (x := 0) rfl dX10_laysSours_12 ?_
      refine q_istore_n (ls' := [(2, .int 0), (0, .ref v0), (1, .int v1)]) (by decide) rfl dX10_laysSours_13 ?_
      exact q_sub [1, 2, 0] rfl (okX10_laysSours_b14 ih _ v0 v1 0 h hyp)
def fX10_laysSours (n : Nat) (v0 : Nat) (h : qH) : Option (qH) :=
  (isO h v0 10).bind fun _ =>
  fX10_laysSours_b2 n n v0 0 h
theorem obX10_laysSours {n : Nat} {v0 : Nat} {h : qH} {p : qH} (hyp : fX10_laysSours n v0 h = some p) : ∃ fs, h.1 v0 = some (.inr (10, fs)) := by
  unfold fX10_laysSours at hyp
  exact q_bind hyp (fun _ e _ => isO_some e)
set_option maxHeartbeats 4000000 in
set_option maxRecDepth 100000 in
theorem okX10_laysSours {l : Launch} {n : Nat} {v0 : Nat} {h : qH} {h' : qH} (hyp : fX10_laysSours n v0 h = some h') : q_M l 6 yX10_laysSours cX10_laysSours 3 none [.ref v0] h none h' := by
  unfold fX10_laysSours at hyp
  refine q_bind hyp (fun _ _ hyp => ?_)
  refine q_M.of (by decide) (Nat.le_of_ble_eq_true rfl) ?_
  refine q_to (ls' := [(0, .ref v0)]) (st' := []) rfl rfl ?_
  refine q_iconst (x := 0) rfl dX10_laysSours_0 ?_
  refine q_istore_n (ls' := [(1, .int 0), (0, .ref v0)]) (by decide) rfl dX10_laysSours_1 ?_
  exact q_sub [1, 0] rfl (okX10_laysSours_b2 _ v0 0 h hyp)
theorem dX10_livesYear_0 : decode cX10_livesYear 0 = .ok (.iconst 0, 1) := by decide +kernel
theorem dX10_livesYear_1 : decode cX10_livesYear 1 = .ok (.istore_n 1, 1) := by decide +kernel
theorem dX10_livesYear_2 : decode cX10_livesYear 2 = .ok (.aload_n 0, 1) := by decide +kernel
theorem dX10_livesYear_3 : decode cX10_livesYear 3 = .ok (.getfield 13, 3) := by decide +kernel
theorem dX10_livesYear_6 : decode cX10_livesYear 6 = .ok (.iconst 0, 1) := by decide +kernel
theorem dX10_livesYear_7 : decode cX10_livesYear 7 = .ok (.iaload, 1) := by decide +kernel
theorem dX10_livesYear_8 : decode cX10_livesYear 8 = .ok (.ifCond .le 80, 3) := by decide +kernel
theorem dX10_livesYear_11 : decode cX10_livesYear 11 = .ok (.aload_n 0, 1) := by decide +kernel
theorem dX10_livesYear_12 : decode cX10_livesYear 12 = .ok (.aload_n 0, 1) := by decide +kernel
theorem dX10_livesYear_13 : decode cX10_livesYear 13 = .ok (.getfield 13, 3) := by decide +kernel
theorem dX10_livesYear_16 : decode cX10_livesYear 16 = .ok (.iconst 0, 1) := by decide +kernel
theorem dX10_livesYear_17 : decode cX10_livesYear 17 = .ok (.iaload, 1) := by decide +kernel
theorem dX10_livesYear_18 : decode cX10_livesYear 18 = .ok (.invokevirtual 437, 3) := by decide +kernel
theorem dX10_livesYear_21 : decode cX10_livesYear 21 = .ok (.istore_n 2, 1) := by decide +kernel
theorem dX10_livesYear_22 : decode cX10_livesYear 22 = .ok (.aload_n 0, 1) := by decide +kernel
theorem dX10_livesYear_23 : decode cX10_livesYear 23 = .ok (.iconst 4, 1) := by decide +kernel
theorem dX10_livesYear_24 : decode cX10_livesYear 24 = .ok (.invokevirtual 437, 3) := by decide +kernel
theorem dX10_livesYear_27 : decode cX10_livesYear 27 = .ok (.istore_n 3, 1) := by decide +kernel
theorem dX10_livesYear_28 : decode cX10_livesYear 28 = .ok (.iload_n 3, 1) := by decide +kernel
theorem dX10_livesYear_29 : decode cX10_livesYear 29 = .ok (.ifCond .ne 20, 3) := by decide +kernel
theorem dX10_livesYear_32 : decode cX10_livesYear 32 = .ok (.aload_n 0, 1) := by decide +kernel
theorem dX10_livesYear_33 : decode cX10_livesYear 33 = .ok (.getfield 99, 3) := by decide +kernel
theorem dX10_livesYear_36 : decode cX10_livesYear 36 = .ok (.bipush 9, 2) := by decide +kernel
theorem dX10_livesYear_38 : decode cX10_livesYear 38 = .ok (.iload_n 2, 1) := by decide +kernel
theorem dX10_livesYear_39 : decode cX10_livesYear 39 = .ok (.iadd, 1) := by decide +kernel
theorem dX10_livesYear_40 : decode cX10_livesYear 40 = .ok (.iaload, 1) := by decide +kernel
theorem dX10_livesYear_41 : decode cX10_livesYear 41 = .ok (.ifCond .le 8, 3) := by decide +kernel
theorem dX10_livesYear_44 : decode cX10_livesYear 44 = .ok (.aload_n 0, 1) := by decide +kernel
theorem dX10_livesYear_45 : decode cX10_livesYear 45 = .ok (.iload_n 2, 1) := by decide +kernel
theorem dX10_livesYear_46 : decode cX10_livesYear 46 = .ok (.invokevirtual 365, 3) := by decide +kernel
theorem dX10_livesYear_49 : decode cX10_livesYear 49 = .ok (.iload_n 3, 1) := by decide +kernel
theorem dX10_livesYear_50 : decode cX10_livesYear 50 = .ok (.iconst 1, 1) := by decide +kernel
theorem dX10_livesYear_51 : decode cX10_livesYear 51 = .ok (.if_icmp .eq 8, 3) := by decide +kernel
theorem dX10_livesYear_54 : decode cX10_livesYear 54 = .ok (.iload_n 3, 1) := by decide +kernel
theorem dX10_livesYear_55 : decode cX10_livesYear 55 = .ok (.iconst 2, 1) := by decide +kernel
theorem dX10_livesYear_56 : decode cX10_livesYear 56 = .ok (.if_icmp .ne 21, 3) := by decide +kernel
theorem dX10_livesYear_59 : decode cX10_livesYear 59 = .ok (.aload_n 0, 1) := by decide +kernel
theorem dX10_livesYear_60 : decode cX10_livesYear 60 = .ok (.getfield 99, 3) := by decide +kernel
theorem dX10_livesYear_63 : decode cX10_livesYear 63 = .ok (.iconst 1, 1) := by decide +kernel
theorem dX10_livesYear_64 : decode cX10_livesYear 64 = .ok (.iaload, 1) := by decide +kernel
theorem dX10_livesYear_65 : decode cX10_livesYear 65 = .ok (.aload_n 0, 1) := by decide +kernel
theorem dX10_livesYear_66 : decode cX10_livesYear 66 = .ok (.iload_n 2, 1) := by decide +kernel
theorem dX10_livesYear_67 : decode cX10_livesYear 67 = .ok (.invokevirtual 331, 3) := by decide +kernel
theorem dX10_livesYear_70 : decode cX10_livesYear 70 = .ok (.if_icmp .lt 7, 3) := by decide +kernel
theorem dX10_livesYear_73 : decode cX10_livesYear 73 = .ok (.iconst 1, 1) := by decide +kernel
theorem dX10_livesYear_74 : decode cX10_livesYear 74 = .ok (.goto 4, 3) := by decide +kernel
theorem dX10_livesYear_77 : decode cX10_livesYear 77 = .ok (.iconst 0, 1) := by decide +kernel
theorem dX10_livesYear_78 : decode cX10_livesYear 78 = .ok (.istore_n 1, 1) := by decide +kernel
theorem dX10_livesYear_79 : decode cX10_livesYear 79 = .ok (.iload_n 1, 1) := by decide +kernel
theorem dX10_livesYear_80 : decode cX10_livesYear 80 = .ok (.ifCond .eq 8, 3) := by decide +kernel
theorem dX10_livesYear_83 : decode cX10_livesYear 83 = .ok (.aload_n 0, 1) := by decide +kernel
theorem dX10_livesYear_84 : decode cX10_livesYear 84 = .ok (.iload_n 2, 1) := by decide +kernel
theorem dX10_livesYear_85 : decode cX10_livesYear 85 = .ok (.invokevirtual 362, 3) := by decide +kernel
theorem dX10_livesYear_88 : decode cX10_livesYear 88 = .ok (.aload_n 0, 1) := by decide +kernel
theorem dX10_livesYear_89 : decode cX10_livesYear 89 = .ok (.invokevirtual 368, 3) := by decide +kernel
theorem dX10_livesYear_92 : decode cX10_livesYear 92 = .ok (.iload_n 1, 1) := by decide +kernel
theorem dX10_livesYear_93 : decode cX10_livesYear 93 = .ok (.ireturn, 1) := by decide +kernel
def fX10_livesYear_b88 (n : Nat) (v0 : Nat) (v1 : Int32) (h : qH) : Option (Int32 × qH) :=
  (fX10_passes n v0 h).bind fun h1 =>
  (qB v1).bind fun _ =>
  some (v1, h1)
set_option maxHeartbeats 4000000 in
set_option maxRecDepth 100000 in
theorem okX10_livesYear_b88 {l : Launch} {n : Nat} {v0 : Nat} {v1 : Int32} {h : qH} {r : Int32} {h' : qH} (hyp : fX10_livesYear_b88 n v0 v1 h = some (r, h')) : q_W l 6 yX10_livesYear cX10_livesYear 4 (some .boolean) (some (.int r)) h' 88 [(0, .ref v0), (1, .int v1)] [] h := by
  unfold fX10_livesYear_b88 at hyp
  refine q_aload_n 0 rfl dX10_livesYear_88 ?_
  refine q_bind hyp (fun h1 e3 hyp => ?_)
  refine q_callV (as := []) (st := []) kY_X10_passes kL_X10_368 (okX10_passes (l := l) e3) (by decide) rfl (obX10_passes e3) (Nat.le_of_ble_eq_true rfl) dX10_livesYear_89 ?_
  refine q_to (ls' := [(0, .ref v0), (1, .int v1)]) (st' := []) rfl rfl ?_
  refine q_iload_n 1 rfl dX10_livesYear_92 ?_
  refine q_bind hyp (fun _ e2 hyp => ?_)
  exact q_iretH rfl (qB_some e2) dX10_livesYear_93 hyp
def fX10_livesYear_b78 (n : Nat) (v0 : Nat) (v2 : Int32) (s0 : Int32) (h : qH) : Option (Int32 × qH) :=
  if s0 = 0 then
  (fX10_livesYear_b88 n v0 s0 h)
  else
  ((fX10_coats n v0 v2 h).bind fun h2 =>
  fX10_livesYear_b88 n v0 s0 h2)
set_option maxHeartbeats 4000000 in
set_option maxRecDepth 100000 in
theorem okX10_livesYear_b78 {l : Launch} {n : Nat} {v0 : Nat} {v2 : Int32} {s0 : Int32} {h : qH} {r : Int32} {h' : qH} (hyp : fX10_livesYear_b78 n v0 v2 s0 h = some (r, h')) : q_W l 6 yX10_livesYear cX10_livesYear 4 (some .boolean) (some (.int r)) h' 78 [(0, .ref v0), (2, .int v2)] [.int s0] h := by
  unfold fX10_livesYear_b78 at hyp
  refine q_istore_n (ls' := [(1, .int s0), (0, .ref v0), (2, .int v2)]) (by decide) rfl dX10_livesYear_78 ?_
  refine q_iload_n 0 rfl dX10_livesYear_79 ?_
  refine q_if_eq (tgt := 88) dX10_livesYear_80 (by decide) (fun c1 => ?_) (fun c1 => ?_)
  · have hyp := q_pos c1 hyp
    exact q_sub [1, 0] rfl (okX10_livesYear_b88 hyp)
  · have hyp := q_neg c1 hyp
    refine q_aload_n 1 rfl dX10_livesYear_83 ?_
    refine q_iload_n 2 rfl dX10_livesYear_84 ?_
    refine q_bind hyp (fun h2 e3 hyp => ?_)
    refine q_callV (as := [.int v2]) (st := []) kY_X10_coats kL_X10_362 (okX10_coats (l := l) e3) (by decide) rfl (obX10_coats e3) (Nat.le_of_ble_eq_true rfl) dX10_livesYear_85 ?_
    refine q_to (ls' := [(1, .int s0), (0, .ref v0), (2, .int v2)]) (st' := []) rfl rfl ?_
    exact q_sub [1, 0] rfl (okX10_livesYear_b88 hyp)
def fX10_livesYear_b77 (n : Nat) (v0 : Nat) (v2 : Int32) (h : qH) : Option (Int32 × qH) :=
  fX10_livesYear_b78 n v0 v2 0 h
set_option maxHeartbeats 4000000 in
set_option maxRecDepth 100000 in
theorem okX10_livesYear_b77 {l : Launch} {n : Nat} {v0 : Nat} {v2 : Int32} {h : qH} {r : Int32} {h' : qH} (hyp : fX10_livesYear_b77 n v0 v2 h = some (r, h')) : q_W l 6 yX10_livesYear cX10_livesYear 4 (some .boolean) (some (.int r)) h' 77 [(0, .ref v0), (2, .int v2)] [] h := by
  unfold fX10_livesYear_b77 at hyp
  refine q_iconst (x := 0) rfl dX10_livesYear_77 ?_
  exact q_sub [0, 1] rfl (okX10_livesYear_b78 hyp)
def fX10_livesYear_b59 (n : Nat) (v0 : Nat) (v2 : Int32) (h : qH) : Option (Int32 × qH) :=
  (gR h v0 10 41).bind fun x1 =>
  (aI .int h x1 1).bind fun x3 =>
  (fX10_priceOf v0 v2 h).bind fun p5 =>
  if x3 < p5.1 then
  (fX10_livesYear_b77 n v0 v2 p5.2)
  else
  (fX10_livesYear_b78 n v0 v2 1 p5.2)
set_option maxHeartbeats 4000000 in
set_option maxRecDepth 100000 in
theorem okX10_livesYear_b59 {l : Launch} {n : Nat} {v0 : Nat} {v2 : Int32} {h : qH} {r : Int32} {h' : qH} (hyp : fX10_livesYear_b59 n v0 v2 h = some (r, h')) : q_W l 6 yX10_livesYear cX10_livesYear 4 (some .boolean) (some (.int r)) h' 59 [(0, .ref v0), (2, .int v2)] [] h := by
  unfold fX10_livesYear_b59 at hyp
  refine q_aload_n 0 rfl dX10_livesYear_59 ?_
  refine q_bind hyp (fun x1 e2 hyp => ?_)
  refine q_getR kF_X10_99 dX10_livesYear_60 e2 ?_
  refine q_iconst (x := 1) rfl dX10_livesYear_63 ?_
  refine q_bind hyp (fun x3 e4 hyp => ?_)
  refine q_iald dX10_livesYear_64 e4 ?_
  refine q_aload_n 0 rfl dX10_livesYear_65 ?_
  refine q_iload_n 1 rfl dX10_livesYear_66 ?_
  refine q_bind hyp (fun p5 e7 hyp => ?_)
  refine q_callV (as := [.int v2]) (st := [.int x3]) kY_X10_priceOf kL_X10_331 (okX10_priceOf (l := l) e7) (by decide) rfl (obX10_priceOf e7) (Nat.le_of_ble_eq_true rfl) dX10_livesYear_67 ?_
  refine q_to (ls' := [(0, .ref v0), (2, .int v2)]) (st' := [.int p5.1, .int x3]) rfl rfl ?_
  refine q_icmp_lt (tgt := 77) dX10_livesYear_70 (by decide) (fun c6 => ?_) (fun c6 => ?_)
  · have hyp := q_pos c6 hyp
    exact q_sub [0, 1] rfl (okX10_livesYear_b77 hyp)
  · have hyp := q_neg c6 hyp
    refine q_iconst (x := 1) rfl dX10_livesYear_73 ?_
    refine q_goto (tgt := 78) dX10_livesYear_74 (by decide) ?_
    exact q_sub [0, 1] rfl (okX10_livesYear_b78 hyp)
def fX10_livesYear_b49 (n : Nat) (v0 : Nat) (v2 : Int32) (v3 : Int32) (h : qH) : Option (Int32 × qH) :=
  if v3 = 1 then
  (fX10_livesYear_b59 n v0 v2 h)
  else
  (if v3 = 2 then
  (fX10_livesYear_b59 n v0 v2 h)
  else
  (fX10_livesYear_b77 n v0 v2 h))
set_option maxHeartbeats 4000000 in
set_option maxRecDepth 100000 in
theorem okX10_livesYear_b49 {l : Launch} {n : Nat} {v0 : Nat} {v2 : Int32} {v3 : Int32} {h : qH} {r : Int32} {h' : qH} (hyp : fX10_livesYear_b49 n v0 v2 v3 h = some (r, h')) : q_W l 6 yX10_livesYear cX10_livesYear 4 (some .boolean) (some (.int r)) h' 49 [(0, .ref v0), (2, .int v2), (3, .int v3)] [] h := by
  unfold fX10_livesYear_b49 at hyp
  refine q_iload_n 2 rfl dX10_livesYear_49 ?_
  refine q_iconst (x := 1) rfl dX10_livesYear_50 ?_
  refine q_icmp_eq (tgt := 59) dX10_livesYear_51 (by decide) (fun c1 => ?_) (fun c1 => ?_)
  · have hyp := q_pos c1 hyp
    exact q_sub [0, 1] rfl (okX10_livesYear_b59 hyp)
  · have hyp := q_neg c1 hyp
    refine q_iload_n 2 rfl dX10_livesYear_54 ?_
    refine q_iconst (x := 2) rfl dX10_livesYear_55 ?_
    refine q_icmp_ne (tgt := 77) dX10_livesYear_56 (by decide) (fun c2 => ?_) (fun c2 => ?_)
    · have hyp := q_neg c2 hyp
      exact q_sub [0, 1] rfl (okX10_livesYear_b77 hyp)
    · have hyp := q_pos c2 hyp
      exact q_sub [0, 1] rfl (okX10_livesYear_b59 hyp)
def fX10_livesYear (n : Nat) (v0 : Nat) (h : qH) : Option (Int32 × qH) :=
  (isO h v0 10).bind fun _ =>
  (gR h v0 10 10).bind fun x1 =>
  (aI .int h x1 0).bind fun x3 =>
  if x3 ≤ 0 then
  (fX10_livesYear_b88 n v0 0 h)
  else
  ((gR h v0 10 10).bind fun x6 =>
  (aI .int h x6 0).bind fun x8 =>
  (fX10_draws v0 x8 h).bind fun p10 =>
  (fX10_draws v0 4 p10.2).bind fun p11 =>
  if p11.1 = 0 then
  ((gR p11.2 v0 10 41).bind fun x13 =>
  (aI .int p11.2 x13 (9 + p10.1)).bind fun x15 =>
  if x15 ≤ 0 then
  (fX10_livesYear_b49 n v0 p10.1 p11.1 p11.2)
  else
  ((fX10_eaten v0 p10.1 p11.2).bind fun h18 =>
  fX10_livesYear_b49 n v0 p10.1 p11.1 h18))
  else
  (fX10_livesYear_b49 n v0 p10.1 p11.1 p11.2))
theorem obX10_livesYear {n : Nat} {v0 : Nat} {h : qH} {p : Int32 × qH} (hyp : fX10_livesYear n v0 h = some p) : ∃ fs, h.1 v0 = some (.inr (10, fs)) := by
  unfold fX10_livesYear at hyp
  exact q_bind hyp (fun _ e _ => isO_some e)
set_option maxHeartbeats 4000000 in
set_option maxRecDepth 100000 in
theorem okX10_livesYear {l : Launch} {n : Nat} {v0 : Nat} {h : qH} {p : Int32 × qH} (hyp : fX10_livesYear n v0 h = some p) : q_M l 6 yX10_livesYear cX10_livesYear 4 (some .boolean) [.ref v0] h (some (.int p.1)) p.2 := by
  obtain ⟨r, h'⟩ := p
  unfold fX10_livesYear at hyp
  refine q_bind hyp (fun _ _ hyp => ?_)
  refine q_M.of (by decide) (Nat.le_of_ble_eq_true rfl) ?_
  refine q_to (ls' := [(0, .ref v0)]) (st' := []) rfl rfl ?_
  refine q_iconst (x := 0) rfl dX10_livesYear_0 ?_
  refine q_istore_n (ls' := [(1, .int 0), (0, .ref v0)]) (by decide) rfl dX10_livesYear_1 ?_
  refine q_aload_n 1 rfl dX10_livesYear_2 ?_
  refine q_bind hyp (fun x1 e2 hyp => ?_)
  refine q_getR kF_X10_13 dX10_livesYear_3 e2 ?_
  refine q_iconst (x := 0) rfl dX10_livesYear_6 ?_
  refine q_bind hyp (fun x3 e4 hyp => ?_)
  refine q_iald dX10_livesYear_7 e4 ?_
  refine q_if_le (tgt := 88) dX10_livesYear_8 (by decide) (fun c5 => ?_) (fun c5 => ?_)
  · have hyp := q_pos c5 hyp
    exact q_sub [1, 0] rfl (okX10_livesYear_b88 hyp)
  · have hyp := q_neg c5 hyp
    refine q_aload_n 1 rfl dX10_livesYear_11 ?_
    refine q_aload_n 1 rfl dX10_livesYear_12 ?_
    refine q_bind hyp (fun x6 e7 hyp => ?_)
    refine q_getR kF_X10_13 dX10_livesYear_13 e7 ?_
    refine q_iconst (x := 0) rfl dX10_livesYear_16 ?_
    refine q_bind hyp (fun x8 e9 hyp => ?_)
    refine q_iald dX10_livesYear_17 e9 ?_
    refine q_bind hyp (fun p10 e21 hyp => ?_)
    refine q_callV (as := [.int x8]) (st := []) kY_X10_draws kL_X10_437 (okX10_draws (l := l) e21) (by decide) rfl (obX10_draws e21) (Nat.le_of_ble_eq_true rfl) dX10_livesYear_18 ?_
    refine q_to (ls' := [(1, .int 0), (0, .ref v0)]) (st' := [.int p10.1]) rfl rfl ?_
    refine q_istore_n (ls' := [(2, .int p10.1), (1, .int 0), (0, .ref v0)]) (by decide) rfl dX10_livesYear_21 ?_
    refine q_aload_n 2 rfl dX10_livesYear_22 ?_
    refine q_iconst (x := 4) rfl dX10_livesYear_23 ?_
    refine q_bind hyp (fun p11 e20 hyp => ?_)
    refine q_callV (as := [.int 4]) (st := []) kY_X10_draws kL_X10_437 (okX10_draws (l := l) e20) (by decide) rfl (obX10_draws e20) (Nat.le_of_ble_eq_true rfl) dX10_livesYear_24 ?_
    refine q_to (ls' := [(2, .int p10.1), (1, .int 0), (0, .ref v0)]) (st' := [.int p11.1]) rfl rfl ?_
    refine q_istore_n (ls' := [(3, .int p11.1), (2, .int p10.1), (1, .int 0), (0, .ref v0)]) (by decide) rfl dX10_livesYear_27 ?_
    refine q_iload_n 0 rfl dX10_livesYear_28 ?_
    refine q_if_ne (tgt := 49) dX10_livesYear_29 (by decide) (fun c12 => ?_) (fun c12 => ?_)
    · have hyp := q_neg c12 hyp
      exact q_sub [3, 1, 0] rfl (okX10_livesYear_b49 hyp)
    · have hyp := q_pos c12 hyp
      refine q_aload_n 3 rfl dX10_livesYear_32 ?_
      refine q_bind hyp (fun x13 e14 hyp => ?_)
      refine q_getR kF_X10_99 dX10_livesYear_33 e14 ?_
      refine q_bipush (x := 9) (by decide) dX10_livesYear_36 ?_
      refine q_iload_n 1 rfl dX10_livesYear_38 ?_
      refine q_iadd dX10_livesYear_39 ?_
      refine q_bind hyp (fun x15 e16 hyp => ?_)
      refine q_iald dX10_livesYear_40 e16 ?_
      refine q_if_le (tgt := 49) dX10_livesYear_41 (by decide) (fun c17 => ?_) (fun c17 => ?_)
      · have hyp := q_pos c17 hyp
        exact q_sub [3, 1, 0] rfl (okX10_livesYear_b49 hyp)
      · have hyp := q_neg c17 hyp
        refine q_aload_n 3 rfl dX10_livesYear_44 ?_
        refine q_iload_n 1 rfl dX10_livesYear_45 ?_
        refine q_bind hyp (fun h18 e19 hyp => ?_)
        refine q_callV (as := [.int p10.1]) (st := []) kY_X10_eaten kL_X10_365 (okX10_eaten (l := l) e19) (by decide) rfl (obX10_eaten e19) (Nat.le_of_ble_eq_true rfl) dX10_livesYear_46 ?_
        refine q_to (ls' := [(3, .int p11.1), (2, .int p10.1), (1, .int 0), (0, .ref v0)]) (st' := []) rfl rfl ?_
        exact q_sub [3, 1, 0] rfl (okX10_livesYear_b49 hyp)
