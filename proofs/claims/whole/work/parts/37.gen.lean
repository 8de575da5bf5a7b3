/-! Functions over the abstract heap, and that the machine computes them (written by gen.py). -/
theorem dX9_lacks_0 : decode cX9_lacks 0 = .ok (.aload_n 0, 1) := by decide +kernel
theorem dX9_lacks_1 : decode cX9_lacks 1 = .ok (.invokevirtual 238, 3) := by decide +kernel
theorem dX9_lacks_4 : decode cX9_lacks 4 = .ok (.istore_n 1, 1) := by decide +kernel
theorem dX9_lacks_5 : decode cX9_lacks 5 = .ok (.iload_n 1, 1) := by decide +kernel
theorem dX9_lacks_6 : decode cX9_lacks 6 = .ok (.iconst (-1), 1) := by decide +kernel
theorem dX9_lacks_7 : decode cX9_lacks 7 = .ok (.if_icmp .ne 7, 3) := by decide +kernel
theorem dX9_lacks_10 : decode cX9_lacks 10 = .ok (.iconst (-1), 1) := by decide +kernel
theorem dX9_lacks_11 : decode cX9_lacks 11 = .ok (.goto 16, 3) := by decide +kernel
theorem dX9_lacks_14 : decode cX9_lacks 14 = .ok (.iconst 0, 1) := by decide +kernel
theorem dX9_lacks_15 : decode cX9_lacks 15 = .ok (.iload_n 1, 1) := by decide +kernel
theorem dX9_lacks_16 : decode cX9_lacks 16 = .ok (.aload_n 0, 1) := by decide +kernel
theorem dX9_lacks_17 : decode cX9_lacks 17 = .ok (.getfield 38, 3) := by decide +kernel
theorem dX9_lacks_20 : decode cX9_lacks 20 = .ok (.getfield 241, 3) := by decide +kernel
theorem dX9_lacks_23 : decode cX9_lacks 23 = .ok (.isub, 1) := by decide +kernel
theorem dX9_lacks_24 : decode cX9_lacks 24 = .ok (.invokestatic 244, 3) := by decide +kernel
theorem dX9_lacks_27 : decode cX9_lacks 27 = .ok (.ireturn, 1) := by decide +kernel
def fX9_lacks (n : Nat) (v0 : Nat) (h : qH) : Option (Int32 × qH) :=
  (isO h v0 9).bind fun _ =>
  (fX9_all n v0 h).bind fun p1 =>
  if p1.1 = ((-1)) then
  (some ((-1), p1.2))
  else
  ((gR p1.2 v0 9 4).bind fun x3 =>
  (gI p1.2 x3 8 2).bind fun x5 =>
  some (if (0 : Int32) < (p1.1 - x5) then (p1.1 - x5) else (0 : Int32), p1.2))
theorem obX9_lacks {n : Nat} {v0 : Nat} {h : qH} {p : Int32 × qH} (hyp : fX9_lacks n v0 h = some p) : ∃ fs, h.1 v0 = some (.inr (9, fs)) := by
  unfold fX9_lacks at hyp
  exact q_bind hyp (fun _ e _ => isO_some e)
set_option maxHeartbeats 4000000 in
set_option maxRecDepth 100000 in
theorem okX9_lacks {l : Launch} {n : Nat} {v0 : Nat} {h : qH} {p : Int32 × qH} (hyp : fX9_lacks n v0 h = some p) : q_M l 7 yX9_lacks cX9_lacks 2 (some .int) [.ref v0] h (some (.int p.1)) p.2 := by
  obtain ⟨r, h'⟩ := p
  unfold fX9_lacks at hyp
  refine q_bind hyp (fun _ _ hyp => ?_)
  refine q_M.of (by decide) (Nat.le_of_ble_eq_true rfl) ?_
  refine q_to (ls' := [(0, .ref v0)]) (st' := []) rfl rfl ?_
  refine q_aload_n 0 rfl dX9_lacks_0 ?_
  refine q_bind hyp (fun p1 e7 hyp => ?_)
  refine q_callV (as := []) (st := []) kY_X9_all kL_X9_238 (okX9_all (l := l) e7) (by decide) rfl (obX9_all e7) (Nat.le_of_ble_eq_true rfl) dX9_lacks_1 ?_
  refine q_to (ls' := [(0, .ref v0)]) (st' := [.int p1.1]) rfl rfl ?_
  refine q_istore_n (ls' := [(1, .int p1.1), (0, .ref v0)]) (by decide) rfl dX9_lacks_4 ?_
  refine q_iload_n 0 rfl dX9_lacks_5 ?_
  refine q_iconst (x := (-1)) rfl dX9_lacks_6 ?_
  refine q_icmp_ne (tgt := 14) dX9_lacks_7 (by decide) (fun c2 => ?_) (fun c2 => ?_)
  · have hyp := q_neg c2 hyp
    refine q_iconst (x := 0) rfl dX9_lacks_14 ?_
    refine q_iload_n 0 rfl dX9_lacks_15 ?_
    refine q_aload_n 1 rfl dX9_lacks_16 ?_
    refine q_bind hyp (fun x3 e4 hyp => ?_)
    refine q_getR kF_X9_38 dX9_lacks_17 e4 ?_
    refine q_bind hyp (fun x5 e6 hyp => ?_)
    refine q_getI kF_X9_241 dX9_lacks_20 e6 ?_
    refine q_isub dX9_lacks_23 ?_
    refine q_max kL_X9_244 kS_max kZ_math kD_max (by decide) (Nat.le_of_ble_eq_true rfl) dX9_lacks_24 ?_
    exact q_iretH rfl rfl dX9_lacks_27 hyp
  · have hyp := q_pos c2 hyp
    refine q_iconst (x := (-1)) rfl dX9_lacks_10 ?_
    refine q_goto (tgt := 27) dX9_lacks_11 (by decide) ?_
    exact q_iretH rfl rfl dX9_lacks_27 hyp
theorem dX9_later_0 : decode cX9_later 0 = .ok (.aload_n 0, 1) := by decide +kernel
theorem dX9_later_1 : decode cX9_later 1 = .ok (.iload_n 1, 1) := by decide +kernel
theorem dX9_later_2 : decode cX9_later 2 = .ok (.invokevirtual 122, 3) := by decide +kernel
theorem dX9_later_5 : decode cX9_later 5 = .ok (.ifCond .eq 13, 3) := by decide +kernel
theorem dX9_later_8 : decode cX9_later 8 = .ok (.iload_n 2, 1) := by decide +kernel
theorem dX9_later_9 : decode cX9_later 9 = .ok (.iconst 0, 1) := by decide +kernel
theorem dX9_later_10 : decode cX9_later 10 = .ok (.bipush 60, 2) := by decide +kernel
theorem dX9_later_12 : decode cX9_later 12 = .ok (.invokestatic 180, 3) := by decide +kernel
theorem dX9_later_15 : decode cX9_later 15 = .ok (.ifCond .ne 5, 3) := by decide +kernel
theorem dX9_later_18 : decode cX9_later 18 = .ok (.iconst (-1), 1) := by decide +kernel
theorem dX9_later_19 : decode cX9_later 19 = .ok (.ireturn, 1) := by decide +kernel
theorem dX9_later_20 : decode cX9_later 20 = .ok (.aload_n 0, 1) := by decide +kernel
theorem dX9_later_21 : decode cX9_later 21 = .ok (.getfield 38, 3) := by decide +kernel
theorem dX9_later_24 : decode cX9_later 24 = .ok (.getfield 132, 3) := by decide +kernel
theorem dX9_later_27 : decode cX9_later 27 = .ok (.iload_n 1, 1) := by decide +kernel
theorem dX9_later_28 : decode cX9_later 28 = .ok (.iaload, 1) := by decide +kernel
theorem dX9_later_29 : decode cX9_later 29 = .ok (.istore_n 3, 1) := by decide +kernel
theorem dX9_later_30 : decode cX9_later 30 = .ok (.iconst 0, 1) := by decide +kernel
theorem dX9_later_31 : decode cX9_later 31 = .ok (.istore 4, 2) := by decide +kernel
theorem dX9_later_33 : decode cX9_later 33 = .ok (.iload 4, 2) := by decide +kernel
theorem dX9_later_35 : decode cX9_later 35 = .ok (.iload_n 2, 1) := by decide +kernel
theorem dX9_later_36 : decode cX9_later 36 = .ok (.if_icmp .ge 28, 3) := by decide +kernel
theorem dX9_later_39 : decode cX9_later 39 = .ok (.aload_n 0, 1) := by decide +kernel
theorem dX9_later_40 : decode cX9_later 40 = .ok (.getfield 28, 3) := by decide +kernel
theorem dX9_later_43 : decode cX9_later 43 = .ok (.iload_n 1, 1) := by decide +kernel
theorem dX9_later_44 : decode cX9_later 44 = .ok (.iload_n 3, 1) := by decide +kernel
theorem dX9_later_45 : decode cX9_later 45 = .ok (.aload_n 0, 1) := by decide +kernel
theorem dX9_later_46 : decode cX9_later 46 = .ok (.getfield 38, 3) := by decide +kernel
theorem dX9_later_49 : decode cX9_later 49 = .ok (.getfield 135, 3) := by decide +kernel
theorem dX9_later_52 : decode cX9_later 52 = .ok (.iload_n 1, 1) := by decide +kernel
theorem dX9_later_53 : decode cX9_later 53 = .ok (.iaload, 1) := by decide +kernel
theorem dX9_later_54 : decode cX9_later 54 = .ok (.invokevirtual 249, 3) := by decide +kernel
theorem dX9_later_57 : decode cX9_later 57 = .ok (.istore_n 3, 1) := by decide +kernel
theorem dX9_later_58 : decode cX9_later 58 = .ok (.iinc 4 1, 3) := by decide +kernel
theorem dX9_later_61 : decode cX9_later 61 = .ok (.goto (-28), 3) := by decide +kernel
theorem dX9_later_64 : decode cX9_later 64 = .ok (.iload_n 3, 1) := by decide +kernel
theorem dX9_later_65 : decode cX9_later 65 = .ok (.ireturn, 1) := by decide +kernel
def fX9_later_b33 (n : Nat) : Nat → Nat → Int32 → Int32 → Int32 → Int32 → qH → Option (Int32 × qH)
  | 0, _, _, _, _, _, _ => none
  | w + 1, v0, v1, v2, v3, v4, h =>
    if v2 ≤ v4 then
    (some (v3, h))
    else
    ((gR h v0 9 2).bind fun x2 =>
    (gR h v0 9 4).bind fun x4 =>
    (gR h x4 8 1).bind fun x6 =>
    (aI .int h x6 v1).bind fun x8 =>
    (fX5_sourAfterYear x2 v1 v3 x8 h).bind fun p10 =>
    fX9_later_b33 n w v0 v1 v2 p10.1 (v4 + 1) p10.2)
set_option maxHeartbeats 4000000 in
set_option maxRecDepth 100000 in
theorem okX9_later_b33 {l : Launch} {n : Nat} {r : Int32} {h' : qH} : ∀ (w : Nat) (v0 : Nat) (v1 : Int32) (v2 : Int32) (v3 : Int32) (v4 : Int32) (h : qH), fX9_later_b33 n w v0 v1 v2 v3 v4 h = some (r, h') → q_W l 2 yX9_later cX9_later 5 (some .int) (some (.int r)) h' 33 [(0, .ref v0), (1, .int v1), (2, .int v2), (3, .int v3), (4, .int v4)] [] h := by
  intro w
  induction w with
  | zero => intro v0 v1 v2 v3 v4 h hyp; cases hyp
  | succ w ih =>
    intro v0 v1 v2 v3 v4 h hyp
    unfold fX9_later_b33 at hyp
    refine q_iload 4 rfl dX9_later_33 ?_
    refine q_iload_n 2 rfl dX9_later_35 ?_
    refine q_icmp_ge (tgt := 64) dX9_later_36 (by decide) (fun c1 => ?_) (fun c1 => ?_)
    · have hyp := q_pos c1 hyp
      refine q_iload_n 3 rfl dX9_later_64 ?_
      exact q_iretH rfl rfl dX9_later_65 hyp
    · have hyp := q_neg c1 hyp
      refine q_aload_n 0 rfl dX9_later_39 ?_
      refine q_bind hyp (fun x2 e3 hyp => ?_)
      refine q_getR kF_X9_28 dX9_later_40 e3 ?_
      refine q_iload_n 1 rfl dX9_later_43 ?_
      refine q_iload_n 3 rfl dX9_later_44 ?_
      refine q_aload_n 0 rfl dX9_later_45 ?_
      refine q_bind hyp (fun x4 e5 hyp => ?_)
      refine q_getR kF_X9_38 dX9_later_46 e5 ?_
      refine q_bind hyp (fun x6 e7 hyp => ?_)
      refine q_getR kF_X9_135 dX9_later_49 e7 ?_
      refine q_iload_n 1 rfl dX9_later_52 ?_
      refine q_bind hyp (fun x8 e9 hyp => ?_)
      refine q_iald dX9_later_53 e9 ?_
      refine q_bind hyp (fun p10 e11 hyp => ?_)
      refine q_callV (as := [.int v1, .int v3, .int x8]) (st := []) kY_X5_sourAfterYear kL_X9_249 (okX5_sourAfterYear (l := l) e11) (by decide) rfl (obX5_sourAfterYear e11) (Nat.le_of_ble_eq_true rfl) dX9_later_54 ?_
      refine q_to (ls' := [(0, .ref v0), (1, .int v1), (2, .int v2), (3, .int v3), (4, .int v4)]) (st' := [.int p10.1]) rfl rfl ?_
      refine q_istore_n (ls' := [(3, .int p10.1), (0, .ref v0), (1, .int v1), (2, .int v2), (4, .int v4)]) (by decide) rfl dX9_later_57 ?_
      refine q_iinc (ls' := [(4, .int (v4 + 1)), (3, .int p10.1), (0, .ref v0), (1, .int v1), (2, .int v2)]) 4 rfl rfl (by decide) rfl dX9_later_58 ?_
      refine q_goto (tgt := 33) dX9_later_61 (by decide) ?_
      exact q_sub [2, 3, 4, 1, 0] rfl (ih v0 v1 v2 p10.1 (v4 + 1) p10.2 hyp)
def fX9_later (n : Nat) (v0 : Nat) (v1 : Int32) (v2 : Int32) (h : qH) : Option (Int32 × qH) :=
  (isO h v0 9).bind fun _ =>
  (fX9_isMatter v0 v1 h).bind fun p1 =>
  if p1.1 = 0 then
  (some ((-1), p1.2))
  else
  ((fX9_within v2 0 60 p1.2).bind fun p3 =>
  if p3.1 = 0 then
  (some ((-1), p3.2))
  else
  ((gR p3.2 v0 9 4).bind fun x5 =>
  (gR p3.2 x5 8 0).bind fun x7 =>
  (aI .int p3.2 x7 v1).bind fun x9 =>
  fX9_later_b33 n n v0 v1 v2 x9 0 p3.2))
theorem obX9_later {n : Nat} {v0 : Nat} {v1 : Int32} {v2 : Int32} {h : qH} {p : Int32 × qH} (hyp : fX9_later n v0 v1 v2 h = some p) : ∃ fs, h.1 v0 = some (.inr (9, fs)) := by
  unfold fX9_later at hyp
  exact q_bind hyp (fun _ e _ => isO_some e)
set_option maxHeartbeats 4000000 in
set_option maxRecDepth 100000 in
theorem okX9_later {l : Launch} {n : Nat} {v0 : Nat} {v1 : Int32} {v2 : Int32} {h : qH} {p : Int32 × qH} (hyp : fX9_later n v0 v1 v2 h = some p) : q_M l 2 yX9_later cX9_later 5 (some .int) [.ref v0, .int v1, .int v2] h (some (.int p.1)) p.2 := by
  obtain ⟨r, h'⟩ := p
  unfold fX9_later at hyp
  refine q_bind hyp (fun _ _ hyp => ?_)
  refine q_M.of (by decide) (Nat.le_of_ble_eq_true rfl) ?_
  refine q_to (ls' := [(0, .ref v0), (1, .int v1), (2, .int v2)]) (st' := []) rfl rfl ?_
  refine q_aload_n 0 rfl dX9_later_0 ?_
  refine q_iload_n 1 rfl dX9_later_1 ?_
  refine q_bind hyp (fun p1 e12 hyp => ?_)
  refine q_callV (as := [.int v1]) (st := []) kY_X9_isMatter kL_X9_122 (okX9_isMatter (l := l) e12) (by decide) rfl (obX9_isMatter e12) (Nat.le_of_ble_eq_true rfl) dX9_later_2 ?_
  refine q_to (ls' := [(0, .ref v0), (1, .int v1), (2, .int v2)]) (st' := [.int p1.1]) rfl rfl ?_
  refine q_if_eq (tgt := 18) dX9_later_5 (by decide) (fun c2 => ?_) (fun c2 => ?_)
  · have hyp := q_pos c2 hyp
    refine q_iconst (x := (-1)) rfl dX9_later_18 ?_
    exact q_iretH rfl rfl dX9_later_19 hyp
  · have hyp := q_neg c2 hyp
    refine q_iload_n 2 rfl dX9_later_8 ?_
    refine q_iconst (x := 0) rfl dX9_later_9 ?_
    refine q_bipush (x := 60) (by decide) dX9_later_10 ?_
    refine q_bind hyp (fun p3 e11 hyp => ?_)
    refine q_callS (as := [.int v2, .int 0, .int 60]) (st := []) kY_X9_within kS_X9_within kL_X9_180 (okX9_within (l := l) e11) (by decide) rfl (Nat.le_of_ble_eq_true rfl) dX9_later_12 ?_
    refine q_to (ls' := [(0, .ref v0), (1, .int v1), (2, .int v2)]) (st' := [.int p3.1]) rfl rfl ?_
    refine q_if_ne (tgt := 20) dX9_later_15 (by decide) (fun c4 => ?_) (fun c4 => ?_)
    · have hyp := q_neg c4 hyp
      refine q_aload_n 0 rfl dX9_later_20 ?_
      refine q_bind hyp (fun x5 e6 hyp => ?_)
      refine q_getR kF_X9_38 dX9_later_21 e6 ?_
      refine q_bind hyp (fun x7 e8 hyp => ?_)
      refine q_getR kF_X9_132 dX9_later_24 e8 ?_
      refine q_iload_n 1 rfl dX9_later_27 ?_
      refine q_bind hyp (fun x9 e10 hyp => ?_)
      refine q_iald dX9_later_28 e10 ?_
      refine q_istore_n (ls' := [(3, .int x9), (0, .ref v0), (1, .int v1), (2, .int v2)]) (by decide) rfl dX9_later_29 ?_
      refine q_iconst (x := 0) rfl dX9_later_30 ?_
      refine q_istore (ls' := [(4, .int 0), (3, .int x9), (0, .ref v0), (1, .int v1), (2, .int v2)]) (by decide) rfl dX9_later_31 ?_
      exact q_sub [2, 3, 4, 1, 0] rfl (okX9_later_b33 _ v0 v1 v2 x9 0 p3.2 hyp)
    · have hyp := q_pos c4 hyp
      refine q_iconst (x := (-1)) rfl dX9_later_18 ?_
      exact q_iretH rfl rfl dX9_later_19 hyp
theorem dX9_nextDraw_0 : decode cX9_nextDraw 0 = .ok (.lload_n 0, 1) := by decide +kernel
theorem dX9_nextDraw_1 : decode cX9_nextDraw 1 = .ok (.ldc2_w 324, 3) := by decide +kernel
theorem dX9_nextDraw_4 : decode cX9_nextDraw 4 = .ok (.lmul, 1) := by decide +kernel
theorem dX9_nextDraw_5 : decode cX9_nextDraw 5 = .ok (.ldc2_w 326, 3) := by decide +kernel
theorem dX9_nextDraw_8 : decode cX9_nextDraw 8 = .ok (.ladd, 1) := by decide +kernel
theorem dX9_nextDraw_9 : decode cX9_nextDraw 9 = .ok (.ldc2_w 328, 3) := by decide +kernel
theorem dX9_nextDraw_12 : decode cX9_nextDraw 12 = .ok (.lrem, 1) := by decide +kernel
theorem dX9_nextDraw_13 : decode cX9_nextDraw 13 = .ok (.lreturn, 1) := by decide +kernel
def fX9_nextDraw (v0 : Int64) (h : qH) : Option (Int64 × qH) :=
  some (((v0 * 1103515245) + 12345) - ((v0 * 1103515245) + 12345) / 2147483648 * 2147483648, h)
set_option maxHeartbeats 4000000 in
set_option maxRecDepth 100000 in
theorem okX9_nextDraw {l : Launch} {v0 : Int64} {h : qH} {p : Int64 × qH} (hyp : fX9_nextDraw v0 h = some p) : q_M l 1 yX9_nextDraw cX9_nextDraw 2 (some .long) [.long v0] h (some (.long p.1)) p.2 := by
  obtain ⟨r, h'⟩ := p
  unfold fX9_nextDraw at hyp
  refine q_M.of (by decide) (Nat.le_of_ble_eq_true rfl) ?_
  refine q_to (ls' := [(0, .long v0)]) (st' := []) rfl rfl ?_
  refine q_lload_n 0 rfl dX9_nextDraw_0 ?_
  refine q_ldc2 kK_X9_324 dX9_nextDraw_1 ?_
  refine q_lmul dX9_nextDraw_4 ?_
  refine q_ldc2 kK_X9_326 dX9_nextDraw_5 ?_
  refine q_ladd dX9_nextDraw_8 ?_
  refine q_ldc2 kK_X9_328 dX9_nextDraw_9 ?_
  refine q_lrem dX9_nextDraw_12 (by decide) ?_
  exact q_lretH rfl dX9_nextDraw_13 hyp
theorem dX9_liveYears_0 : decode cX9_liveYears 0 = .ok (.iconst 0, 1) := by decide +kernel
theorem dX9_liveYears_1 : decode cX9_liveYears 1 = .ok (.istore_n 3, 1) := by decide +kernel
theorem dX9_liveYears_2 : decode cX9_liveYears 2 = .ok (.iload_n 1, 1) := by decide +kernel
theorem dX9_liveYears_3 : decode cX9_liveYears 3 = .ok (.i2l, 1) := by decide +kernel
theorem dX9_liveYears_4 : decode cX9_liveYears 4 = .ok (.lstore 4, 2) := by decide +kernel
theorem dX9_liveYears_6 : decode cX9_liveYears 6 = .ok (.aload_n 0, 1) := by decide +kernel
theorem dX9_liveYears_7 : decode cX9_liveYears 7 = .ok (.getfield 42, 3) := by decide +kernel
theorem dX9_liveYears_10 : decode cX9_liveYears 10 = .ok (.aload_n 0, 1) := by decide +kernel
theorem dX9_liveYears_11 : decode cX9_liveYears 11 = .ok (.getfield 38, 3) := by decide +kernel
theorem dX9_liveYears_14 : decode cX9_liveYears 14 = .ok (.invokevirtual 256, 3) := by decide +kernel
theorem dX9_liveYears_17 : decode cX9_liveYears 17 = .ok (.iconst 0, 1) := by decide +kernel
theorem dX9_liveYears_18 : decode cX9_liveYears 18 = .ok (.istore 6, 2) := by decide +kernel
theorem dX9_liveYears_20 : decode cX9_liveYears 20 = .ok (.iload 6, 2) := by decide +kernel
theorem dX9_liveYears_22 : decode cX9_liveYears 22 = .ok (.iload_n 2, 1) := by decide +kernel
theorem dX9_liveYears_23 : decode cX9_liveYears 23 = .ok (.if_icmp .ge 117, 3) := by decide +kernel
theorem dX9_liveYears_26 : decode cX9_liveYears 26 = .ok (.aload_n 0, 1) := by decide +kernel
theorem dX9_liveYears_27 : decode cX9_liveYears 27 = .ok (.getfield 28, 3) := by decide +kernel
theorem dX9_liveYears_30 : decode cX9_liveYears 30 = .ok (.getfield 220, 3) := by decide +kernel
theorem dX9_liveYears_33 : decode cX9_liveYears 33 = .ok (.ifCond .le 90, 3) := by decide +kernel
theorem dX9_liveYears_36 : decode cX9_liveYears 36 = .ok (.lload 4, 2) := by decide +kernel
theorem dX9_liveYears_38 : decode cX9_liveYears 38 = .ok (.invokestatic 316, 3) := by decide +kernel
theorem dX9_liveYears_41 : decode cX9_liveYears 41 = .ok (.lstore 4, 2) := by decide +kernel
theorem dX9_liveYears_43 : decode cX9_liveYears 43 = .ok (.lload 4, 2) := by decide +kernel
theorem dX9_liveYears_45 : decode cX9_liveYears 45 = .ok (.aload_n 0, 1) := by decide +kernel
theorem dX9_liveYears_46 : decode cX9_liveYears 46 = .ok (.getfield 28, 3) := by decide +kernel
theorem dX9_liveYears_49 : decode cX9_liveYears 49 = .ok (.getfield 220, 3) := by decide +kernel
theorem dX9_liveYears_52 : decode cX9_liveYears 52 = .ok (.invokestatic 320, 3) := by decide +kernel
theorem dX9_liveYears_55 : decode cX9_liveYears 55 = .ok (.istore 7, 2) := by decide +kernel
theorem dX9_liveYears_57 : decode cX9_liveYears 57 = .ok (.lload 4, 2) := by decide +kernel
theorem dX9_liveYears_59 : decode cX9_liveYears 59 = .ok (.invokestatic 316, 3) := by decide +kernel
theorem dX9_liveYears_62 : decode cX9_liveYears 62 = .ok (.lstore 4, 2) := by decide +kernel
theorem dX9_liveYears_64 : decode cX9_liveYears 64 = .ok (.lload 4, 2) := by decide +kernel
theorem dX9_liveYears_66 : decode cX9_liveYears 66 = .ok (.iconst 4, 1) := by decide +kernel
theorem dX9_liveYears_67 : decode cX9_liveYears 67 = .ok (.invokestatic 320, 3) := by decide +kernel
theorem dX9_liveYears_70 : decode cX9_liveYears 70 = .ok (.istore 8, 2) := by decide +kernel
theorem dX9_liveYears_72 : decode cX9_liveYears 72 = .ok (.iload 8, 2) := by decide +kernel
theorem dX9_liveYears_74 : decode cX9_liveYears 74 = .ok (.ifCond .ne 22, 3) := by decide +kernel
theorem dX9_liveYears_77 : decode cX9_liveYears 77 = .ok (.aload_n 0, 1) := by decide +kernel
theorem dX9_liveYears_78 : decode cX9_liveYears 78 = .ok (.getfield 42, 3) := by decide +kernel
theorem dX9_liveYears_81 : decode cX9_liveYears 81 = .ok (.aload_n 0, 1) := by decide +kernel
theorem dX9_liveYears_82 : decode cX9_liveYears 82 = .ok (.getfield 28, 3) := by decide +kernel
theorem dX9_liveYears_85 : decode cX9_liveYears 85 = .ok (.bipush 9, 2) := by decide +kernel
theorem dX9_liveYears_87 : decode cX9_liveYears 87 = .ok (.iload 7, 2) := by decide +kernel
theorem dX9_liveYears_89 : decode cX9_liveYears 89 = .ok (.invokevirtual 191, 3) := by decide +kernel
theorem dX9_liveYears_92 : decode cX9_liveYears 92 = .ok (.pop, 1) := by decide +kernel
theorem dX9_liveYears_93 : decode cX9_liveYears 93 = .ok (.goto 30, 3) := by decide +kernel
theorem dX9_liveYears_96 : decode cX9_liveYears 96 = .ok (.iload 8, 2) := by decide +kernel
theorem dX9_liveYears_98 : decode cX9_liveYears 98 = .ok (.iconst 2, 1) := by decide +kernel
theorem dX9_liveYears_99 : decode cX9_liveYears 99 = .ok (.if_icmp .gt 24, 3) := by decide +kernel
theorem dX9_liveYears_102 : decode cX9_liveYears 102 = .ok (.aload_n 0, 1) := by decide +kernel
theorem dX9_liveYears_103 : decode cX9_liveYears 103 = .ok (.getfield 42, 3) := by decide +kernel
theorem dX9_liveYears_106 : decode cX9_liveYears 106 = .ok (.aload_n 0, 1) := by decide +kernel
theorem dX9_liveYears_107 : decode cX9_liveYears 107 = .ok (.getfield 28, 3) := by decide +kernel
theorem dX9_liveYears_110 : decode cX9_liveYears 110 = .ok (.bipush 8, 2) := by decide +kernel
theorem dX9_liveYears_112 : decode cX9_liveYears 112 = .ok (.iload 7, 2) := by decide +kernel
theorem dX9_liveYears_114 : decode cX9_liveYears 114 = .ok (.invokevirtual 191, 3) := by decide +kernel
theorem dX9_liveYears_117 : decode cX9_liveYears 117 = .ok (.ifCond .eq 6, 3) := by decide +kernel
theorem dX9_liveYears_120 : decode cX9_liveYears 120 = .ok (.iinc 3 1, 3) := by decide +kernel
theorem dX9_liveYears_123 : decode cX9_liveYears 123 = .ok (.aload_n 0, 1) := by decide +kernel
theorem dX9_liveYears_124 : decode cX9_liveYears 124 = .ok (.getfield 42, 3) := by decide +kernel
theorem dX9_liveYears_127 : decode cX9_liveYears 127 = .ok (.aload_n 0, 1) := by decide +kernel
theorem dX9_liveYears_128 : decode cX9_liveYears 128 = .ok (.getfield 28, 3) := by decide +kernel
theorem dX9_liveYears_131 : decode cX9_liveYears 131 = .ok (.invokevirtual 167, 3) := by decide +kernel
theorem dX9_liveYears_134 : decode cX9_liveYears 134 = .ok (.iinc 6 1, 3) := by decide +kernel
theorem dX9_liveYears_137 : decode cX9_liveYears 137 = .ok (.goto (-117), 3) := by decide +kernel
theorem dX9_liveYears_140 : decode cX9_liveYears 140 = .ok (.iload_n 3, 1) := by decide +kernel
theorem dX9_liveYears_141 : decode cX9_liveYears 141 = .ok (.ireturn, 1) := by decide +kernel
def fX9_liveYears_b123 (n : Nat) (K20 : Nat → Int32 → Int32 → Int64 → Int32 → qH → Option (Int32 × qH)) (v0 : Nat) (v2 : Int32) (v3 : Int32) (v4 : Int64) (v6 : Int32) (h : qH) : Option (Int32 × qH) :=
  (gR h v0 9 5).bind fun x1 =>
  (gR h v0 9 2).bind fun x3 =>
  (fX8_pass n x1 x3 h).bind fun h5 =>
  K20 v0 v2 v3 v4 (v6 + 1) h5
set_option maxHeartbeats 4000000 in
set_option maxRecDepth 100000 in
theorem okX9_liveYears_b123 {l : Launch} {n : Nat} {K20 : Nat → Int32 → Int32 → Int64 → Int32 → qH → Option (Int32 × qH)} {v0 : Nat} {v2 : Int32} {v3 : Int32} {v4 : Int64} {v6 : Int32} {h : qH} {r : Int32} {h' : qH} (hK20 : ∀ (v0 : Nat) (v2 : Int32) (v3 : Int32) (v4 : Int64) (v6 : Int32) (h : qH), K20 v0 v2 v3 v4 v6 h = some (r, h') → q_W l 6 yX9_liveYears cX9_liveYears 9 (some .int) (some (.int r)) h' 20 [(0, .ref v0), (2, .int v2), (3, .int v3), (4, .long v4), (6, .int v6)] [] h) (hyp : fX9_liveYears_b123 n K20 v0 v2 v3 v4 v6 h = some (r, h')) : q_W l 6 yX9_liveYears cX9_liveYears 9 (some .int) (some (.int r)) h' 123 [(0, .ref v0), (2, .int v2), (3, .int v3), (4, .long v4), (6, .int v6)] [] h := by
  unfold fX9_liveYears_b123 at hyp
  refine q_aload_n 0 rfl dX9_liveYears_123 ?_
  refine q_bind hyp (fun x1 e2 hyp => ?_)
  refine q_getR kF_X9_42 dX9_liveYears_124 e2 ?_
  refine q_aload_n 0 rfl dX9_liveYears_127 ?_
  refine q_bind hyp (fun x3 e4 hyp => ?_)
  refine q_getR kF_X9_28 dX9_liveYears_128 e4 ?_
  refine q_bind hyp (fun h5 e6 hyp => ?_)
  refine q_callV (as := [.ref x3]) (st := []) kY_X8_pass kL_X9_167 (okX8_pass (l := l) e6) (by decide) rfl (obX8_pass e6) (Nat.le_of_ble_eq_true rfl) dX9_liveYears_131 ?_
  refine q_to (ls' := [(0, .ref v0), (2, .int v2), (3, .int v3), (4, .long v4), (6, .int v6)]) (st' := []) rfl rfl ?_
  refine q_iinc (ls' := [(6, .int (v6 + 1)), (0, .ref v0), (2, .int v2), (3, .int v3), (4, .long v4)]) 4 rfl rfl (by decide) rfl dX9_liveYears_134 ?_
  refine q_goto (tgt := 20) dX9_liveYears_137 (by decide) ?_
  exact q_sub [1, 2, 3, 4, 0] rfl (hK20 v0 v2 v3 v4 (v6 + 1) h5 hyp)
def fX9_liveYears_b20 (n : Nat) : Nat → Nat → Int32 → Int32 → Int64 → Int32 → qH → Option (Int32 × qH)
  | 0, _, _, _, _, _, _ => none
  | w + 1, v0, v2, v3, v4, v6, h =>
    if v2 ≤ v6 then
    (some (v3, h))
    else
    ((gR h v0 9 2).bind fun x2 =>
    (gI h x2 5 6).bind fun x4 =>
    if x4 ≤ 0 then
    (fX9_liveYears_b123 n (fX9_liveYears_b20 n w) v0 v2 v3 v4 v6 h)
    else
    ((fX9_nextDraw v4 h).bind fun p7 =>
    (gR p7.2 v0 9 2).bind fun x8 =>
    (gI p7.2 x8 5 6).bind fun x10 =>
    (fX9_drawnBelow p7.1 x10 p7.2).bind fun p12 =>
    (fX9_nextDraw p7.1 p12.2).bind fun p13 =>
    (fX9_drawnBelow p13.1 4 p13.2).bind fun p14 =>
    if p14.1 = 0 then
    ((gR p14.2 v0 9 5).bind fun x24 =>
    (gR p14.2 v0 9 2).bind fun x26 =>
    (fX8_follow n x24 x26 9 p12.1 p14.2).bind fun p28 =>
    fX9_liveYears_b123 n (fX9_liveYears_b20 n w) v0 v2 v3 p13.1 v6 p28.2)
    else
    (if 2 < p14.1 then
    (fX9_liveYears_b123 n (fX9_liveYears_b20 n w) v0 v2 v3 p13.1 v6 p14.2)
    else
    ((gR p14.2 v0 9 5).bind fun x17 =>
    (gR p14.2 v0 9 2).bind fun x19 =>
    (fX8_follow n x17 x19 8 p12.1 p14.2).bind fun p21 =>
    if p21.1 = 0 then
    (fX9_liveYears_b123 n (fX9_liveYears_b20 n w) v0 v2 v3 p13.1 v6 p21.2)
    else
    (fX9_liveYears_b123 n (fX9_liveYears_b20 n w) v0 v2 (v3 + 1) p13.1 v6 p21.2)))))
set_option maxHeartbeats 4000000 in
set_option maxRecDepth 100000 in
theorem okX9_liveYears_b20 {l : Launch} {n : Nat} {r : Int32} {h' : qH} : ∀ (w : Nat) (v0 : Nat) (v2 : Int32) (v3 : Int32) (v4 : Int64) (v6 : Int32) (h : qH), fX9_liveYears_b20 n w v0 v2 v3 v4 v6 h = some (r, h') → q_W l 6 yX9_liveYears cX9_liveYears 9 (some .int) (some (.int r)) h' 20 [(0, .ref v0), (2, .int v2), (3, .int v3), (4, .long v4), (6, .int v6)] [] h := by
  intro w
  induction w with
  | zero => intro v0 v2 v3 v4 v6 h hyp; cases hyp
  | succ w ih =>
    intro v0 v2 v3 v4 v6 h hyp
    unfold fX9_liveYears_b20 at hyp
    refine q_iload 4 rfl dX9_liveYears_20 ?_
    refine q_iload_n 1 rfl dX9_liveYears_22 ?_
    refine q_icmp_ge (tgt := 140) dX9_liveYears_23 (by decide) (fun c1 => ?_) (fun c1 => ?_)
    · have hyp := q_pos c1 hyp
      refine q_iload_n 2 rfl dX9_liveYears_140 ?_
      exact q_iretH rfl rfl dX9_liveYears_141 hyp
    · have hyp := q_neg c1 hyp
      refine q_aload_n 0 rfl dX9_liveYears_26 ?_
      refine q_bind hyp (fun x2 e3 hyp => ?_)
      refine q_getR kF_X9_28 dX9_liveYears_27 e3 ?_
      refine q_bind hyp (fun x4 e5 hyp => ?_)
      refine q_getI kF_X9_220 dX9_liveYears_30 e5 ?_
      refine q_if_le (tgt := 123) dX9_liveYears_33 (by decide) (fun c6 => ?_) (fun c6 => ?_)
      · have hyp := q_pos c6 hyp
        exact q_sub [0, 1, 2, 3, 4] rfl (okX9_liveYears_b123 ih hyp)
      · have hyp := q_neg c6 hyp
        refine q_lload 3 rfl dX9_liveYears_36 ?_
        refine q_bind hyp (fun p7 e33 hyp => ?_)
        refine q_callS (as := [.long v4]) (st := []) kY_X9_nextDraw kS_X9_nextDraw kL_X9_316 (okX9_nextDraw (l := l) e33) (by decide) rfl (Nat.le_of_ble_eq_true rfl) dX9_liveYears_38 ?_
        refine q_to (ls' := [(0, .ref v0), (2, .int v2), (3, .int v3), (4, .long v4), (6, .int v6)]) (st' := [.long p7.1]) rfl rfl ?_
        refine q_lstore (ls' := [(4, .long p7.1), (0, .ref v0), (2, .int v2), (3, .int v3), (6, .int v6)]) (by decide) rfl dX9_liveYears_41 ?_
        refine q_lload 0 rfl dX9_liveYears_43 ?_
        refine q_aload_n 1 rfl dX9_liveYears_45 ?_
        refine q_bind hyp (fun x8 e9 hyp => ?_)
        refine q_getR kF_X9_28 dX9_liveYears_46 e9 ?_
        refine q_bind hyp (fun x10 e11 hyp => ?_)
        refine q_getI kF_X9_220 dX9_liveYears_49 e11 ?_
        refine q_bind hyp (fun p12 e32 hyp => ?_)
        refine q_callS (as := [.long p7.1, .int x10]) (st := []) kY_X9_drawnBelow kS_X9_drawnBelow kL_X9_320 (okX9_drawnBelow (l := l) e32) (by decide) rfl (Nat.le_of_ble_eq_true rfl) dX9_liveYears_52 ?_
        refine q_to (ls' := [(4, .long p7.1), (0, .ref v0), (2, .int v2), (3, .int v3), (6, .int v6)]) (st' := [.int p12.1]) rfl rfl ?_
        refine q_istore (ls' := [(7, .int p12.1), (4, .long p7.1), (0, .ref v0), (2, .int v2), (3, .int v3), (6, .int v6)]) (by decide) rfl dX9_liveYears_55 ?_
        refine q_lload 1 rfl dX9_liveYears_57 ?_
        refine q_bind hyp (fun p13 e31 hyp => ?_)
        refine q_callS (as := [.long p7.1]) (st := []) kY_X9_nextDraw kS_X9_nextDraw kL_X9_316 (okX9_nextDraw (l := l) e31) (by decide) rfl (Nat.le_of_ble_eq_true rfl) dX9_liveYears_59 ?_
        refine q_to (ls' := [(7, .int p12.1), (4, .long p7.1), (0, .ref v0), (2, .int v2), (3, .int v3), (6, .int v6)]) (st' := [.long p13.1]) rfl rfl ?_
        refine q_lstore (ls' := [(4, .long p13.1), (7, .int p12.1), (0, .ref v0), (2, .int v2), (3, .int v3), (6, .int v6)]) (by decide) rfl dX9_liveYears_62 ?_
        refine q_lload 0 rfl dX9_liveYears_64 ?_
        refine q_iconst (x := 4) rfl dX9_liveYears_66 ?_
        refine q_bind hyp (fun p14 e30 hyp => ?_)
        refine q_callS (as := [.long p13.1, .int 4]) (st := []) kY_X9_drawnBelow kS_X9_drawnBelow kL_X9_320 (okX9_drawnBelow (l := l) e30) (by decide) rfl (Nat.le_of_ble_eq_true rfl) dX9_liveYears_67 ?_
        refine q_to (ls' := [(4, .long p13.1), (7, .int p12.1), (0, .ref v0), (2, .int v2), (3, .int v3), (6, .int v6)]) (st' := [.int p14.1]) rfl rfl ?_
        refine q_istore (ls' := [(8, .int p14.1), (4, .long p13.1), (7, .int p12.1), (0, .ref v0), (2, .int v2), (3, .int v3), (6, .int v6)]) (by decide) rfl dX9_liveYears_70 ?_
        refine q_iload 0 rfl dX9_liveYears_72 ?_
        refine q_if_ne (tgt := 96) dX9_liveYears_74 (by decide) (fun c15 => ?_) (fun c15 => ?_)
        · have hyp := q_neg c15 hyp
          refine q_iload 0 rfl dX9_liveYears_96 ?_
          refine q_iconst (x := 2) rfl dX9_liveYears_98 ?_
          refine q_icmp_gt (tgt := 123) dX9_liveYears_99 (by decide) (fun c16 => ?_) (fun c16 => ?_)
          · have hyp := q_pos c16 hyp
            exact q_sub [3, 4, 5, 1, 6] rfl (okX9_liveYears_b123 ih hyp)
          · have hyp := q_neg c16 hyp
            refine q_aload_n 3 rfl dX9_liveYears_102 ?_
            refine q_bind hyp (fun x17 e18 hyp => ?_)
            refine q_getR kF_X9_42 dX9_liveYears_103 e18 ?_
            refine q_aload_n 3 rfl dX9_liveYears_106 ?_
            refine q_bind hyp (fun x19 e20 hyp => ?_)
            refine q_getR kF_X9_28 dX9_liveYears_107 e20 ?_
            refine q_bipush (x := 8) (by decide) dX9_liveYears_110 ?_
            refine q_iload 2 rfl dX9_liveYears_112 ?_
            refine q_bind hyp (fun p21 e23 hyp => ?_)
            refine q_callV (as := [.ref x19, .int 8, .int p12.1]) (st := []) kY_X8_follow kL_X9_191 (okX8_follow (l := l) e23) (by decide) rfl (obX8_follow e23) (Nat.le_of_ble_eq_true rfl) dX9_liveYears_114 ?_
            refine q_to (ls' := [(8, .int p14.1), (4, .long p13.1), (7, .int p12.1), (0, .ref v0), (2, .int v2), (3, .int v3), (6, .int v6)]) (st' := [.int p21.1]) rfl rfl ?_
            refine q_if_eq (tgt := 123) dX9_liveYears_117 (by decide) (fun c22 => ?_) (fun c22 => ?_)
            · have hyp := q_pos c22 hyp
              exact q_sub [3, 4, 5, 1, 6] rfl (okX9_liveYears_b123 ih hyp)
            · have hyp := q_neg c22 hyp
              refine q_iinc (ls' := [(3, .int (v3 + 1)), (8, .int p14.1), (4, .long p13.1), (7, .int p12.1), (0, .ref v0), (2, .int v2), (6, .int v6)]) 5 rfl rfl (by decide) rfl dX9_liveYears_120 ?_
              exact q_sub [4, 5, 0, 2, 6] rfl (okX9_liveYears_b123 ih hyp)
        · have hyp := q_pos c15 hyp
          refine q_aload_n 3 rfl dX9_liveYears_77 ?_
          refine q_bind hyp (fun x24 e25 hyp => ?_)
          refine q_getR kF_X9_42 dX9_liveYears_78 e25 ?_
          refine q_aload_n 3 rfl dX9_liveYears_81 ?_
          refine q_bind hyp (fun x26 e27 hyp => ?_)
          refine q_getR kF_X9_28 dX9_liveYears_82 e27 ?_
          refine q_bipush (x := 9) (by decide) dX9_liveYears_85 ?_
          refine q_iload 2 rfl dX9_liveYears_87 ?_
          refine q_bind hyp (fun p28 e29 hyp => ?_)
          refine q_callV (as := [.ref x26, .int 9, .int p12.1]) (st := []) kY_X8_follow kL_X9_191 (okX8_follow (l := l) e29) (by decide) rfl (obX8_follow e29) (Nat.le_of_ble_eq_true rfl) dX9_liveYears_89 ?_
          refine q_to (ls' := [(8, .int p14.1), (4, .long p13.1), (7, .int p12.1), (0, .ref v0), (2, .int v2), (3, .int v3), (6, .int v6)]) (st' := [.int p28.1]) rfl rfl ?_
          refine q_pop rfl dX9_liveYears_92 ?_
          refine q_goto (tgt := 123) dX9_liveYears_93 (by decide) ?_
          exact q_sub [3, 4, 5, 1, 6] rfl (okX9_liveYears_b123 ih hyp)
def fX9_liveYears (n : Nat) (v0 : Nat) (v1 : Int32) (v2 : Int32) (h : qH) : Option (Int32 × qH) :=
  (isO h v0 9).bind fun _ =>
  (gR h v0 9 5).bind fun x1 =>
  (gR h v0 9 4).bind fun x3 =>
  (fX8_copy n x1 x3 h).bind fun h5 =>
  fX9_liveYears_b20 n n v0 v2 0 v1.toInt64 0 h5
theorem obX9_liveYears {n : Nat} {v0 : Nat} {v1 : Int32} {v2 : Int32} {h : qH} {p : Int32 × qH} (hyp : fX9_liveYears n v0 v1 v2 h = some p) : ∃ fs, h.1 v0 = some (.inr (9, fs)) := by
  unfold fX9_liveYears at hyp
  exact q_bind hyp (fun _ e _ => isO_some e)
set_option maxHeartbeats 4000000 in
set_option maxRecDepth 100000 in
theorem okX9_liveYears {l : Launch} {n : Nat} {v0 : Nat} {v1 : Int32} {v2 : Int32} {h : qH} {p : Int32 × qH} (hyp : fX9_liveYears n v0 v1 v2 h = some p) : q_M l 6 yX9_liveYears cX9_liveYears 9 (some .int) [.ref v0, .int v1, .int v2] h (some (.int p.1)) p.2 := by
  obtain ⟨r, h'⟩ := p
  unfold fX9_liveYears at hyp
  refine q_bind hyp (fun _ _ hyp => ?_)
  refine q_M.of (by decide) (Nat.le_of_ble_eq_true rfl) ?_
  refine q_to (ls' := [(0, .ref v0), (1, .int v1), (2, .int v2)]) (st' := []) rfl rfl ?_
  refine q_iconst (x := 0) rfl dX9_liveYears_0 ?_
  refine q_istore_n (ls' := [(3, .int 0), (0, .ref v0), (1, .int v1), (2, .int v2)]) (by decide) rfl dX9_liveYears_1 ?_
  refine q_iload_n 2 rfl dX9_liveYears_2 ?_
  refine q_i2l dX9_liveYears_3 ?_
  refine q_lstore (ls' := [(4, .long v1.toInt64), (3, .int 0), (0, .ref v0), (1, .int v1), (2, .int v2)]) (by decide) rfl dX9_liveYears_4 ?_
  refine q_aload_n 2 rfl dX9_liveYears_6 ?_
  refine q_bind hyp (fun x1 e2 hyp => ?_)
  refine q_getR kF_X9_42 dX9_liveYears_7 e2 ?_
  refine q_aload_n 2 rfl dX9_liveYears_10 ?_
  refine q_bind hyp (fun x3 e4 hyp => ?_)
  refine q_getR kF_X9_38 dX9_liveYears_11 e4 ?_
  refine q_bind hyp (fun h5 e6 hyp => ?_)
  refine q_callV (as := [.ref x3]) (st := []) kY_X8_copy kL_X9_256 (okX8_copy (l := l) e6) (by decide) rfl (obX8_copy e6) (Nat.le_of_ble_eq_true rfl) dX9_liveYears_14 ?_
  refine q_to (ls' := [(4, .long v1.toInt64), (3, .int 0), (0, .ref v0), (1, .int v1), (2, .int v2)]) (st' := []) rfl rfl ?_
  refine q_iconst (x := 0) rfl dX9_liveYears_17 ?_
  refine q_istore (ls' := [(6, .int 0), (4, .long v1.toInt64), (3, .int 0), (0, .ref v0), (1, .int v1), (2, .int v2)]) (by decide) rfl dX9_liveYears_18 ?_
  exact q_sub [3, 5, 2, 1, 0] rfl (okX9_liveYears_b20 _ v0 v2 0 v1.toInt64 0 h5 hyp)
theorem dX9_lost_0 : decode cX9_lost 0 = .ok (.aload_n 0, 1) := by decide +kernel
theorem dX9_lost_1 : decode cX9_lost 1 = .ok (.invokevirtual 223, 3) := by decide +kernel
theorem dX9_lost_4 : decode cX9_lost 4 = .ok (.iconst 0, 1) := by decide +kernel
theorem dX9_lost_5 : decode cX9_lost 5 = .ok (.istore_n 1, 1) := by decide +kernel
theorem dX9_lost_6 : decode cX9_lost 6 = .ok (.iconst 0, 1) := by decide +kernel
theorem dX9_lost_7 : decode cX9_lost 7 = .ok (.istore_n 2, 1) := by decide +kernel
theorem dX9_lost_8 : decode cX9_lost 8 = .ok (.iload_n 2, 1) := by decide +kernel
theorem dX9_lost_9 : decode cX9_lost 9 = .ok (.aload_n 0, 1) := by decide +kernel
theorem dX9_lost_10 : decode cX9_lost 10 = .ok (.getfield 28, 3) := by decide +kernel
theorem dX9_lost_13 : decode cX9_lost 13 = .ok (.getfield 220, 3) := by decide +kernel
theorem dX9_lost_16 : decode cX9_lost 16 = .ok (.if_icmp .ge 24, 3) := by decide +kernel
theorem dX9_lost_19 : decode cX9_lost 19 = .ok (.aload_n 0, 1) := by decide +kernel
theorem dX9_lost_20 : decode cX9_lost 20 = .ok (.iload_n 2, 1) := by decide +kernel
theorem dX9_lost_21 : decode cX9_lost 21 = .ok (.invokevirtual 226, 3) := by decide +kernel
theorem dX9_lost_24 : decode cX9_lost 24 = .ok (.iconst (-1), 1) := by decide +kernel
theorem dX9_lost_25 : decode cX9_lost 25 = .ok (.if_icmp .ne 9, 3) := by decide +kernel
theorem dX9_lost_28 : decode cX9_lost 28 = .ok (.iload_n 1, 1) := by decide +kernel
theorem dX9_lost_29 : decode cX9_lost 29 = .ok (.iconst 1, 1) := by decide +kernel
theorem dX9_lost_30 : decode cX9_lost 30 = .ok (.iload_n 2, 1) := by decide +kernel
theorem dX9_lost_31 : decode cX9_lost 31 = .ok (.ishl, 1) := by decide +kernel
theorem dX9_lost_32 : decode cX9_lost 32 = .ok (.ior, 1) := by decide +kernel
theorem dX9_lost_33 : decode cX9_lost 33 = .ok (.istore_n 1, 1) := by decide +kernel
theorem dX9_lost_34 : decode cX9_lost 34 = .ok (.iinc 2 1, 3) := by decide +kernel
theorem dX9_lost_37 : decode cX9_lost 37 = .ok (.goto (-29), 3) := by decide +kernel
theorem dX9_lost_40 : decode cX9_lost 40 = .ok (.iload_n 1, 1) := by decide +kernel
theorem dX9_lost_41 : decode cX9_lost 41 = .ok (.ireturn, 1) := by decide +kernel
def fX9_lost_b8 (n : Nat) : Nat → Nat → Int32 → Int32 → qH → Option (Int32 × qH)
  | 0, _, _, _, _ => none
  | w + 1, v0, v1, v2, h =>
    (gR h v0 9 2).bind fun x1 =>
    (gI h x1 5 6).bind fun x3 =>
    if x3 ≤ v2 then
    (some (v1, h))
    else
    ((fX9_cheapestFor n v0 v2 h).bind fun p6 =>
    if p6.1 = ((-1)) then
    (fX9_lost_b8 n w v0 (v1 ||| ((1 : Int32) <<< (v2 &&& 31))) (v2 + 1) p6.2)
    else
    (fX9_lost_b8 n w v0 v1 (v2 + 1) p6.2))
set_option maxHeartbeats 4000000 in
set_option maxRecDepth 100000 in
theorem okX9_lost_b8 {l : Launch} {n : Nat} {r : Int32} {h' : qH} : ∀ (w : Nat) (v0 : Nat) (v1 : Int32) (v2 : Int32) (h : qH), fX9_lost_b8 n w v0 v1 v2 h = some (r, h') → q_W l 6 yX9_lost cX9_lost 3 (some .int) (some (.int r)) h' 8 [(0, .ref v0), (1, .int v1), (2, .int v2)] [] h := by
  intro w
  induction w with
  | zero => intro v0 v1 v2 h hyp; cases hyp
  | succ w ih =>
    intro v0 v1 v2 h hyp
    unfold fX9_lost_b8 at hyp
    refine q_iload_n 2 rfl dX9_lost_8 ?_
    refine q_aload_n 0 rfl dX9_lost_9 ?_
    refine q_bind hyp (fun x1 e2 hyp => ?_)
    refine q_getR kF_X9_28 dX9_lost_10 e2 ?_
    refine q_bind hyp (fun x3 e4 hyp => ?_)
    refine q_getI kF_X9_220 dX9_lost_13 e4 ?_
    refine q_icmp_ge (tgt := 40) dX9_lost_16 (by decide) (fun c5 => ?_) (fun c5 => ?_)
    · have hyp := q_pos c5 hyp
      refine q_iload_n 1 rfl dX9_lost_40 ?_
      exact q_iretH rfl rfl dX9_lost_41 hyp
    · have hyp := q_neg c5 hyp
      refine q_aload_n 0 rfl dX9_lost_19 ?_
      refine q_iload_n 2 rfl dX9_lost_20 ?_
      refine q_bind hyp (fun p6 e8 hyp => ?_)
      refine q_callV (as := [.int v2]) (st := []) kY_X9_cheapestFor kL_X9_226 (okX9_cheapestFor (l := l) e8) (by decide) rfl (obX9_cheapestFor e8) (Nat.le_of_ble_eq_true rfl) dX9_lost_21 ?_
      refine q_to (ls' := [(0, .ref v0), (1, .int v1), (2, .int v2)]) (st' := [.int p6.1]) rfl rfl ?_
      refine q_iconst (x := (-1)) rfl dX9_lost_24 ?_
      refine q_icmp_ne (tgt := 34) dX9_lost_25 (by decide) (fun c7 => ?_) (fun c7 => ?_)
      · have hyp := q_neg c7 hyp
        refine q_iinc (ls' := [(2, .int (v2 + 1)), (0, .ref v0), (1, .int v1)]) 2 rfl rfl (by decide) rfl dX9_lost_34 ?_
        refine q_goto (tgt := 8) dX9_lost_37 (by decide) ?_
        exact q_sub [1, 2, 0] rfl (ih v0 v1 (v2 + 1) p6.2 hyp)
      · have hyp := q_pos c7 hyp
        refine q_iload_n 1 rfl dX9_lost_28 ?_
        refine q_iconst (x := 1) rfl dX9_lost_29 ?_
        refine q_iload_n 2 rfl dX9_lost_30 ?_
        refine q_ishl dX9_lost_31 ?_
        refine q_ior dX9_lost_32 ?_
        refine q_istore_n (ls' := [(1, .int (v1 ||| ((1 : Int32) <<< (v2 &&& 31)))), (0, .ref v0), (2, .int v2)]) (by decide) rfl dX9_lost_33 ?_
        refine q_iinc (ls' := [(2, .int (v2 + 1)), (1, .int (v1 ||| ((1 : Int32) <<< (v2 &&& 31)))), (0, .ref v0)]) 2 rfl rfl (by decide) rfl dX9_lost_34 ?_
        refine q_goto (tgt := 8) dX9_lost_37 (by decide) ?_
        exact q_sub [2, 1, 0] rfl (ih v0 (v1 ||| ((1 : Int32) <<< (v2 &&& 31))) (v2 + 1) p6.2 hyp)
def fX9_lost (n : Nat) (v0 : Nat) (h : qH) : Option (Int32 × qH) :=
  (isO h v0 9).bind fun _ =>
  (fX9_reckonCosts n v0 h).bind fun h1 =>
  fX9_lost_b8 n n v0 0 0 h1
theorem obX9_lost {n : Nat} {v0 : Nat} {h : qH} {p : Int32 × qH} (hyp : fX9_lost n v0 h = some p) : ∃ fs, h.1 v0 = some (.inr (9, fs)) := by
  unfold fX9_lost at hyp
  exact q_bind hyp (fun _ e _ => isO_some e)
set_option maxHeartbeats 4000000 in
set_option maxRecDepth 100000 in
theorem okX9_lost {l : Launch} {n : Nat} {v0 : Nat} {h : qH} {p : Int32 × qH} (hyp : fX9_lost n v0 h = some p) : q_M l 6 yX9_lost cX9_lost 3 (some .int) [.ref v0] h (some (.int p.1)) p.2 := by
  obtain ⟨r, h'⟩ := p
  unfold fX9_lost at hyp
  refine q_bind hyp (fun _ _ hyp => ?_)
  refine q_M.of (by decide) (Nat.le_of_ble_eq_true rfl) ?_
  refine q_to (ls' := [(0, .ref v0)]) (st' := []) rfl rfl ?_
  refine q_aload_n 0 rfl dX9_lost_0 ?_
  refine q_bind hyp (fun h1 e2 hyp => ?_)
  refine q_callV (as := []) (st := []) kY_X9_reckonCosts kL_X9_223 (okX9_reckonCosts (l := l) e2) (by decide) rfl (obX9_reckonCosts e2) (Nat.le_of_ble_eq_true rfl) dX9_lost_1 ?_
  refine q_to (ls' := [(0, .ref v0)]) (st' := []) rfl rfl ?_
  refine q_iconst (x := 0) rfl dX9_lost_4 ?_
  refine q_istore_n (ls' := [(1, .int 0), (0, .ref v0)]) (by decide) rfl dX9_lost_5 ?_
  refine q_iconst (x := 0) rfl dX9_lost_6 ?_
  refine q_istore_n (ls' := [(2, .int 0), (1, .int 0), (0, .ref v0)]) (by decide) rfl dX9_lost_7 ?_
  exact q_sub [2, 1, 0] rfl (okX9_lost_b8 _ v0 0 0 h1 hyp)
theorem dX9_mark_0 : decode cX9_mark 0 = .ok (.iload_n 1, 1) := by decide +kernel
theorem dX9_mark_1 : decode cX9_mark 1 = .ok (.iconst 0, 1) := by decide +kernel
theorem dX9_mark_2 : decode cX9_mark 2 = .ok (.iconst 3, 1) := by decide +kernel
theorem dX9_mark_3 : decode cX9_mark 3 = .ok (.invokestatic 180, 3) := by decide +kernel
theorem dX9_mark_6 : decode cX9_mark 6 = .ok (.ifCond .ne 5, 3) := by decide +kernel
theorem dX9_mark_9 : decode cX9_mark 9 = .ok (.iconst 0, 1) := by decide +kernel
theorem dX9_mark_10 : decode cX9_mark 10 = .ok (.ireturn, 1) := by decide +kernel
theorem dX9_mark_11 : decode cX9_mark 11 = .ok (.aload_n 0, 1) := by decide +kernel
theorem dX9_mark_12 : decode cX9_mark 12 = .ok (.getfield 71, 3) := by decide +kernel
theorem dX9_mark_15 : decode cX9_mark 15 = .ok (.iload_n 1, 1) := by decide +kernel
theorem dX9_mark_16 : decode cX9_mark 16 = .ok (.aaload, 1) := by decide +kernel
theorem dX9_mark_17 : decode cX9_mark 17 = .ok (.astore_n 3, 1) := by decide +kernel
theorem dX9_mark_18 : decode cX9_mark 18 = .ok (.iload_n 2, 1) := by decide +kernel
theorem dX9_mark_19 : decode cX9_mark 19 = .ok (.ifCond .ne 21, 3) := by decide +kernel
theorem dX9_mark_22 : decode cX9_mark 22 = .ok (.aload_n 3, 1) := by decide +kernel
theorem dX9_mark_23 : decode cX9_mark 23 = .ok (.aload_n 0, 1) := by decide +kernel
theorem dX9_mark_24 : decode cX9_mark 24 = .ok (.getfield 38, 3) := by decide +kernel
theorem dX9_mark_27 : decode cX9_mark 27 = .ok (.aload_n 0, 1) := by decide +kernel
theorem dX9_mark_28 : decode cX9_mark 28 = .ok (.getfield 55, 3) := by decide +kernel
theorem dX9_mark_31 : decode cX9_mark 31 = .ok (.aload_n 0, 1) := by decide +kernel
theorem dX9_mark_32 : decode cX9_mark 32 = .ok (.getfield 65, 3) := by decide +kernel
theorem dX9_mark_35 : decode cX9_mark 35 = .ok (.invokevirtual 332, 3) := by decide +kernel
theorem dX9_mark_38 : decode cX9_mark 38 = .ok (.iconst 1, 1) := by decide +kernel
theorem dX9_mark_39 : decode cX9_mark 39 = .ok (.ireturn, 1) := by decide +kernel
theorem dX9_mark_40 : decode cX9_mark 40 = .ok (.aload_n 3, 1) := by decide +kernel
theorem dX9_mark_41 : decode cX9_mark 41 = .ok (.getfield 110, 3) := by decide +kernel
theorem dX9_mark_44 : decode cX9_mark 44 = .ok (.ifCond .ne 5, 3) := by decide +kernel
theorem dX9_mark_47 : decode cX9_mark 47 = .ok (.iconst 0, 1) := by decide +kernel
theorem dX9_mark_48 : decode cX9_mark 48 = .ok (.ireturn, 1) := by decide +kernel
theorem dX9_mark_49 : decode cX9_mark 49 = .ok (.aload_n 0, 1) := by decide +kernel
theorem dX9_mark_50 : decode cX9_mark 50 = .ok (.getfield 38, 3) := by decide +kernel
theorem dX9_mark_53 : decode cX9_mark 53 = .ok (.aload_n 3, 1) := by decide +kernel
theorem dX9_mark_54 : decode cX9_mark 54 = .ok (.getfield 336, 3) := by decide +kernel
theorem dX9_mark_57 : decode cX9_mark 57 = .ok (.invokevirtual 256, 3) := by decide +kernel
theorem dX9_mark_60 : decode cX9_mark 60 = .ok (.aload_n 0, 1) := by decide +kernel
theorem dX9_mark_61 : decode cX9_mark 61 = .ok (.getfield 55, 3) := by decide +kernel
theorem dX9_mark_64 : decode cX9_mark 64 = .ok (.aload_n 3, 1) := by decide +kernel
theorem dX9_mark_65 : decode cX9_mark 65 = .ok (.getfield 339, 3) := by decide +kernel
theorem dX9_mark_68 : decode cX9_mark 68 = .ok (.invokevirtual 118, 3) := by decide +kernel
theorem dX9_mark_71 : decode cX9_mark 71 = .ok (.aload_n 0, 1) := by decide +kernel
theorem dX9_mark_72 : decode cX9_mark 72 = .ok (.getfield 65, 3) := by decide +kernel
theorem dX9_mark_75 : decode cX9_mark 75 = .ok (.aload_n 3, 1) := by decide +kernel
theorem dX9_mark_76 : decode cX9_mark 76 = .ok (.getfield 340, 3) := by decide +kernel
theorem dX9_mark_79 : decode cX9_mark 79 = .ok (.invokevirtual 341, 3) := by decide +kernel
theorem dX9_mark_82 : decode cX9_mark 82 = .ok (.aload_n 0, 1) := by decide +kernel
theorem dX9_mark_83 : decode cX9_mark 83 = .ok (.getfield 48, 3) := by decide +kernel
theorem dX9_mark_86 : decode cX9_mark 86 = .ok (.invokevirtual 109, 3) := by decide +kernel
theorem dX9_mark_89 : decode cX9_mark 89 = .ok (.iconst 1, 1) := by decide +kernel
theorem dX9_mark_90 : decode cX9_mark 90 = .ok (.ireturn, 1) := by decide +kernel
def fX9_mark (n : Nat) (v0 : Nat) (v1 : Int32) (v2 : Int32) (h : qH) : Option (Int32 × qH) :=
  (isO h v0 9).bind fun _ =>
  (fX9_within v1 0 3 h).bind fun p1 =>
  if p1.1 = 0 then
  (some (0, p1.2))
  else
  ((gR p1.2 v0 9 10).bind fun x3 =>
  (aR p1.2 x3 v1).bind fun x5 =>
  if v2 = 0 then
  ((gR p1.2 v0 9 4).bind fun x33 =>
  (gR p1.2 v0 9 7).bind fun x35 =>
  (gR p1.2 v0 9 9).bind fun x37 =>
  (fX3_lay n x5 x33 x35 x37 p1.2).bind fun h39 =>
  some (1, h39))
  else
  ((gI p1.2 x5 3 3).bind fun x8 =>
  if x8 = 0 then
  (some (0, p1.2))
  else
  ((gR p1.2 v0 9 4).bind fun x11 =>
  (gR p1.2 x5 3 0).bind fun x13 =>
  (fX8_copy n x11 x13 p1.2).bind fun h15 =>
  (gR h15 v0 9 7).bind fun x16 =>
  (gR h15 x5 3 1).bind fun x18 =>
  (fX2_copy n x16 x18 h15).bind fun h20 =>
  (gR h20 v0 9 9).bind fun x21 =>
  (gR h20 x5 3 2).bind fun x23 =>
  (fX7_copy n x21 x23 h20).bind fun h25 =>
  (gR h25 v0 9 6).bind fun x26 =>
  (fX0_clear x26 h25).bind fun h28 =>
  some (1, h28))))
theorem obX9_mark {n : Nat} {v0 : Nat} {v1 : Int32} {v2 : Int32} {h : qH} {p : Int32 × qH} (hyp : fX9_mark n v0 v1 v2 h = some p) : ∃ fs, h.1 v0 = some (.inr (9, fs)) := by
  unfold fX9_mark at hyp
  exact q_bind hyp (fun _ e _ => isO_some e)
set_option maxHeartbeats 4000000 in
set_option maxRecDepth 100000 in
theorem okX9_mark {l : Launch} {n : Nat} {v0 : Nat} {v1 : Int32} {v2 : Int32} {h : qH} {p : Int32 × qH} (hyp : fX9_mark n v0 v1 v2 h = some p) : q_M l 3 yX9_mark cX9_mark 4 (some .boolean) [.ref v0, .int v1, .int v2] h (some (.int p.1)) p.2 := by
  obtain ⟨r, h'⟩ := p
  unfold fX9_mark at hyp
  refine q_bind hyp (fun _ _ hyp => ?_)
  refine q_M.of (by decide) (Nat.le_of_ble_eq_true rfl) ?_
  refine q_to (ls' := [(0, .ref v0), (1, .int v1), (2, .int v2)]) (st' := []) rfl rfl ?_
  refine q_iload_n 1 rfl dX9_mark_0 ?_
  refine q_iconst (x := 0) rfl dX9_mark_1 ?_
  refine q_iconst (x := 3) rfl dX9_mark_2 ?_
  refine q_bind hyp (fun p1 e41 hyp => ?_)
  refine q_callS (as := [.int v1, .int 0, .int 3]) (st := []) kY_X9_within kS_X9_within kL_X9_180 (okX9_within (l := l) e41) (by decide) rfl (Nat.le_of_ble_eq_true rfl) dX9_mark_3 ?_
  refine q_to (ls' := [(0, .ref v0), (1, .int v1), (2, .int v2)]) (st' := [.int p1.1]) rfl rfl ?_
  refine q_if_ne (tgt := 11) dX9_mark_6 (by decide) (fun c2 => ?_) (fun c2 => ?_)
  · have hyp := q_neg c2 hyp
    refine q_aload_n 0 rfl dX9_mark_11 ?_
    refine q_bind hyp (fun x3 e4 hyp => ?_)
    refine q_getR kF_X9_71 dX9_mark_12 e4 ?_
    refine q_iload_n 1 rfl dX9_mark_15 ?_
    refine q_bind hyp (fun x5 e6 hyp => ?_)
    refine q_aald dX9_mark_16 e6 ?_
    refine q_astore_n (ls' := [(3, .ref x5), (0, .ref v0), (1, .int v1), (2, .int v2)]) (by decide) rfl dX9_mark_17 ?_
    refine q_iload_n 3 rfl dX9_mark_18 ?_
    refine q_if_ne (tgt := 40) dX9_mark_19 (by decide) (fun c7 => ?_) (fun c7 => ?_)
    · have hyp := q_neg c7 hyp
      refine q_aload_n 0 rfl dX9_mark_40 ?_
      refine q_bind hyp (fun x8 e9 hyp => ?_)
      refine q_getI kF_X9_110 dX9_mark_41 e9 ?_
      refine q_if_ne (tgt := 49) dX9_mark_44 (by decide) (fun c10 => ?_) (fun c10 => ?_)
      · have hyp := q_neg c10 hyp
        refine q_aload_n 1 rfl dX9_mark_49 ?_
        refine q_bind hyp (fun x11 e12 hyp => ?_)
        refine q_getR kF_X9_38 dX9_mark_50 e12 ?_
        refine q_aload_n 0 rfl dX9_mark_53 ?_
        refine q_bind hyp (fun x13 e14 hyp => ?_)
        refine q_getR kF_X9_336 dX9_mark_54 e14 ?_
        refine q_bind hyp (fun h15 e32 hyp => ?_)
        refine q_callV (as := [.ref x13]) (st := []) kY_X8_copy kL_X9_256 (okX8_copy (l := l) e32) (by decide) rfl (obX8_copy e32) (Nat.le_of_ble_eq_true rfl) dX9_mark_57 ?_
        refine q_to (ls' := [(3, .ref x5), (0, .ref v0), (1, .int v1), (2, .int v2)]) (st' := []) rfl rfl ?_
        refine q_aload_n 1 rfl dX9_mark_60 ?_
        refine q_bind hyp (fun x16 e17 hyp => ?_)
        refine q_getR kF_X9_55 dX9_mark_61 e17 ?_
        refine q_aload_n 0 rfl dX9_mark_64 ?_
        refine q_bind hyp (fun x18 e19 hyp => ?_)
        refine q_getR kF_X9_339 dX9_mark_65 e19 ?_
        refine q_bind hyp (fun h20 e31 hyp => ?_)
        refine q_callV (as := [.ref x18]) (st := []) kY_X2_copy kL_X9_118 (okX2_copy (l := l) e31) (by decide) rfl (obX2_copy e31) (Nat.le_of_ble_eq_true rfl) dX9_mark_68 ?_
        refine q_to (ls' := [(3, .ref x5), (0, .ref v0), (1, .int v1), (2, .int v2)]) (st' := []) rfl rfl ?_
        refine q_aload_n 1 rfl dX9_mark_71 ?_
        refine q_bind hyp (fun x21 e22 hyp => ?_)
        refine q_getR kF_X9_65 dX9_mark_72 e22 ?_
        refine q_aload_n 0 rfl dX9_mark_75 ?_
        refine q_bind hyp (fun x23 e24 hyp => ?_)
        refine q_getR kF_X9_340 dX9_mark_76 e24 ?_
        refine q_bind hyp (fun h25 e30 hyp => ?_)
        refine q_callV (as := [.ref x23]) (st := []) kY_X7_copy kL_X9_341 (okX7_copy (l := l) e30) (by decide) rfl (obX7_copy e30) (Nat.le_of_ble_eq_true rfl) dX9_mark_79 ?_
        refine q_to (ls' := [(3, .ref x5), (0, .ref v0), (1, .int v1), (2, .int v2)]) (st' := []) rfl rfl ?_
        refine q_aload_n 1 rfl dX9_mark_82 ?_
        refine q_bind hyp (fun x26 e27 hyp => ?_)
        refine q_getR kF_X9_48 dX9_mark_83 e27 ?_
        refine q_bind hyp (fun h28 e29 hyp => ?_)
        refine q_callV (as := []) (st := []) kY_X0_clear kL_X9_109 (okX0_clear (l := l) e29) (by decide) rfl (obX0_clear e29) (Nat.le_of_ble_eq_true rfl) dX9_mark_86 ?_
        refine q_to (ls' := [(3, .ref x5), (0, .ref v0), (1, .int v1), (2, .int v2)]) (st' := []) rfl rfl ?_
        refine q_iconst (x := 1) rfl dX9_mark_89 ?_
        exact q_iretH rfl rfl dX9_mark_90 hyp
      · have hyp := q_pos c10 hyp
        refine q_iconst (x := 0) rfl dX9_mark_47 ?_
        exact q_iretH rfl rfl dX9_mark_48 hyp
    · have hyp := q_pos c7 hyp
      refine q_aload_n 0 rfl dX9_mark_22 ?_
      refine q_aload_n 1 rfl dX9_mark_23 ?_
      refine q_bind hyp (fun x33 e34 hyp => ?_)
      refine q_getR kF_X9_38 dX9_mark_24 e34 ?_
      refine q_aload_n 1 rfl dX9_mark_27 ?_
      refine q_bind hyp (fun x35 e36 hyp => ?_)
      refine q_getR kF_X9_55 dX9_mark_28 e36 ?_
      refine q_aload_n 1 rfl dX9_mark_31 ?_
      refine q_bind hyp (fun x37 e38 hyp => ?_)
      refine q_getR kF_X9_65 dX9_mark_32 e38 ?_
      refine q_bind hyp (fun h39 e40 hyp => ?_)
      refine q_callV (as := [.ref x33, .ref x35, .ref x37]) (st := []) kY_X3_lay kL_X9_332 (okX3_lay (l := l) e40) (by decide) rfl (obX3_lay e40) (Nat.le_of_ble_eq_true rfl) dX9_mark_35 ?_
      refine q_to (ls' := [(3, .ref x5), (0, .ref v0), (1, .int v1), (2, .int v2)]) (st' := []) rfl rfl ?_
      refine q_iconst (x := 1) rfl dX9_mark_38 ?_
      exact q_iretH rfl rfl dX9_mark_39 hyp
  · have hyp := q_pos c2 hyp
    refine q_iconst (x := 0) rfl dX9_mark_9 ?_
    exact q_iretH rfl rfl dX9_mark_10 hyp
theorem dX9_matter_0 : decode cX9_matter 0 = .ok (.aload_n 0, 1) := by decide +kernel
theorem dX9_matter_1 : decode cX9_matter 1 = .ok (.iload_n 1, 1) := by decide +kernel
theorem dX9_matter_2 : decode cX9_matter 2 = .ok (.invokevirtual 122, 3) := by decide +kernel
theorem dX9_matter_5 : decode cX9_matter 5 = .ok (.ifCond .ne 5, 3) := by decide +kernel
theorem dX9_matter_8 : decode cX9_matter 8 = .ok (.iconst (-1), 1) := by decide +kernel
theorem dX9_matter_9 : decode cX9_matter 9 = .ok (.ireturn, 1) := by decide +kernel
theorem dX9_matter_10 : decode cX9_matter 10 = .ok (.iload_n 2, 1) := by decide +kernel
theorem dX9_matter_11 : decode cX9_matter 11 = .ok (.tableswitch 109 0 6 #[41, 51, 61, 71, 81, 90, 99], 41) := by decide +kernel
theorem dX9_matter_52 : decode cX9_matter 52 = .ok (.aload_n 0, 1) := by decide +kernel
theorem dX9_matter_53 : decode cX9_matter 53 = .ok (.getfield 28, 3) := by decide +kernel
theorem dX9_matter_56 : decode cX9_matter 56 = .ok (.getfield 126, 3) := by decide +kernel
theorem dX9_matter_59 : decode cX9_matter 59 = .ok (.iload_n 1, 1) := by decide +kernel
theorem dX9_matter_60 : decode cX9_matter 60 = .ok (.iaload, 1) := by decide +kernel
theorem dX9_matter_61 : decode cX9_matter 61 = .ok (.ireturn, 1) := by decide +kernel
theorem dX9_matter_62 : decode cX9_matter 62 = .ok (.aload_n 0, 1) := by decide +kernel
theorem dX9_matter_63 : decode cX9_matter 63 = .ok (.getfield 28, 3) := by decide +kernel
theorem dX9_matter_66 : decode cX9_matter 66 = .ok (.getfield 129, 3) := by decide +kernel
theorem dX9_matter_69 : decode cX9_matter 69 = .ok (.iload_n 1, 1) := by decide +kernel
theorem dX9_matter_70 : decode cX9_matter 70 = .ok (.iaload, 1) := by decide +kernel
theorem dX9_matter_71 : decode cX9_matter 71 = .ok (.ireturn, 1) := by decide +kernel
theorem dX9_matter_72 : decode cX9_matter 72 = .ok (.aload_n 0, 1) := by decide +kernel
theorem dX9_matter_73 : decode cX9_matter 73 = .ok (.getfield 38, 3) := by decide +kernel
theorem dX9_matter_76 : decode cX9_matter 76 = .ok (.getfield 132, 3) := by decide +kernel
theorem dX9_matter_79 : decode cX9_matter 79 = .ok (.iload_n 1, 1) := by decide +kernel
theorem dX9_matter_80 : decode cX9_matter 80 = .ok (.iaload, 1) := by decide +kernel
theorem dX9_matter_81 : decode cX9_matter 81 = .ok (.ireturn, 1) := by decide +kernel
theorem dX9_matter_82 : decode cX9_matter 82 = .ok (.aload_n 0, 1) := by decide +kernel
theorem dX9_matter_83 : decode cX9_matter 83 = .ok (.getfield 38, 3) := by decide +kernel
theorem dX9_matter_86 : decode cX9_matter 86 = .ok (.getfield 135, 3) := by decide +kernel
theorem dX9_matter_89 : decode cX9_matter 89 = .ok (.iload_n 1, 1) := by decide +kernel
theorem dX9_matter_90 : decode cX9_matter 90 = .ok (.iaload, 1) := by decide +kernel
theorem dX9_matter_91 : decode cX9_matter 91 = .ok (.ireturn, 1) := by decide +kernel
theorem dX9_matter_92 : decode cX9_matter 92 = .ok (.aload_n 0, 1) := by decide +kernel
theorem dX9_matter_93 : decode cX9_matter 93 = .ok (.invokevirtual 138, 3) := by decide +kernel
theorem dX9_matter_96 : decode cX9_matter 96 = .ok (.iload_n 1, 1) := by decide +kernel
theorem dX9_matter_97 : decode cX9_matter 97 = .ok (.invokestatic 142, 3) := by decide +kernel
theorem dX9_matter_100 : decode cX9_matter 100 = .ok (.ireturn, 1) := by decide +kernel
theorem dX9_matter_101 : decode cX9_matter 101 = .ok (.aload_n 0, 1) := by decide +kernel
theorem dX9_matter_102 : decode cX9_matter 102 = .ok (.invokevirtual 146, 3) := by decide +kernel
theorem dX9_matter_105 : decode cX9_matter 105 = .ok (.iload_n 1, 1) := by decide +kernel
theorem dX9_matter_106 : decode cX9_matter 106 = .ok (.invokestatic 142, 3) := by decide +kernel
theorem dX9_matter_109 : decode cX9_matter 109 = .ok (.ireturn, 1) := by decide +kernel
theorem dX9_matter_110 : decode cX9_matter 110 = .ok (.aload_n 0, 1) := by decide +kernel
theorem dX9_matter_111 : decode cX9_matter 111 = .ok (.getfield 28, 3) := by decide +kernel
theorem dX9_matter_114 : decode cX9_matter 114 = .ok (.getfield 149, 3) := by decide +kernel
theorem dX9_matter_117 : decode cX9_matter 117 = .ok (.iload_n 1, 1) := by decide +kernel
theorem dX9_matter_118 : decode cX9_matter 118 = .ok (.iaload, 1) := by decide +kernel
theorem dX9_matter_119 : decode cX9_matter 119 = .ok (.ireturn, 1) := by decide +kernel
theorem dX9_matter_120 : decode cX9_matter 120 = .ok (.iconst (-1), 1) := by decide +kernel
theorem dX9_matter_121 : decode cX9_matter 121 = .ok (.ireturn, 1) := by decide +kernel
def fX9_matter (n : Nat) (v0 : Nat) (v1 : Int32) (v2 : Int32) (h : qH) : Option (Int32 × qH) :=
  (isO h v0 9).bind fun _ =>
  (fX9_isMatter v0 v1 h).bind fun p1 =>
  if p1.1 = 0 then
  (some ((-1), p1.2))
  else
  (if v2 = 0 then
  ((gR p1.2 v0 9 2).bind fun x4 =>
  (gR p1.2 x4 5 1).bind fun x6 =>
  (aI .int p1.2 x6 v1).bind fun x8 =>
  some (x8, p1.2))
  else
  (if v2 = 1 then
  ((gR p1.2 v0 9 2).bind fun x11 =>
  (gR p1.2 x11 5 2).bind fun x13 =>
  (aI .int p1.2 x13 v1).bind fun x15 =>
  some (x15, p1.2))
  else
  (if v2 = 2 then
  ((gR p1.2 v0 9 4).bind fun x18 =>
  (gR p1.2 x18 8 0).bind fun x20 =>
  (aI .int p1.2 x20 v1).bind fun x22 =>
  some (x22, p1.2))
  else
  (if v2 = 3 then
  ((gR p1.2 v0 9 4).bind fun x25 =>
  (gR p1.2 x25 8 1).bind fun x27 =>
  (aI .int p1.2 x27 v1).bind fun x29 =>
  some (x29, p1.2))
  else
  (if v2 = 4 then
  ((fX9_meant n v0 p1.2).bind fun p32 =>
  (fX9_bit p32.1 v1 p32.2).bind fun p33 =>
  some (p33.1, p33.2))
  else
  (if v2 = 5 then
  ((fX9_right n v0 p1.2).bind fun p37 =>
  (fX9_bit p37.1 v1 p37.2).bind fun p38 =>
  some (p38.1, p38.2))
  else
  (if v2 = 6 then
  ((gR p1.2 v0 9 2).bind fun x42 =>
  (gR p1.2 x42 5 4).bind fun x44 =>
  (aI .int p1.2 x44 v1).bind fun x46 =>
  some (x46, p1.2))
  else
  (some ((-1), p1.2)))))))))
theorem obX9_matter {n : Nat} {v0 : Nat} {v1 : Int32} {v2 : Int32} {h : qH} {p : Int32 × qH} (hyp : fX9_matter n v0 v1 v2 h = some p) : ∃ fs, h.1 v0 = some (.inr (9, fs)) := by
  unfold fX9_matter at hyp
  exact q_bind hyp (fun _ e _ => isO_some e)
set_option maxHeartbeats 4000000 in
set_option maxRecDepth 100000 in
theorem okX9_matter {l : Launch} {n : Nat} {v0 : Nat} {v1 : Int32} {v2 : Int32} {h : qH} {p : Int32 × qH} (hyp : fX9_matter n v0 v1 v2 h = some p) : q_M l 4 yX9_matter cX9_matter 3 (some .int) [.ref v0, .int v1, .int v2] h (some (.int p.1)) p.2 := by
  obtain ⟨r, h'⟩ := p
  unfold fX9_matter at hyp
  refine q_bind hyp (fun _ _ hyp => ?_)
  refine q_M.of (by decide) (Nat.le_of_ble_eq_true rfl) ?_
  refine q_to (ls' := [(0, .ref v0), (1, .int v1), (2, .int v2)]) (st' := []) rfl rfl ?_
  refine q_aload_n 0 rfl dX9_matter_0 ?_
  refine q_iload_n 1 rfl dX9_matter_1 ?_
  refine q_bind hyp (fun p1 e48 hyp => ?_)
  refine q_callV (as := [.int v1]) (st := []) kY_X9_isMatter kL_X9_122 (okX9_isMatter (l := l) e48) (by decide) rfl (obX9_isMatter e48) (Nat.le_of_ble_eq_true rfl) dX9_matter_2 ?_
  refine q_to (ls' := [(0, .ref v0), (1, .int v1), (2, .int v2)]) (st' := [.int p1.1]) rfl rfl ?_
  refine q_if_ne (tgt := 10) dX9_matter_5 (by decide) (fun c2 => ?_) (fun c2 => ?_)
  · have hyp := q_neg c2 hyp
    refine q_iload_n 2 rfl dX9_matter_10 ?_
    refine q_ite hyp (fun c3 hyp => ?_) (fun c3 hyp => ?_)
    · refine q_tableIn (off := 41) (tgt := 52) dX9_matter_11 (by rw [c3]; decide) (by rw [c3]; decide) (by rw [c3]; rfl) (by decide) ?_
      refine q_aload_n 0 rfl dX9_matter_52 ?_
      refine q_bind hyp (fun x4 e5 hyp => ?_)
      refine q_getR kF_X9_28 dX9_matter_53 e5 ?_
      refine q_bind hyp (fun x6 e7 hyp => ?_)
      refine q_getR kF_X9_126 dX9_matter_56 e7 ?_
      refine q_iload_n 1 rfl dX9_matter_59 ?_
      refine q_bind hyp (fun x8 e9 hyp => ?_)
      refine q_iald dX9_matter_60 e9 ?_
      exact q_iretH rfl rfl dX9_matter_61 hyp
    · refine q_ite hyp (fun c10 hyp => ?_) (fun c10 hyp => ?_)
      · refine q_tableIn (off := 51) (tgt := 62) dX9_matter_11 (by rw [c10]; decide) (by rw [c10]; decide) (by rw [c10]; rfl) (by decide) ?_
        refine q_aload_n 0 rfl dX9_matter_62 ?_
        refine q_bind hyp (fun x11 e12 hyp => ?_)
        refine q_getR kF_X9_28 dX9_matter_63 e12 ?_
        refine q_bind hyp (fun x13 e14 hyp => ?_)
        refine q_getR kF_X9_129 dX9_matter_66 e14 ?_
        refine q_iload_n 1 rfl dX9_matter_69 ?_
        refine q_bind hyp (fun x15 e16 hyp => ?_)
        refine q_iald dX9_matter_70 e16 ?_
        exact q_iretH rfl rfl dX9_matter_71 hyp
      · refine q_ite hyp (fun c17 hyp => ?_) (fun c17 hyp => ?_)
        · refine q_tableIn (off := 61) (tgt := 72) dX9_matter_11 (by rw [c17]; decide) (by rw [c17]; decide) (by rw [c17]; rfl) (by decide) ?_
          refine q_aload_n 0 rfl dX9_matter_72 ?_
          refine q_bind hyp (fun x18 e19 hyp => ?_)
          refine q_getR kF_X9_38 dX9_matter_73 e19 ?_
          refine q_bind hyp (fun x20 e21 hyp => ?_)
          refine q_getR kF_X9_132 dX9_matter_76 e21 ?_
          refine q_iload_n 1 rfl dX9_matter_79 ?_
          refine q_bind hyp (fun x22 e23 hyp => ?_)
          refine q_iald dX9_matter_80 e23 ?_
          exact q_iretH rfl rfl dX9_matter_81 hyp
        · refine q_ite hyp (fun c24 hyp => ?_) (fun c24 hyp => ?_)
          · refine q_tableIn (off := 71) (tgt := 82) dX9_matter_11 (by rw [c24]; decide) (by rw [c24]; decide) (by rw [c24]; rfl) (by decide) ?_
            refine q_aload_n 0 rfl dX9_matter_82 ?_
            refine q_bind hyp (fun x25 e26 hyp => ?_)
            refine q_getR kF_X9_38 dX9_matter_83 e26 ?_
            refine q_bind hyp (fun x27 e28 hyp => ?_)
            refine q_getR kF_X9_135 dX9_matter_86 e28 ?_
            refine q_iload_n 1 rfl dX9_matter_89 ?_
            refine q_bind hyp (fun x29 e30 hyp => ?_)
            refine q_iald dX9_matter_90 e30 ?_
            exact q_iretH rfl rfl dX9_matter_91 hyp
          · refine q_ite hyp (fun c31 hyp => ?_) (fun c31 hyp => ?_)
            · refine q_tableIn (off := 81) (tgt := 92) dX9_matter_11 (by rw [c31]; decide) (by rw [c31]; decide) (by rw [c31]; rfl) (by decide) ?_
              refine q_aload_n 0 rfl dX9_matter_92 ?_
              refine q_bind hyp (fun p32 e35 hyp => ?_)
              refine q_callV (as := []) (st := []) kY_X9_meant kL_X9_138 (okX9_meant (l := l) e35) (by decide) rfl (obX9_meant e35) (Nat.le_of_ble_eq_true rfl) dX9_matter_93 ?_
              refine q_to (ls' := [(0, .ref v0), (1, .int v1), (2, .int v2)]) (st' := [.int p32.1]) rfl rfl ?_
              refine q_iload_n 1 rfl dX9_matter_96 ?_
              refine q_bind hyp (fun p33 e34 hyp => ?_)
              refine q_callS (as := [.int p32.1, .int v1]) (st := []) kY_X9_bit kS_X9_bit kL_X9_142 (okX9_bit (l := l) e34) (by decide) rfl (Nat.le_of_ble_eq_true rfl) dX9_matter_97 ?_
              refine q_to (ls' := [(0, .ref v0), (1, .int v1), (2, .int v2)]) (st' := [.int p33.1]) rfl rfl ?_
              exact q_iretH rfl rfl dX9_matter_100 hyp
            · refine q_ite hyp (fun c36 hyp => ?_) (fun c36 hyp => ?_)
              · refine q_tableIn (off := 90) (tgt := 101) dX9_matter_11 (by rw [c36]; decide) (by rw [c36]; decide) (by rw [c36]; rfl) (by decide) ?_
                refine q_aload_n 0 rfl dX9_matter_101 ?_
                refine q_bind hyp (fun p37 e40 hyp => ?_)
                refine q_callV (as := []) (st := []) kY_X9_right kL_X9_146 (okX9_right (l := l) e40) (by decide) rfl (obX9_right e40) (Nat.le_of_ble_eq_true rfl) dX9_matter_102 ?_
                refine q_to (ls' := [(0, .ref v0), (1, .int v1), (2, .int v2)]) (st' := [.int p37.1]) rfl rfl ?_
                refine q_iload_n 1 rfl dX9_matter_105 ?_
                refine q_bind hyp (fun p38 e39 hyp => ?_)
                refine q_callS (as := [.int p37.1, .int v1]) (st := []) kY_X9_bit kS_X9_bit kL_X9_142 (okX9_bit (l := l) e39) (by decide) rfl (Nat.le_of_ble_eq_true rfl) dX9_matter_106 ?_
                refine q_to (ls' := [(0, .ref v0), (1, .int v1), (2, .int v2)]) (st' := [.int p38.1]) rfl rfl ?_
                exact q_iretH rfl rfl dX9_matter_109 hyp
              · refine q_ite hyp (fun c41 hyp => ?_) (fun c41 hyp => ?_)
                · refine q_tableIn (off := 99) (tgt := 110) dX9_matter_11 (by rw [c41]; decide) (by rw [c41]; decide) (by rw [c41]; rfl) (by decide) ?_
                  refine q_aload_n 0 rfl dX9_matter_110 ?_
                  refine q_bind hyp (fun x42 e43 hyp => ?_)
                  refine q_getR kF_X9_28 dX9_matter_111 e43 ?_
                  refine q_bind hyp (fun x44 e45 hyp => ?_)
                  refine q_getR kF_X9_149 dX9_matter_114 e45 ?_
                  refine q_iload_n 1 rfl dX9_matter_117 ?_
                  refine q_bind hyp (fun x46 e47 hyp => ?_)
                  refine q_iald dX9_matter_118 e47 ?_
                  exact q_iretH rfl rfl dX9_matter_119 hyp
                · have zc3 := q_ni c3
                  have zc10 := q_ni c10
                  have zc17 := q_ni c17
                  have zc24 := q_ni c24
                  have zc31 := q_ni c31
                  have zc36 := q_ni c36
                  have zc41 := q_ni c41
                  have zz : v2.toInt < 0 ∨ 6 < v2.toInt := by
                    rw [show (0 : Int32).toInt = 0 from rfl] at zc3
                    rw [show (1 : Int32).toInt = 1 from rfl] at zc10
                    rw [show (2 : Int32).toInt = 2 from rfl] at zc17
                    rw [show (3 : Int32).toInt = 3 from rfl] at zc24
                    rw [show (4 : Int32).toInt = 4 from rfl] at zc31
                    rw [show (5 : Int32).toInt = 5 from rfl] at zc36
                    rw [show (6 : Int32).toInt = 6 from rfl] at zc41
                    omega
                  refine q_tableOut (tgt := 120) dX9_matter_11 zz (by decide) ?_
                  refine q_iconst (x := (-1)) rfl dX9_matter_120 ?_
                  exact q_iretH rfl rfl dX9_matter_121 hyp
  · have hyp := q_pos c2 hyp
    refine q_iconst (x := (-1)) rfl dX9_matter_8 ?_
    exact q_iretH rfl rfl dX9_matter_9 hyp
theorem dX9_most_0 : decode cX9_most 0 = .ok (.iload_n 1, 1) := by decide +kernel
theorem dX9_most_1 : decode cX9_most 1 = .ok (.iconst 0, 1) := by decide +kernel
theorem dX9_most_2 : decode cX9_most 2 = .ok (.sipush 200, 3) := by decide +kernel
theorem dX9_most_5 : decode cX9_most 5 = .ok (.invokestatic 180, 3) := by decide +kernel
theorem dX9_most_8 : decode cX9_most 8 = .ok (.ifCond .eq 12, 3) := by decide +kernel
theorem dX9_most_11 : decode cX9_most 11 = .ok (.iload_n 2, 1) := by decide +kernel
theorem dX9_most_12 : decode cX9_most 12 = .ok (.iconst 0, 1) := by decide +kernel
theorem dX9_most_13 : decode cX9_most 13 = .ok (.iconst 2, 1) := by decide +kernel
theorem dX9_most_14 : decode cX9_most 14 = .ok (.invokestatic 180, 3) := by decide +kernel
theorem dX9_most_17 : decode cX9_most 17 = .ok (.ifCond .ne 5, 3) := by decide +kernel
theorem dX9_most_20 : decode cX9_most 20 = .ok (.iconst (-1), 1) := by decide +kernel
theorem dX9_most_21 : decode cX9_most 21 = .ok (.ireturn, 1) := by decide +kernel
theorem dX9_most_22 : decode cX9_most 22 = .ok (.aload_n 0, 1) := by decide +kernel
theorem dX9_most_23 : decode cX9_most 23 = .ok (.invokevirtual 223, 3) := by decide +kernel
theorem dX9_most_26 : decode cX9_most 26 = .ok (.aload_n 0, 1) := by decide +kernel
theorem dX9_most_27 : decode cX9_most 27 = .ok (.invokevirtual 138, 3) := by decide +kernel
theorem dX9_most_30 : decode cX9_most 30 = .ok (.istore_n 3, 1) := by decide +kernel
theorem dX9_most_31 : decode cX9_most 31 = .ok (.iload_n 3, 1) := by decide +kernel
theorem dX9_most_32 : decode cX9_most 32 = .ok (.istore 4, 2) := by decide +kernel
theorem dX9_most_34 : decode cX9_most 34 = .ok (.iconst 0, 1) := by decide +kernel
theorem dX9_most_35 : decode cX9_most 35 = .ok (.istore 5, 2) := by decide +kernel
theorem dX9_most_37 : decode cX9_most 37 = .ok (.iconst 0, 1) := by decide +kernel
theorem dX9_most_38 : decode cX9_most 38 = .ok (.istore 6, 2) := by decide +kernel
theorem dX9_most_40 : decode cX9_most 40 = .ok (.iload 6, 2) := by decide +kernel
theorem dX9_most_42 : decode cX9_most 42 = .ok (.aload_n 0, 1) := by decide +kernel
theorem dX9_most_43 : decode cX9_most 43 = .ok (.getfield 28, 3) := by decide +kernel
theorem dX9_most_46 : decode cX9_most 46 = .ok (.invokevirtual 201, 3) := by decide +kernel
theorem dX9_most_49 : decode cX9_most 49 = .ok (.if_icmp .gt 78, 3) := by decide +kernel
theorem dX9_most_52 : decode cX9_most 52 = .ok (.aload_n 0, 1) := by decide +kernel
theorem dX9_most_53 : decode cX9_most 53 = .ok (.iload 6, 2) := by decide +kernel
theorem dX9_most_55 : decode cX9_most 55 = .ok (.invokevirtual 235, 3) := by decide +kernel
theorem dX9_most_58 : decode cX9_most 58 = .ok (.istore 7, 2) := by decide +kernel
theorem dX9_most_60 : decode cX9_most 60 = .ok (.iload 6, 2) := by decide +kernel
theorem dX9_most_62 : decode cX9_most 62 = .ok (.iload_n 3, 1) := by decide +kernel
theorem dX9_most_63 : decode cX9_most 63 = .ok (.iand, 1) := by decide +kernel
theorem dX9_most_64 : decode cX9_most 64 = .ok (.iload_n 3, 1) := by decide +kernel
theorem dX9_most_65 : decode cX9_most 65 = .ok (.if_icmp .ne 56, 3) := by decide +kernel
theorem dX9_most_68 : decode cX9_most 68 = .ok (.iload 7, 2) := by decide +kernel
theorem dX9_most_70 : decode cX9_most 70 = .ok (.iconst (-1), 1) := by decide +kernel
theorem dX9_most_71 : decode cX9_most 71 = .ok (.if_icmp .eq 50, 3) := by decide +kernel
theorem dX9_most_74 : decode cX9_most 74 = .ok (.iload 7, 2) := by decide +kernel
theorem dX9_most_76 : decode cX9_most 76 = .ok (.iload_n 1, 1) := by decide +kernel
theorem dX9_most_77 : decode cX9_most 77 = .ok (.if_icmp .le 6, 3) := by decide +kernel
theorem dX9_most_80 : decode cX9_most 80 = .ok (.goto 41, 3) := by decide +kernel
theorem dX9_most_83 : decode cX9_most 83 = .ok (.iload 6, 2) := by decide +kernel
theorem dX9_most_85 : decode cX9_most 85 = .ok (.invokestatic 170, 3) := by decide +kernel
theorem dX9_most_88 : decode cX9_most 88 = .ok (.iload 4, 2) := by decide +kernel
theorem dX9_most_90 : decode cX9_most 90 = .ok (.invokestatic 170, 3) := by decide +kernel
theorem dX9_most_93 : decode cX9_most 93 = .ok (.isub, 1) := by decide +kernel
theorem dX9_most_94 : decode cX9_most 94 = .ok (.istore 8, 2) := by decide +kernel
theorem dX9_most_96 : decode cX9_most 96 = .ok (.iload 8, 2) := by decide +kernel
theorem dX9_most_98 : decode cX9_most 98 = .ok (.ifCond .gt 15, 3) := by decide +kernel
theorem dX9_most_101 : decode cX9_most 101 = .ok (.iload 8, 2) := by decide +kernel
theorem dX9_most_103 : decode cX9_most 103 = .ok (.ifCond .ne 18, 3) := by decide +kernel
theorem dX9_most_106 : decode cX9_most 106 = .ok (.iload 7, 2) := by decide +kernel
theorem dX9_most_108 : decode cX9_most 108 = .ok (.iload 5, 2) := by decide +kernel
theorem dX9_most_110 : decode cX9_most 110 = .ok (.if_icmp .ge 11, 3) := by decide +kernel
theorem dX9_most_113 : decode cX9_most 113 = .ok (.iload 6, 2) := by decide +kernel
theorem dX9_most_115 : decode cX9_most 115 = .ok (.istore 4, 2) := by decide +kernel
theorem dX9_most_117 : decode cX9_most 117 = .ok (.iload 7, 2) := by decide +kernel
theorem dX9_most_119 : decode cX9_most 119 = .ok (.istore 5, 2) := by decide +kernel
theorem dX9_most_121 : decode cX9_most 121 = .ok (.iinc 6 1, 3) := by decide +kernel
theorem dX9_most_124 : decode cX9_most 124 = .ok (.goto (-84), 3) := by decide +kernel
theorem dX9_most_127 : decode cX9_most 127 = .ok (.iload_n 2, 1) := by decide +kernel
theorem dX9_most_128 : decode cX9_most 128 = .ok (.lookupswitch 37 #[(0, 28), (1, 34)], 28) := by decide +kernel
theorem dX9_most_156 : decode cX9_most 156 = .ok (.iload 4, 2) := by decide +kernel
theorem dX9_most_158 : decode cX9_most 158 = .ok (.invokestatic 170, 3) := by decide +kernel
theorem dX9_most_161 : decode cX9_most 161 = .ok (.ireturn, 1) := by decide +kernel
theorem dX9_most_162 : decode cX9_most 162 = .ok (.iload 5, 2) := by decide +kernel
theorem dX9_most_164 : decode cX9_most 164 = .ok (.ireturn, 1) := by decide +kernel
theorem dX9_most_165 : decode cX9_most 165 = .ok (.iload 4, 2) := by decide +kernel
theorem dX9_most_167 : decode cX9_most 167 = .ok (.ireturn, 1) := by decide +kernel
def fX9_most_b113 (n : Nat) (K40 : Nat → Int32 → Int32 → Int32 → Int32 → Int32 → Int32 → qH → Option (Int32 × qH)) (v0 : Nat) (v1 : Int32) (v2 : Int32) (v3 : Int32) (v6 : Int32) (v7 : Int32) (h : qH) : Option (Int32 × qH) :=
  K40 v0 v1 v2 v3 v6 v7 (v6 + 1) h
set_option maxHeartbeats 4000000 in
set_option maxRecDepth 100000 in
theorem okX9_most_b113 {l : Launch} {n : Nat} {K40 : Nat → Int32 → Int32 → Int32 → Int32 → Int32 → Int32 → qH → Option (Int32 × qH)} {v0 : Nat} {v1 : Int32} {v2 : Int32} {v3 : Int32} {v6 : Int32} {v7 : Int32} {h : qH} {r : Int32} {h' : qH} (hK40 : ∀ (v0 : Nat) (v1 : Int32) (v2 : Int32) (v3 : Int32) (v4 : Int32) (v5 : Int32) (v6 : Int32) (h : qH), K40 v0 v1 v2 v3 v4 v5 v6 h = some (r, h') → q_W l 6 yX9_most cX9_most 9 (some .int) (some (.int r)) h' 40 [(0, .ref v0), (1, .int v1), (2, .int v2), (3, .int v3), (4, .int v4), (5, .int v5), (6, .int v6)] [] h) (hyp : fX9_most_b113 n K40 v0 v1 v2 v3 v6 v7 h = some (r, h')) : q_W l 6 yX9_most cX9_most 9 (some .int) (some (.int r)) h' 113 [(0, .ref v0), (1, .int v1), (2, .int v2), (3, .int v3), (6, .int v6), (7, .int v7)] [] h := by
  unfold fX9_most_b113 at hyp
  refine q_iload 4 rfl dX9_most_113 ?_
  refine q_istore (ls' := [(4, .int v6), (0, .ref v0), (1, .int v1), (2, .int v2), (3, .int v3), (6, .int v6), (7, .int v7)]) (by decide) rfl dX9_most_115 ?_
  refine q_iload 6 rfl dX9_most_117 ?_
  refine q_istore (ls' := [(5, .int v7), (4, .int v6), (0, .ref v0), (1, .int v1), (2, .int v2), (3, .int v3), (6, .int v6), (7, .int v7)]) (by decide) rfl dX9_most_119 ?_
  refine q_iinc (ls' := [(6, .int (v6 + 1)), (5, .int v7), (4, .int v6), (0, .ref v0), (1, .int v1), (2, .int v2), (3, .int v3), (7, .int v7)]) 6 rfl rfl (by decide) rfl dX9_most_121 ?_
  refine q_goto (tgt := 40) dX9_most_124 (by decide) ?_
  exact q_sub [3, 4, 5, 6, 2, 1, 0] rfl (hK40 v0 v1 v2 v3 v6 v7 (v6 + 1) h hyp)
def fX9_most_b40 (n : Nat) : Nat → Nat → Int32 → Int32 → Int32 → Int32 → Int32 → Int32 → qH → Option (Int32 × qH)
  | 0, _, _, _, _, _, _, _, _ => none
  | w + 1, v0, v1, v2, v3, v4, v5, v6, h =>
    (gR h v0 9 2).bind fun x1 =>
    (fX5_everyone x1 h).bind fun p3 =>
    if p3.1 < v6 then
    (if v2 = 0 then
    ((fJ6_bitCount_0f7a4 v4 p3.2).bind fun p6 =>
    some (p6.1, p6.2))
    else
    (if v2 = 1 then
    (some (v5, p3.2))
    else
    (some (v4, p3.2))))
    else
    ((fX9_costOfSet n v0 v6 p3.2).bind fun p9 =>
    if (v6 &&& v3) = v3 then
    (if p9.1 = ((-1)) then
    (fX9_most_b40 n w v0 v1 v2 v3 v4 v5 (v6 + 1) p9.2)
    else
    (if p9.1 ≤ v1 then
    ((fJ6_bitCount_0f7a4 v6 p9.2).bind fun p13 =>
    (fJ6_bitCount_0f7a4 v4 p13.2).bind fun p14 =>
    if 0 < (p13.1 - p14.1) then
    (fX9_most_b113 n (fX9_most_b40 n w) v0 v1 v2 v3 v6 p9.1 p14.2)
    else
    (if (p13.1 - p14.1) = 0 then
    (if v5 ≤ p9.1 then
    (fX9_most_b40 n w v0 v1 v2 v3 v4 v5 (v6 + 1) p14.2)
    else
    (fX9_most_b113 n (fX9_most_b40 n w) v0 v1 v2 v3 v6 p9.1 p14.2))
    else
    (fX9_most_b40 n w v0 v1 v2 v3 v4 v5 (v6 + 1) p14.2)))
    else
    (fX9_most_b40 n w v0 v1 v2 v3 v4 v5 (v6 + 1) p9.2)))
    else
    (fX9_most_b40 n w v0 v1 v2 v3 v4 v5 (v6 + 1) p9.2))
set_option maxHeartbeats 4000000 in
set_option maxRecDepth 100000 in
theorem okX9_most_b40 {l : Launch} {n : Nat} {r : Int32} {h' : qH} : ∀ (w : Nat) (v0 : Nat) (v1 : Int32) (v2 : Int32) (v3 : Int32) (v4 : Int32) (v5 : Int32) (v6 : Int32) (h : qH), fX9_most_b40 n w v0 v1 v2 v3 v4 v5 v6 h = some (r, h') → q_W l 6 yX9_most cX9_most 9 (some .int) (some (.int r)) h' 40 [(0, .ref v0), (1, .int v1), (2, .int v2), (3, .int v3), (4, .int v4), (5, .int v5), (6, .int v6)] [] h := by
  intro w
  induction w with
  | zero => intro v0 v1 v2 v3 v4 v5 v6 h hyp; cases hyp
  | succ w ih =>
    intro v0 v1 v2 v3 v4 v5 v6 h hyp
    unfold fX9_most_b40 at hyp
    refine q_iload 6 rfl dX9_most_40 ?_
    refine q_aload_n 0 rfl dX9_most_42 ?_
    refine q_bind hyp (fun x1 e2 hyp => ?_)
    refine q_getR kF_X9_28 dX9_most_43 e2 ?_
    refine q_bind hyp (fun p3 e21 hyp => ?_)
    refine q_callV (as := []) (st := [.int v6]) kY_X5_everyone kL_X9_201 (okX5_everyone (l := l) e21) (by decide) rfl (obX5_everyone e21) (Nat.le_of_ble_eq_true rfl) dX9_most_46 ?_
    refine q_to (ls' := [(0, .ref v0), (1, .int v1), (2, .int v2), (3, .int v3), (4, .int v4), (5, .int v5), (6, .int v6)]) (st' := [.int p3.1, .int v6]) rfl rfl ?_
    refine q_icmp_gt (tgt := 127) dX9_most_49 (by decide) (fun c4 => ?_) (fun c4 => ?_)
    · have hyp := q_pos c4 hyp
      refine q_iload_n 2 rfl dX9_most_127 ?_
      refine q_ite hyp (fun c5 hyp => ?_) (fun c5 hyp => ?_)
      · refine q_lookup (off := 28) (tgt := 156) dX9_most_128 (by decide) (by rw [c5]; decide) (by decide) ?_
        refine q_iload 4 rfl dX9_most_156 ?_
        refine q_bind hyp (fun p6 e7 hyp => ?_)
        refine q_callS (as := [.int v4]) (st := []) kY_J6_bitCount_0f7a4 kS_J6_bitCount_0f7a4 kL_X9_170 (okJ6_bitCount_0f7a4 (l := l) e7) (by decide) rfl (Nat.le_of_ble_eq_true rfl) dX9_most_158 ?_
        refine q_to (ls' := [(0, .ref v0), (1, .int v1), (2, .int v2), (3, .int v3), (4, .int v4), (5, .int v5), (6, .int v6)]) (st' := [.int p6.1]) rfl rfl ?_
        exact q_iretH rfl rfl dX9_most_161 hyp
      · refine q_ite hyp (fun c8 hyp => ?_) (fun c8 hyp => ?_)
        · refine q_lookup (off := 34) (tgt := 162) dX9_most_128 (by decide) (by rw [c8]; decide) (by decide) ?_
          refine q_iload 5 rfl dX9_most_162 ?_
          exact q_iretH rfl rfl dX9_most_164 hyp
        · have zc5 := q_ni c5
          have zc8 := q_ni c8
          have zz : Op.lookupswitch.offset [(0, 28), (1, 34)] 37 v2.toInt = 37 := by
            rw [show (0 : Int32).toInt = 0 from rfl] at zc5
            rw [show (1 : Int32).toInt = 1 from rfl] at zc8
            rw [Op.lookupswitch.offset_cons, if_neg (Ne.symm zc5), Op.lookupswitch.offset_cons, if_neg (Ne.symm zc8)]
            rfl
          refine q_lookup (off := 37) (tgt := 165) dX9_most_128 (by decide) zz (by decide) ?_
          refine q_iload 4 rfl dX9_most_165 ?_
          exact q_iretH rfl rfl dX9_most_167 hyp
    · have hyp := q_neg c4 hyp
      refine q_aload_n 0 rfl dX9_most_52 ?_
      refine q_iload 6 rfl dX9_most_53 ?_
      refine q_bind hyp (fun p9 e20 hyp => ?_)
      refine q_callV (as := [.int v6]) (st := []) kY_X9_costOfSet kL_X9_235 (okX9_costOfSet (l := l) e20) (by decide) rfl (obX9_costOfSet e20) (Nat.le_of_ble_eq_true rfl) dX9_most_55 ?_
      refine q_to (ls' := [(0, .ref v0), (1, .int v1), (2, .int v2), (3, .int v3), (4, .int v4), (5, .int v5), (6, .int v6)]) (st' := [.int p9.1]) rfl rfl ?_
      refine q_istore (ls' := [(7, .int p9.1), (0, .ref v0), (1, .int v1), (2, .int v2), (3, .int v3), (4, .int v4), (5, .int v5), (6, .int v6)]) (by decide) rfl dX9_most_58 ?_
      refine q_iload 7 rfl dX9_most_60 ?_
      refine q_iload_n 4 rfl dX9_most_62 ?_
      refine q_iand dX9_most_63 ?_
      refine q_iload_n 4 rfl dX9_most_64 ?_
      refine q_icmp_ne (tgt := 121) dX9_most_65 (by decide) (fun c10 => ?_) (fun c10 => ?_)
      · have hyp := q_neg c10 hyp
        refine q_iinc (ls' := [(6, .int (v6 + 1)), (7, .int p9.1), (0, .ref v0), (1, .int v1), (2, .int v2), (3, .int v3), (4, .int v4), (5, .int v5)]) 7 rfl rfl (by decide) rfl dX9_most_121 ?_
        refine q_goto (tgt := 40) dX9_most_124 (by decide) ?_
        exact q_sub [2, 3, 4, 5, 6, 7, 0] rfl (ih v0 v1 v2 v3 v4 v5 (v6 + 1) p9.2 hyp)
      · have hyp := q_pos c10 hyp
        refine q_iload 0 rfl dX9_most_68 ?_
        refine q_iconst (x := (-1)) rfl dX9_most_70 ?_
        refine q_icmp_eq (tgt := 121) dX9_most_71 (by decide) (fun c11 => ?_) (fun c11 => ?_)
        · have hyp := q_pos c11 hyp
          refine q_iinc (ls' := [(6, .int (v6 + 1)), (7, .int p9.1), (0, .ref v0), (1, .int v1), (2, .int v2), (3, .int v3), (4, .int v4), (5, .int v5)]) 7 rfl rfl (by decide) rfl dX9_most_121 ?_
          refine q_goto (tgt := 40) dX9_most_124 (by decide) ?_
          exact q_sub [2, 3, 4, 5, 6, 7, 0] rfl (ih v0 v1 v2 v3 v4 v5 (v6 + 1) p9.2 hyp)
        · have hyp := q_neg c11 hyp
          refine q_iload 0 rfl dX9_most_74 ?_
          refine q_iload_n 2 rfl dX9_most_76 ?_
          refine q_icmp_le (tgt := 83) dX9_most_77 (by decide) (fun c12 => ?_) (fun c12 => ?_)
          · have hyp := q_pos c12 hyp
            refine q_iload 7 rfl dX9_most_83 ?_
            refine q_bind hyp (fun p13 e19 hyp => ?_)
            refine q_callS (as := [.int v6]) (st := []) kY_J6_bitCount_0f7a4 kS_J6_bitCount_0f7a4 kL_X9_170 (okJ6_bitCount_0f7a4 (l := l) e19) (by decide) rfl (Nat.le_of_ble_eq_true rfl) dX9_most_85 ?_
            refine q_to (ls' := [(7, .int p9.1), (0, .ref v0), (1, .int v1), (2, .int v2), (3, .int v3), (4, .int v4), (5, .int v5), (6, .int v6)]) (st' := [.int p13.1]) rfl rfl ?_
            refine q_iload 5 rfl dX9_most_88 ?_
            refine q_bind hyp (fun p14 e18 hyp => ?_)
            refine q_callS (as := [.int v4]) (st := [.int p13.1]) kY_J6_bitCount_0f7a4 kS_J6_bitCount_0f7a4 kL_X9_170 (okJ6_bitCount_0f7a4 (l := l) e18) (by decide) rfl (Nat.le_of_ble_eq_true rfl) dX9_most_90 ?_
            refine q_to (ls' := [(7, .int p9.1), (0, .ref v0), (1, .int v1), (2, .int v2), (3, .int v3), (4, .int v4), (5, .int v5), (6, .int v6)]) (st' := [.int p14.1, .int p13.1]) rfl rfl ?_
            refine q_isub dX9_most_93 ?_
            refine q_istore (ls' := [(8, .int (p13.1 - p14.1)), (7, .int p9.1), (0, .ref v0), (1, .int v1), (2, .int v2), (3, .int v3), (4, .int v4), (5, .int v5), (6, .int v6)]) (by decide) rfl dX9_most_94 ?_
            refine q_iload 0 rfl dX9_most_96 ?_
            refine q_if_gt (tgt := 113) dX9_most_98 (by decide) (fun c15 => ?_) (fun c15 => ?_)
            · have hyp := q_pos c15 hyp
              exact q_sub [2, 3, 4, 5, 8, 1] rfl (okX9_most_b113 ih hyp)
            · have hyp := q_neg c15 hyp
              refine q_iload 0 rfl dX9_most_101 ?_
              refine q_if_ne (tgt := 121) dX9_most_103 (by decide) (fun c16 => ?_) (fun c16 => ?_)
              · have hyp := q_neg c16 hyp
                refine q_iinc (ls' := [(6, .int (v6 + 1)), (8, .int (p13.1 - p14.1)), (7, .int p9.1), (0, .ref v0), (1, .int v1), (2, .int v2), (3, .int v3), (4, .int v4), (5, .int v5)]) 8 rfl rfl (by decide) rfl dX9_most_121 ?_
                refine q_goto (tgt := 40) dX9_most_124 (by decide) ?_
                exact q_sub [3, 4, 5, 6, 7, 8, 0] rfl (ih v0 v1 v2 v3 v4 v5 (v6 + 1) p14.2 hyp)
              · have hyp := q_pos c16 hyp
                refine q_iload 1 rfl dX9_most_106 ?_
                refine q_iload 7 rfl dX9_most_108 ?_
                refine q_icmp_ge (tgt := 121) dX9_most_110 (by decide) (fun c17 => ?_) (fun c17 => ?_)
                · have hyp := q_pos c17 hyp
                  refine q_iinc (ls' := [(6, .int (v6 + 1)), (8, .int (p13.1 - p14.1)), (7, .int p9.1), (0, .ref v0), (1, .int v1), (2, .int v2), (3, .int v3), (4, .int v4), (5, .int v5)]) 8 rfl rfl (by decide) rfl dX9_most_121 ?_
                  refine q_goto (tgt := 40) dX9_most_124 (by decide) ?_
                  exact q_sub [3, 4, 5, 6, 7, 8, 0] rfl (ih v0 v1 v2 v3 v4 v5 (v6 + 1) p14.2 hyp)
                · have hyp := q_neg c17 hyp
                  exact q_sub [2, 3, 4, 5, 8, 1] rfl (okX9_most_b113 ih hyp)
          · have hyp := q_neg c12 hyp
            refine q_goto (tgt := 121) dX9_most_80 (by decide) ?_
            refine q_iinc (ls' := [(6, .int (v6 + 1)), (7, .int p9.1), (0, .ref v0), (1, .int v1), (2, .int v2), (3, .int v3), (4, .int v4), (5, .int v5)]) 7 rfl rfl (by decide) rfl dX9_most_121 ?_
            refine q_goto (tgt := 40) dX9_most_124 (by decide) ?_
            exact q_sub [2, 3, 4, 5, 6, 7, 0] rfl (ih v0 v1 v2 v3 v4 v5 (v6 + 1) p9.2 hyp)
def fX9_most (n : Nat) (v0 : Nat) (v1 : Int32) (v2 : Int32) (h : qH) : Option (Int32 × qH) :=
  (isO h v0 9).bind fun _ =>
  (fX9_within v1 0 200 h).bind fun p1 =>
  if p1.1 = 0 then
  (some ((-1), p1.2))
  else
  ((fX9_within v2 0 2 p1.2).bind fun p3 =>
  if p3.1 = 0 then
  (some ((-1), p3.2))
  else
  ((fX9_reckonCosts n v0 p3.2).bind fun h5 =>
  (fX9_meant n v0 h5).bind fun p6 =>
  fX9_most_b40 n n v0 v1 v2 p6.1 p6.1 0 0 p6.2))
theorem obX9_most {n : Nat} {v0 : Nat} {v1 : Int32} {v2 : Int32} {h : qH} {p : Int32 × qH} (hyp : fX9_most n v0 v1 v2 h = some p) : ∃ fs, h.1 v0 = some (.inr (9, fs)) := by
  unfold fX9_most at hyp
  exact q_bind hyp (fun _ e _ => isO_some e)
set_option maxHeartbeats 4000000 in
set_option maxRecDepth 100000 in
theorem okX9_most {l : Launch} {n : Nat} {v0 : Nat} {v1 : Int32} {v2 : Int32} {h : qH} {p : Int32 × qH} (hyp : fX9_most n v0 v1 v2 h = some p) : q_M l 6 yX9_most cX9_most 9 (some .int) [.ref v0, .int v1, .int v2] h (some (.int p.1)) p.2 := by
  obtain ⟨r, h'⟩ := p
  unfold fX9_most at hyp
  refine q_bind hyp (fun _ _ hyp => ?_)
  refine q_M.of (by decide) (Nat.le_of_ble_eq_true rfl) ?_
  refine q_to (ls' := [(0, .ref v0), (1, .int v1), (2, .int v2)]) (st' := []) rfl rfl ?_
  refine q_iload_n 1 rfl dX9_most_0 ?_
  refine q_iconst (x := 0) rfl dX9_most_1 ?_
  refine q_sipush (x := 200) (by decide) dX9_most_2 ?_
  refine q_bind hyp (fun p1 e10 hyp => ?_)
  refine q_callS (as := [.int v1, .int 0, .int 200]) (st := []) kY_X9_within kS_X9_within kL_X9_180 (okX9_within (l := l) e10) (by decide) rfl (Nat.le_of_ble_eq_true rfl) dX9_most_5 ?_
  refine q_to (ls' := [(0, .ref v0), (1, .int v1), (2, .int v2)]) (st' := [.int p1.1]) rfl rfl ?_
  refine q_if_eq (tgt := 20) dX9_most_8 (by decide) (fun c2 => ?_) (fun c2 => ?_)
  · have hyp := q_pos c2 hyp
    refine q_iconst (x := (-1)) rfl dX9_most_20 ?_
    exact q_iretH rfl rfl dX9_most_21 hyp
  · have hyp := q_neg c2 hyp
    refine q_iload_n 2 rfl dX9_most_11 ?_
    refine q_iconst (x := 0) rfl dX9_most_12 ?_
    refine q_iconst (x := 2) rfl dX9_most_13 ?_
    refine q_bind hyp (fun p3 e9 hyp => ?_)
    refine q_callS (as := [.int v2, .int 0, .int 2]) (st := []) kY_X9_within kS_X9_within kL_X9_180 (okX9_within (l := l) e9) (by decide) rfl (Nat.le_of_ble_eq_true rfl) dX9_most_14 ?_
    refine q_to (ls' := [(0, .ref v0), (1, .int v1), (2, .int v2)]) (st' := [.int p3.1]) rfl rfl ?_
    refine q_if_ne (tgt := 22) dX9_most_17 (by decide) (fun c4 => ?_) (fun c4 => ?_)
    · have hyp := q_neg c4 hyp
      refine q_aload_n 0 rfl dX9_most_22 ?_
      refine q_bind hyp (fun h5 e8 hyp => ?_)
      refine q_callV (as := []) (st := []) kY_X9_reckonCosts kL_X9_223 (okX9_reckonCosts (l := l) e8) (by decide) rfl (obX9_reckonCosts e8) (Nat.le_of_ble_eq_true rfl) dX9_most_23 ?_
      refine q_to (ls' := [(0, .ref v0), (1, .int v1), (2, .int v2)]) (st' := []) rfl rfl ?_
      refine q_aload_n 0 rfl dX9_most_26 ?_
      refine q_bind hyp (fun p6 e7 hyp => ?_)
      refine q_callV (as := []) (st := []) kY_X9_meant kL_X9_138 (okX9_meant (l := l) e7) (by decide) rfl (obX9_meant e7) (Nat.le_of_ble_eq_true rfl) dX9_most_27 ?_
      refine q_to (ls' := [(0, .ref v0), (1, .int v1), (2, .int v2)]) (st' := [.int p6.1]) rfl rfl ?_
      refine q_istore_n (ls' := [(3, .int p6.1), (0, .ref v0), (1, .int v1), (2, .int v2)]) (by decide) rfl dX9_most_30 ?_
      refine q_iload_n 0 rfl dX9_most_31 ?_
      refine q_istore (ls' := [(4, .int p6.1), (3, .int p6.1), (0, .ref v0), (1, .int v1), (2, .int v2)]) (by decide) rfl dX9_most_32 ?_
      refine q_iconst (x := 0) rfl dX9_most_34 ?_
      refine q_istore (ls' := [(5, .int 0), (4, .int p6.1), (3, .int p6.1), (0, .ref v0), (1, .int v1), (2, .int v2)]) (by decide) rfl dX9_most_35 ?_
      refine q_iconst (x := 0) rfl dX9_most_37 ?_
      refine q_istore (ls' := [(6, .int 0), (5, .int 0), (4, .int p6.1), (3, .int p6.1), (0, .ref v0), (1, .int v1), (2, .int v2)]) (by decide) rfl dX9_most_38 ?_
      exact q_sub [4, 5, 6, 3, 2, 1, 0] rfl (okX9_most_b40 _ v0 v1 v2 p6.1 p6.1 0 0 p6.2 hyp)
    · have hyp := q_pos c4 hyp
      refine q_iconst (x := (-1)) rfl dX9_most_20 ?_
      exact q_iretH rfl rfl dX9_most_21 hyp
theorem dX9_noSourerBits_0 : decode cX9_noSourerBits 0 = .ok (.iconst 0, 1) := by decide +kernel
theorem dX9_noSourerBits_1 : decode cX9_noSourerBits 1 = .ok (.istore_n 3, 1) := by decide +kernel
theorem dX9_noSourerBits_2 : decode cX9_noSourerBits 2 = .ok (.iconst 0, 1) := by decide +kernel
theorem dX9_noSourerBits_3 : decode cX9_noSourerBits 3 = .ok (.istore 4, 2) := by decide +kernel
theorem dX9_noSourerBits_5 : decode cX9_noSourerBits 5 = .ok (.iload 4, 2) := by decide +kernel
theorem dX9_noSourerBits_7 : decode cX9_noSourerBits 7 = .ok (.aload_n 0, 1) := by decide +kernel
theorem dX9_noSourerBits_8 : decode cX9_noSourerBits 8 = .ok (.getfield 28, 3) := by decide +kernel
theorem dX9_noSourerBits_11 : decode cX9_noSourerBits 11 = .ok (.getfield 220, 3) := by decide +kernel
theorem dX9_noSourerBits_14 : decode cX9_noSourerBits 14 = .ok (.if_icmp .ge 32, 3) := by decide +kernel
theorem dX9_noSourerBits_17 : decode cX9_noSourerBits 17 = .ok (.aload_n 0, 1) := by decide +kernel
theorem dX9_noSourerBits_18 : decode cX9_noSourerBits 18 = .ok (.getfield 79, 3) := by decide +kernel
theorem dX9_noSourerBits_21 : decode cX9_noSourerBits 21 = .ok (.iload_n 1, 1) := by decide +kernel
theorem dX9_noSourerBits_22 : decode cX9_noSourerBits 22 = .ok (.bipush 7, 2) := by decide +kernel
theorem dX9_noSourerBits_24 : decode cX9_noSourerBits 24 = .ok (.imul, 1) := by decide +kernel
theorem dX9_noSourerBits_25 : decode cX9_noSourerBits 25 = .ok (.iload 4, 2) := by decide +kernel
theorem dX9_noSourerBits_27 : decode cX9_noSourerBits 27 = .ok (.iadd, 1) := by decide +kernel
theorem dX9_noSourerBits_28 : decode cX9_noSourerBits 28 = .ok (.iaload, 1) := by decide +kernel
theorem dX9_noSourerBits_29 : decode cX9_noSourerBits 29 = .ok (.iload_n 2, 1) := by decide +kernel
theorem dX9_noSourerBits_30 : decode cX9_noSourerBits 30 = .ok (.if_icmp .gt 10, 3) := by decide +kernel
theorem dX9_noSourerBits_33 : decode cX9_noSourerBits 33 = .ok (.iload_n 3, 1) := by decide +kernel
theorem dX9_noSourerBits_34 : decode cX9_noSourerBits 34 = .ok (.iconst 1, 1) := by decide +kernel
theorem dX9_noSourerBits_35 : decode cX9_noSourerBits 35 = .ok (.iload 4, 2) := by decide +kernel
theorem dX9_noSourerBits_37 : decode cX9_noSourerBits 37 = .ok (.ishl, 1) := by decide +kernel
theorem dX9_noSourerBits_38 : decode cX9_noSourerBits 38 = .ok (.ior, 1) := by decide +kernel
theorem dX9_noSourerBits_39 : decode cX9_noSourerBits 39 = .ok (.istore_n 3, 1) := by decide +kernel
theorem dX9_noSourerBits_40 : decode cX9_noSourerBits 40 = .ok (.iinc 4 1, 3) := by decide +kernel
theorem dX9_noSourerBits_43 : decode cX9_noSourerBits 43 = .ok (.goto (-38), 3) := by decide +kernel
theorem dX9_noSourerBits_46 : decode cX9_noSourerBits 46 = .ok (.iload_n 3, 1) := by decide +kernel
theorem dX9_noSourerBits_47 : decode cX9_noSourerBits 47 = .ok (.ireturn, 1) := by decide +kernel
def fX9_noSourerBits_b5 (n : Nat) : Nat → Nat → Int32 → Int32 → Int32 → Int32 → qH → Option (Int32 × qH)
  | 0, _, _, _, _, _, _ => none
  | w + 1, v0, v1, v2, v3, v4, h =>
    (gR h v0 9 2).bind fun x1 =>
    (gI h x1 5 6).bind fun x3 =>
    if x3 ≤ v4 then
    (some (v3, h))
    else
    ((gR h v0 9 12).bind fun x6 =>
    (aI .int h x6 ((v1 * 7) + v4)).bind fun x8 =>
    if v2 < x8 then
    (fX9_noSourerBits_b5 n w v0 v1 v2 v3 (v4 + 1) h)
    else
    (fX9_noSourerBits_b5 n w v0 v1 v2 (v3 ||| ((1 : Int32) <<< (v4 &&& 31))) (v4 + 1) h))
set_option maxHeartbeats 4000000 in
set_option maxRecDepth 100000 in
theorem okX9_noSourerBits_b5 {l : Launch} {n : Nat} {r : Int32} {h' : qH} : ∀ (w : Nat) (v0 : Nat) (v1 : Int32) (v2 : Int32) (v3 : Int32) (v4 : Int32) (h : qH), fX9_noSourerBits_b5 n w v0 v1 v2 v3 v4 h = some (r, h') → q_W l 1 yX9_noSourerBits cX9_noSourerBits 5 (some .int) (some (.int r)) h' 5 [(0, .ref v0), (1, .int v1), (2, .int v2), (3, .int v3), (4, .int v4)] [] h := by
  intro w
  induction w with
  | zero => intro v0 v1 v2 v3 v4 h hyp; cases hyp
  | succ w ih =>
    intro v0 v1 v2 v3 v4 h hyp
    unfold fX9_noSourerBits_b5 at hyp
    refine q_iload 4 rfl dX9_noSourerBits_5 ?_
    refine q_aload_n 0 rfl dX9_noSourerBits_7 ?_
    refine q_bind hyp (fun x1 e2 hyp => ?_)
    refine q_getR kF_X9_28 dX9_noSourerBits_8 e2 ?_
    refine q_bind hyp (fun x3 e4 hyp => ?_)
    refine q_getI kF_X9_220 dX9_noSourerBits_11 e4 ?_
    refine q_icmp_ge (tgt := 46) dX9_noSourerBits_14 (by decide) (fun c5 => ?_) (fun c5 => ?_)
    · have hyp := q_pos c5 hyp
      refine q_iload_n 3 rfl dX9_noSourerBits_46 ?_
      exact q_iretH rfl rfl dX9_noSourerBits_47 hyp
    · have hyp := q_neg c5 hyp
      refine q_aload_n 0 rfl dX9_noSourerBits_17 ?_
      refine q_bind hyp (fun x6 e7 hyp => ?_)
      refine q_getR kF_X9_79 dX9_noSourerBits_18 e7 ?_
      refine q_iload_n 1 rfl dX9_noSourerBits_21 ?_
      refine q_bipush (x := 7) (by decide) dX9_noSourerBits_22 ?_
      refine q_imul dX9_noSourerBits_24 ?_
      refine q_iload 4 rfl dX9_noSourerBits_25 ?_
      refine q_iadd dX9_noSourerBits_27 ?_
      refine q_bind hyp (fun x8 e9 hyp => ?_)
      refine q_iald dX9_noSourerBits_28 e9 ?_
      refine q_iload_n 2 rfl dX9_noSourerBits_29 ?_
      refine q_icmp_gt (tgt := 40) dX9_noSourerBits_30 (by decide) (fun c10 => ?_) (fun c10 => ?_)
      · have hyp := q_pos c10 hyp
        refine q_iinc (ls' := [(4, .int (v4 + 1)), (0, .ref v0), (1, .int v1), (2, .int v2), (3, .int v3)]) 4 rfl rfl (by decide) rfl dX9_noSourerBits_40 ?_
        refine q_goto (tgt := 5) dX9_noSourerBits_43 (by decide) ?_
        exact q_sub [1, 2, 3, 4, 0] rfl (ih v0 v1 v2 v3 (v4 + 1) h hyp)
      · have hyp := q_neg c10 hyp
        refine q_iload_n 3 rfl dX9_noSourerBits_33 ?_
        refine q_iconst (x := 1) rfl dX9_noSourerBits_34 ?_
        refine q_iload 4 rfl dX9_noSourerBits_35 ?_
        refine q_ishl dX9_noSourerBits_37 ?_
        refine q_ior dX9_noSourerBits_38 ?_
        refine q_istore_n (ls' := [(3, .int (v3 ||| ((1 : Int32) <<< (v4 &&& 31)))), (0, .ref v0), (1, .int v1), (2, .int v2), (4, .int v4)]) (by decide) rfl dX9_noSourerBits_39 ?_
        refine q_iinc (ls' := [(4, .int (v4 + 1)), (3, .int (v3 ||| ((1 : Int32) <<< (v4 &&& 31)))), (0, .ref v0), (1, .int v1), (2, .int v2)]) 4 rfl rfl (by decide) rfl dX9_noSourerBits_40 ?_
        refine q_goto (tgt := 5) dX9_noSourerBits_43 (by decide) ?_
        exact q_sub [2, 3, 4, 1, 0] rfl (ih v0 v1 v2 (v3 ||| ((1 : Int32) <<< (v4 &&& 31))) (v4 + 1) h hyp)
def fX9_noSourerBits (n : Nat) (v0 : Nat) (v1 : Int32) (v2 : Int32) (h : qH) : Option (Int32 × qH) :=
  (isO h v0 9).bind fun _ =>
  fX9_noSourerBits_b5 n n v0 v1 v2 0 0 h
theorem obX9_noSourerBits {n : Nat} {v0 : Nat} {v1 : Int32} {v2 : Int32} {h : qH} {p : Int32 × qH} (hyp : fX9_noSourerBits n v0 v1 v2 h = some p) : ∃ fs, h.1 v0 = some (.inr (9, fs)) := by
  unfold fX9_noSourerBits at hyp
  exact q_bind hyp (fun _ e _ => isO_some e)
set_option maxHeartbeats 4000000 in
set_option maxRecDepth 100000 in
theorem okX9_noSourerBits {l : Launch} {n : Nat} {v0 : Nat} {v1 : Int32} {v2 : Int32} {h : qH} {p : Int32 × qH} (hyp : fX9_noSourerBits n v0 v1 v2 h = some p) : q_M l 1 yX9_noSourerBits cX9_noSourerBits 5 (some .int) [.ref v0, .int v1, .int v2] h (some (.int p.1)) p.2 := by
  obtain ⟨r, h'⟩ := p
  unfold fX9_noSourerBits at hyp
  refine q_bind hyp (fun _ _ hyp => ?_)
  refine q_M.of (by decide) (Nat.le_of_ble_eq_true rfl) ?_
  refine q_to (ls' := [(0, .ref v0), (1, .int v1), (2, .int v2)]) (st' := []) rfl rfl ?_
  refine q_iconst (x := 0) rfl dX9_noSourerBits_0 ?_
  refine q_istore_n (ls' := [(3, .int 0), (0, .ref v0), (1, .int v1), (2, .int v2)]) (by decide) rfl dX9_noSourerBits_1 ?_
  refine q_iconst (x := 0) rfl dX9_noSourerBits_2 ?_
  refine q_istore (ls' := [(4, .int 0), (3, .int 0), (0, .ref v0), (1, .int v1), (2, .int v2)]) (by decide) rfl dX9_noSourerBits_3 ?_
  exact q_sub [2, 3, 4, 1, 0] rfl (okX9_noSourerBits_b5 _ v0 v1 v2 0 0 h hyp)
theorem dX9_past_0 : decode cX9_past 0 = .ok (.aload_n 0, 1) := by decide +kernel
theorem dX9_past_1 : decode cX9_past 1 = .ok (.getfield 21, 3) := by decide +kernel
theorem dX9_past_4 : decode cX9_past 4 = .ok (.aload_n 0, 1) := by decide +kernel
theorem dX9_past_5 : decode cX9_past 5 = .ok (.getfield 32, 3) := by decide +kernel
theorem dX9_past_8 : decode cX9_past 8 = .ok (.invokevirtual 98, 3) := by decide +kernel
theorem dX9_past_11 : decode cX9_past 11 = .ok (.istore_n 1, 1) := by decide +kernel
theorem dX9_past_12 : decode cX9_past 12 = .ok (.iload_n 1, 1) := by decide +kernel
theorem dX9_past_13 : decode cX9_past 13 = .ok (.ifCond .ne 25, 3) := by decide +kernel
theorem dX9_past_16 : decode cX9_past 16 = .ok (.aload_n 0, 1) := by decide +kernel
theorem dX9_past_17 : decode cX9_past 17 = .ok (.getfield 28, 3) := by decide +kernel
theorem dX9_past_20 : decode cX9_past 20 = .ok (.astore_n 2, 1) := by decide +kernel
theorem dX9_past_21 : decode cX9_past 21 = .ok (.aload_n 0, 1) := by decide +kernel
theorem dX9_past_22 : decode cX9_past 22 = .ok (.aload_n 0, 1) := by decide +kernel
theorem dX9_past_23 : decode cX9_past 23 = .ok (.getfield 32, 3) := by decide +kernel
theorem dX9_past_26 : decode cX9_past 26 = .ok (.putfield 28, 3) := by decide +kernel
theorem dX9_past_29 : decode cX9_past 29 = .ok (.aload_n 0, 1) := by decide +kernel
theorem dX9_past_30 : decode cX9_past 30 = .ok (.aload_n 2, 1) := by decide +kernel
theorem dX9_past_31 : decode cX9_past 31 = .ok (.putfield 32, 3) := by decide +kernel
theorem dX9_past_34 : decode cX9_past 34 = .ok (.aload_n 0, 1) := by decide +kernel
theorem dX9_past_35 : decode cX9_past 35 = .ok (.invokevirtual 102, 3) := by decide +kernel
theorem dX9_past_38 : decode cX9_past 38 = .ok (.iload_n 1, 1) := by decide +kernel
theorem dX9_past_39 : decode cX9_past 39 = .ok (.ireturn, 1) := by decide +kernel
def fX9_past (n : Nat) (v0 : Nat) (h : qH) : Option (Int32 × qH) :=
  (isO h v0 9).bind fun _ =>
  (gR h v0 9 1).bind fun x1 =>
  (gR h v0 9 3).bind fun x3 =>
  (fX4_readPast n x1 x3 h).bind fun p5 =>
  if p5.1 = 0 then
  ((gR p5.2 v0 9 2).bind fun x7 =>
  (gR p5.2 v0 9 3).bind fun x9 =>
  (pF p5.2 v0 9 2 (.ref x9)).bind fun h11 =>
  (pF h11 v0 9 3 (.ref x7)).bind fun h13 =>
  (fX9_beginAnew n v0 h13).bind fun h15 =>
  some (p5.1, h15))
  else
  (some (p5.1, p5.2))
theorem obX9_past {n : Nat} {v0 : Nat} {h : qH} {p : Int32 × qH} (hyp : fX9_past n v0 h = some p) : ∃ fs, h.1 v0 = some (.inr (9, fs)) := by
  unfold fX9_past at hyp
  exact q_bind hyp (fun _ e _ => isO_some e)
set_option maxHeartbeats 4000000 in
set_option maxRecDepth 100000 in
theorem okX9_past {l : Launch} {n : Nat} {v0 : Nat} {h : qH} {p : Int32 × qH} (hyp : fX9_past n v0 h = some p) : q_M l 54 yX9_past cX9_past 3 (some .int) [.ref v0] h (some (.int p.1)) p.2 := by
  obtain ⟨r, h'⟩ := p
  unfold fX9_past at hyp
  refine q_bind hyp (fun _ _ hyp => ?_)
  refine q_M.of (by decide) (Nat.le_of_ble_eq_true rfl) ?_
  refine q_to (ls' := [(0, .ref v0)]) (st' := []) rfl rfl ?_
  refine q_aload_n 0 rfl dX9_past_0 ?_
  refine q_bind hyp (fun x1 e2 hyp => ?_)
  refine q_getR kF_X9_21 dX9_past_1 e2 ?_
  refine q_aload_n 0 rfl dX9_past_4 ?_
  refine q_bind hyp (fun x3 e4 hyp => ?_)
  refine q_getR kF_X9_32 dX9_past_5 e4 ?_
  refine q_bind hyp (fun p5 e17 hyp => ?_)
  refine q_callV (as := [.ref x3]) (st := []) kY_X4_readPast kL_X9_98 (okX4_readPast (l := l) e17) (by decide) rfl (obX4_readPast e17) (Nat.le_of_ble_eq_true rfl) dX9_past_8 ?_
  refine q_to (ls' := [(0, .ref v0)]) (st' := [.int p5.1]) rfl rfl ?_
  refine q_istore_n (ls' := [(1, .int p5.1), (0, .ref v0)]) (by decide) rfl dX9_past_11 ?_
  refine q_iload_n 0 rfl dX9_past_12 ?_
  refine q_if_ne (tgt := 38) dX9_past_13 (by decide) (fun c6 => ?_) (fun c6 => ?_)
  · have hyp := q_neg c6 hyp
    refine q_iload_n 0 rfl dX9_past_38 ?_
    exact q_iretH rfl rfl dX9_past_39 hyp
  · have hyp := q_pos c6 hyp
    refine q_aload_n 1 rfl dX9_past_16 ?_
    refine q_bind hyp (fun x7 e8 hyp => ?_)
    refine q_getR kF_X9_28 dX9_past_17 e8 ?_
    refine q_astore_n (ls' := [(2, .ref x7), (1, .int p5.1), (0, .ref v0)]) (by decide) rfl dX9_past_20 ?_
    refine q_aload_n 2 rfl dX9_past_21 ?_
    refine q_aload_n 2 rfl dX9_past_22 ?_
    refine q_bind hyp (fun x9 e10 hyp => ?_)
    refine q_getR kF_X9_32 dX9_past_23 e10 ?_
    refine q_bind hyp (fun h11 e12 hyp => ?_)
    refine q_putF kF_X9_28 (fun _ => ⟨rfl, rfl⟩) dX9_past_26 e12 ?_
    refine q_aload_n 2 rfl dX9_past_29 ?_
    refine q_aload_n 0 rfl dX9_past_30 ?_
    refine q_bind hyp (fun h13 e14 hyp => ?_)
    refine q_putF kF_X9_32 (fun _ => ⟨rfl, rfl⟩) dX9_past_31 e14 ?_
    refine q_aload_n 2 rfl dX9_past_34 ?_
    refine q_bind hyp (fun h15 e16 hyp => ?_)
    refine q_callV (as := []) (st := []) kY_X9_beginAnew kL_X9_102 (okX9_beginAnew (l := l) e16) (by decide) rfl (obX9_beginAnew e16) (Nat.le_of_ble_eq_true rfl) dX9_past_35 ?_
    refine q_to (ls' := [(2, .ref x7), (1, .int p5.1), (0, .ref v0)]) (st' := []) rfl rfl ?_
    refine q_iload_n 1 rfl dX9_past_38 ?_
    exact q_iretH rfl rfl dX9_past_39 hyp
theorem dX9_reckonTastes_0 : decode cX9_reckonTastes 0 = .ok (.iconst 0, 1) := by decide +kernel
theorem dX9_reckonTastes_1 : decode cX9_reckonTastes 1 = .ok (.istore_n 1, 1) := by decide +kernel
theorem dX9_reckonTastes_2 : decode cX9_reckonTastes 2 = .ok (.iload_n 1, 1) := by decide +kernel
theorem dX9_reckonTastes_3 : decode cX9_reckonTastes 3 = .ok (.aload_n 0, 1) := by decide +kernel
theorem dX9_reckonTastes_4 : decode cX9_reckonTastes 4 = .ok (.getfield 28, 3) := by decide +kernel
theorem dX9_reckonTastes_7 : decode cX9_reckonTastes 7 = .ok (.getfield 220, 3) := by decide +kernel
theorem dX9_reckonTastes_10 : decode cX9_reckonTastes 10 = .ok (.if_icmp .ge 73, 3) := by decide +kernel
theorem dX9_reckonTastes_13 : decode cX9_reckonTastes 13 = .ok (.aload_n 0, 1) := by decide +kernel
theorem dX9_reckonTastes_14 : decode cX9_reckonTastes 14 = .ok (.getfield 38, 3) := by decide +kernel
theorem dX9_reckonTastes_17 : decode cX9_reckonTastes 17 = .ok (.getfield 132, 3) := by decide +kernel
theorem dX9_reckonTastes_20 : decode cX9_reckonTastes 20 = .ok (.iload_n 1, 1) := by decide +kernel
theorem dX9_reckonTastes_21 : decode cX9_reckonTastes 21 = .ok (.iaload, 1) := by decide +kernel
theorem dX9_reckonTastes_22 : decode cX9_reckonTastes 22 = .ok (.istore_n 2, 1) := by decide +kernel
theorem dX9_reckonTastes_23 : decode cX9_reckonTastes 23 = .ok (.iconst 0, 1) := by decide +kernel
theorem dX9_reckonTastes_24 : decode cX9_reckonTastes 24 = .ok (.istore_n 3, 1) := by decide +kernel
theorem dX9_reckonTastes_25 : decode cX9_reckonTastes 25 = .ok (.iload_n 3, 1) := by decide +kernel
theorem dX9_reckonTastes_26 : decode cX9_reckonTastes 26 = .ok (.bipush 9, 2) := by decide +kernel
theorem dX9_reckonTastes_28 : decode cX9_reckonTastes 28 = .ok (.if_icmp .gt 49, 3) := by decide +kernel
theorem dX9_reckonTastes_31 : decode cX9_reckonTastes 31 = .ok (.aload_n 0, 1) := by decide +kernel
theorem dX9_reckonTastes_32 : decode cX9_reckonTastes 32 = .ok (.getfield 79, 3) := by decide +kernel
theorem dX9_reckonTastes_35 : decode cX9_reckonTastes 35 = .ok (.iload_n 3, 1) := by decide +kernel
theorem dX9_reckonTastes_36 : decode cX9_reckonTastes 36 = .ok (.bipush 7, 2) := by decide +kernel
theorem dX9_reckonTastes_38 : decode cX9_reckonTastes 38 = .ok (.imul, 1) := by decide +kernel
theorem dX9_reckonTastes_39 : decode cX9_reckonTastes 39 = .ok (.iload_n 1, 1) := by decide +kernel
theorem dX9_reckonTastes_40 : decode cX9_reckonTastes 40 = .ok (.iadd, 1) := by decide +kernel
theorem dX9_reckonTastes_41 : decode cX9_reckonTastes 41 = .ok (.iload_n 2, 1) := by decide +kernel
theorem dX9_reckonTastes_42 : decode cX9_reckonTastes 42 = .ok (.iastore, 1) := by decide +kernel
theorem dX9_reckonTastes_43 : decode cX9_reckonTastes 43 = .ok (.aload_n 0, 1) := by decide +kernel
theorem dX9_reckonTastes_44 : decode cX9_reckonTastes 44 = .ok (.getfield 28, 3) := by decide +kernel
theorem dX9_reckonTastes_47 : decode cX9_reckonTastes 47 = .ok (.iload_n 1, 1) := by decide +kernel
theorem dX9_reckonTastes_48 : decode cX9_reckonTastes 48 = .ok (.iload_n 2, 1) := by decide +kernel
theorem dX9_reckonTastes_49 : decode cX9_reckonTastes 49 = .ok (.aload_n 0, 1) := by decide +kernel
theorem dX9_reckonTastes_50 : decode cX9_reckonTastes 50 = .ok (.getfield 38, 3) := by decide +kernel
theorem dX9_reckonTastes_53 : decode cX9_reckonTastes 53 = .ok (.getfield 135, 3) := by decide +kernel
theorem dX9_reckonTastes_56 : decode cX9_reckonTastes 56 = .ok (.iload_n 1, 1) := by decide +kernel
theorem dX9_reckonTastes_57 : decode cX9_reckonTastes 57 = .ok (.iaload, 1) := by decide +kernel
theorem dX9_reckonTastes_58 : decode cX9_reckonTastes 58 = .ok (.iload_n 3, 1) := by decide +kernel
theorem dX9_reckonTastes_59 : decode cX9_reckonTastes 59 = .ok (.iadd, 1) := by decide +kernel
theorem dX9_reckonTastes_60 : decode cX9_reckonTastes 60 = .ok (.aload_n 0, 1) := by decide +kernel
theorem dX9_reckonTastes_61 : decode cX9_reckonTastes 61 = .ok (.getfield 38, 3) := by decide +kernel
theorem dX9_reckonTastes_64 : decode cX9_reckonTastes 64 = .ok (.getfield 207, 3) := by decide +kernel
theorem dX9_reckonTastes_67 : decode cX9_reckonTastes 67 = .ok (.invokevirtual 210, 3) := by decide +kernel
theorem dX9_reckonTastes_70 : decode cX9_reckonTastes 70 = .ok (.istore_n 2, 1) := by decide +kernel
theorem dX9_reckonTastes_71 : decode cX9_reckonTastes 71 = .ok (.iinc 3 1, 3) := by decide +kernel
theorem dX9_reckonTastes_74 : decode cX9_reckonTastes 74 = .ok (.goto (-49), 3) := by decide +kernel
theorem dX9_reckonTastes_77 : decode cX9_reckonTastes 77 = .ok (.iinc 1 1, 3) := by decide +kernel
theorem dX9_reckonTastes_80 : decode cX9_reckonTastes 80 = .ok (.goto (-78), 3) := by decide +kernel
theorem dX9_reckonTastes_83 : decode cX9_reckonTastes 83 = .ok (.return_, 1) := by decide +kernel
def fX9_reckonTastes_b25 (n : Nat) (K2 : Nat → Int32 → qH → Option (qH)) : Nat → Nat → Int32 → Int32 → Int32 → qH → Option (qH)
  | 0, _, _, _, _, _ => none
  | w + 1, v0, v1, v2, v3, h =>
    if 9 < v3 then
    (K2 v0 (v1 + 1) h)
    else
    ((gR h v0 9 12).bind fun x2 =>
    (sI .int h x2 ((v3 * 7) + v1) v2).bind fun h4 =>
    (gR h4 v0 9 2).bind fun x6 =>
    (gR h4 v0 9 4).bind fun x8 =>
    (gR h4 x8 8 1).bind fun x10 =>
    (aI .int h4 x10 v1).bind fun x12 =>
    (gR h4 v0 9 4).bind fun x14 =>
    (gI h4 x14 8 3).bind fun x16 =>
    (fX5_sourAfterCoat n x6 v1 v2 (x12 + v3) x16 h4).bind fun p18 =>
    fX9_reckonTastes_b25 n K2 w v0 v1 p18.1 (v3 + 1) p18.2)
set_option maxHeartbeats 4000000 in
set_option maxRecDepth 100000 in
theorem okX9_reckonTastes_b25 {l : Launch} {n : Nat} {K2 : Nat → Int32 → qH → Option (qH)} {h' : qH} (hK2 : ∀ (v0 : Nat) (v1 : Int32) (h : qH), K2 v0 v1 h = some h' → q_W l 4 yX9_reckonTastes cX9_reckonTastes 4 none none h' 2 [(0, .ref v0), (1, .int v1)] [] h) : ∀ (w : Nat) (v0 : Nat) (v1 : Int32) (v2 : Int32) (v3 : Int32) (h : qH), fX9_reckonTastes_b25 n K2 w v0 v1 v2 v3 h = some h' → q_W l 4 yX9_reckonTastes cX9_reckonTastes 4 none none h' 25 [(0, .ref v0), (1, .int v1), (2, .int v2), (3, .int v3)] [] h := by
  intro w
  induction w with
  | zero => intro v0 v1 v2 v3 h hyp; cases hyp
  | succ w ih =>
    intro v0 v1 v2 v3 h hyp
    unfold fX9_reckonTastes_b25 at hyp
    refine q_iload_n 3 rfl dX9_reckonTastes_25 ?_
    refine q_bipush (x := 9) (by decide) dX9_reckonTastes_26 ?_
    refine q_icmp_gt (tgt := 77) dX9_reckonTastes_28 (by decide) (fun c1 => ?_) (fun c1 => ?_)
    · have hyp := q_pos c1 hyp
      refine q_iinc (ls' := [(1, .int (v1 + 1)), (0, .ref v0), (2, .int v2), (3, .int v3)]) 1 rfl rfl (by decide) rfl dX9_reckonTastes_77 ?_
      refine q_goto (tgt := 2) dX9_reckonTastes_80 (by decide) ?_
      exact q_sub [1, 0] rfl (hK2 v0 (v1 + 1) h hyp)
    · have hyp := q_neg c1 hyp
      refine q_aload_n 0 rfl dX9_reckonTastes_31 ?_
      refine q_bind hyp (fun x2 e3 hyp => ?_)
      refine q_getR kF_X9_79 dX9_reckonTastes_32 e3 ?_
      refine q_iload_n 3 rfl dX9_reckonTastes_35 ?_
      refine q_bipush (x := 7) (by decide) dX9_reckonTastes_36 ?_
      refine q_imul dX9_reckonTastes_38 ?_
      refine q_iload_n 1 rfl dX9_reckonTastes_39 ?_
      refine q_iadd dX9_reckonTastes_40 ?_
      refine q_iload_n 2 rfl dX9_reckonTastes_41 ?_
      refine q_bind hyp (fun h4 e5 hyp => ?_)
      refine q_iast dX9_reckonTastes_42 e5 ?_
      refine q_aload_n 0 rfl dX9_reckonTastes_43 ?_
      refine q_bind hyp (fun x6 e7 hyp => ?_)
      refine q_getR kF_X9_28 dX9_reckonTastes_44 e7 ?_
      refine q_iload_n 1 rfl dX9_reckonTastes_47 ?_
      refine q_iload_n 2 rfl dX9_reckonTastes_48 ?_
      refine q_aload_n 0 rfl dX9_reckonTastes_49 ?_
      refine q_bind hyp (fun x8 e9 hyp => ?_)
      refine q_getR kF_X9_38 dX9_reckonTastes_50 e9 ?_
      refine q_bind hyp (fun x10 e11 hyp => ?_)
      refine q_getR kF_X9_135 dX9_reckonTastes_53 e11 ?_
      refine q_iload_n 1 rfl dX9_reckonTastes_56 ?_
      refine q_bind hyp (fun x12 e13 hyp => ?_)
      refine q_iald dX9_reckonTastes_57 e13 ?_
      refine q_iload_n 3 rfl dX9_reckonTastes_58 ?_
      refine q_iadd dX9_reckonTastes_59 ?_
      refine q_aload_n 0 rfl dX9_reckonTastes_60 ?_
      refine q_bind hyp (fun x14 e15 hyp => ?_)
      refine q_getR kF_X9_38 dX9_reckonTastes_61 e15 ?_
      refine q_bind hyp (fun x16 e17 hyp => ?_)
      refine q_getI kF_X9_207 dX9_reckonTastes_64 e17 ?_
      refine q_bind hyp (fun p18 e19 hyp => ?_)
      refine q_callV (as := [.int v1, .int v2, .int (x12 + v3), .int x16]) (st := []) kY_X5_sourAfterCoat kL_X9_210 (okX5_sourAfterCoat (l := l) e19) (by decide) rfl (obX5_sourAfterCoat e19) (Nat.le_of_ble_eq_true rfl) dX9_reckonTastes_67 ?_
      refine q_to (ls' := [(0, .ref v0), (1, .int v1), (2, .int v2), (3, .int v3)]) (st' := [.int p18.1]) rfl rfl ?_
      refine q_istore_n (ls' := [(2, .int p18.1), (0, .ref v0), (1, .int v1), (3, .int v3)]) (by decide) rfl dX9_reckonTastes_70 ?_
      refine q_iinc (ls' := [(3, .int (v3 + 1)), (2, .int p18.1), (0, .ref v0), (1, .int v1)]) 3 rfl rfl (by decide) rfl dX9_reckonTastes_71 ?_
      refine q_goto (tgt := 25) dX9_reckonTastes_74 (by decide) ?_
      exact q_sub [2, 3, 1, 0] rfl (ih v0 v1 p18.1 (v3 + 1) p18.2 hyp)
def fX9_reckonTastes_b2 (n : Nat) : Nat → Nat → Int32 → qH → Option (qH)
  | 0, _, _, _ => none
  | w + 1, v0, v1, h =>
    (gR h v0 9 2).bind fun x1 =>
    (gI h x1 5 6).bind fun x3 =>
    if x3 ≤ v1 then
    (some h)
    else
    ((gR h v0 9 4).bind fun x6 =>
    (gR h x6 8 0).bind fun x8 =>
    (aI .int h x8 v1).bind fun x10 =>
    fX9_reckonTastes_b25 n (fX9_reckonTastes_b2 n w) n v0 v1 x10 0 h)
set_option maxHeartbeats 4000000 in
set_option maxRecDepth 100000 in
theorem okX9_reckonTastes_b2 {l : Launch} {n : Nat} {h' : qH} : ∀ (w : Nat) (v0 : Nat) (v1 : Int32) (h : qH), fX9_reckonTastes_b2 n w v0 v1 h = some h' → q_W l 4 yX9_reckonTastes cX9_reckonTastes 4 none none h' 2 [(0, .ref v0), (1, .int v1)] [] h := by
  intro w
  induction w with
  | zero => intro v0 v1 h hyp; cases hyp
  | succ w ih =>
    intro v0 v1 h hyp
    unfold fX9_reckonTastes_b2 at hyp
    refine q_iload_n 1 rfl dX9_reckonTastes_2 ?_
    refine q_aload_n 0 rfl dX9_reckonTastes_3 ?_
    refine q_bind hyp (fun x1 e2 hyp => ?_)
    refine q_getR kF_X9_28 dX9_reckonTastes_4 e2 ?_
    refine q_bind hyp (fun x3 e4 hyp => ?_)
    refine q_getI kF_X9_220 dX9_reckonTastes_7 e4 ?_
    refine q_icmp_ge (tgt := 83) dX9_reckonTastes_10 (by decide) (fun c5 => ?_) (fun c5 => ?_)
    · have hyp := q_pos c5 hyp
      exact q_vretH rfl dX9_reckonTastes_83 hyp
    · have hyp := q_neg c5 hyp
      refine q_aload_n 0 rfl dX9_reckonTastes_13 ?_
      refine q_bind hyp (fun x6 e7 hyp => ?_)
      refine q_getR kF_X9_38 dX9_reckonTastes_14 e7 ?_
      refine q_bind hyp (fun x8 e9 hyp => ?_)
      refine q_getR kF_X9_132 dX9_reckonTastes_17 e9 ?_
      refine q_iload_n 1 rfl dX9_reckonTastes_20 ?_
      refine q_bind hyp (fun x10 e11 hyp => ?_)
      refine q_iald dX9_reckonTastes_21 e11 ?_
      refine q_istore_n (ls' := [(2, .int x10), (0, .ref v0), (1, .int v1)]) (by decide) rfl dX9_reckonTastes_22 ?_
      refine q_iconst (x := 0) rfl dX9_reckonTastes_23 ?_
      refine q_istore_n (ls' := [(3, .int 0), (2, .int x10), (0, .ref v0), (1, .int v1)]) (by decide) rfl dX9_reckonTastes_24 ?_
      exact q_sub [2, 3, 1, 0] rfl (okX9_reckonTastes_b25 ih _ v0 v1 x10 0 h hyp)
def fX9_reckonTastes (n : Nat) (v0 : Nat) (h : qH) : Option (qH) :=
  (isO h v0 9).bind fun _ =>
  fX9_reckonTastes_b2 n n v0 0 h
theorem obX9_reckonTastes {n : Nat} {v0 : Nat} {h : qH} {p : qH} (hyp : fX9_reckonTastes n v0 h = some p) : ∃ fs, h.1 v0 = some (.inr (9, fs)) := by
  unfold fX9_reckonTastes at hyp
  exact q_bind hyp (fun _ e _ => isO_some e)
set_option maxHeartbeats 4000000 in
set_option maxRecDepth 100000 in
theorem okX9_reckonTastes {l : Launch} {n : Nat} {v0 : Nat} {h : qH} {h' : qH} (hyp : fX9_reckonTastes n v0 h = some h') : q_M l 4 yX9_reckonTastes cX9_reckonTastes 4 none [.ref v0] h none h' := by
  unfold fX9_reckonTastes at hyp
  refine q_bind hyp (fun _ _ hyp => ?_)
  refine q_M.of (by decide) (Nat.le_of_ble_eq_true rfl) ?_
  refine q_to (ls' := [(0, .ref v0)]) (st' := []) rfl rfl ?_
  refine q_iconst (x := 0) rfl dX9_reckonTastes_0 ?_
  refine q_istore_n (ls' := [(1, .int 0), (0, .ref v0)]) (by decide) rfl dX9_reckonTastes_1 ?_
  exact q_sub [1, 0] rfl (okX9_reckonTastes_b2 _ v0 0 h hyp)
theorem dX9_redeems_0 : decode cX9_redeems 0 = .ok (.aload_n 0, 1) := by decide +kernel
theorem dX9_redeems_1 : decode cX9_redeems 1 = .ok (.getfield 28, 3) := by decide +kernel
theorem dX9_redeems_4 : decode cX9_redeems 4 = .ok (.invokevirtual 201, 3) := by decide +kernel
theorem dX9_redeems_7 : decode cX9_redeems 7 = .ok (.aload_n 0, 1) := by decide +kernel
theorem dX9_redeems_8 : decode cX9_redeems 8 = .ok (.invokevirtual 146, 3) := by decide +kernel
theorem dX9_redeems_11 : decode cX9_redeems 11 = .ok (.iconst (-1), 1) := by decide +kernel
theorem dX9_redeems_12 : decode cX9_redeems 12 = .ok (.ixor, 1) := by decide +kernel
theorem dX9_redeems_13 : decode cX9_redeems 13 = .ok (.iand, 1) := by decide +kernel
theorem dX9_redeems_14 : decode cX9_redeems 14 = .ok (.istore_n 1, 1) := by decide +kernel
theorem dX9_redeems_15 : decode cX9_redeems 15 = .ok (.iconst (-1), 1) := by decide +kernel
theorem dX9_redeems_16 : decode cX9_redeems 16 = .ok (.istore_n 2, 1) := by decide +kernel
theorem dX9_redeems_17 : decode cX9_redeems 17 = .ok (.iconst 0, 1) := by decide +kernel
theorem dX9_redeems_18 : decode cX9_redeems 18 = .ok (.istore_n 3, 1) := by decide +kernel
theorem dX9_redeems_19 : decode cX9_redeems 19 = .ok (.iconst 0, 1) := by decide +kernel
theorem dX9_redeems_20 : decode cX9_redeems 20 = .ok (.istore 4, 2) := by decide +kernel
theorem dX9_redeems_22 : decode cX9_redeems 22 = .ok (.iload 4, 2) := by decide +kernel
theorem dX9_redeems_24 : decode cX9_redeems 24 = .ok (.aload_n 0, 1) := by decide +kernel
theorem dX9_redeems_25 : decode cX9_redeems 25 = .ok (.getfield 28, 3) := by decide +kernel
theorem dX9_redeems_28 : decode cX9_redeems 28 = .ok (.getfield 220, 3) := by decide +kernel
theorem dX9_redeems_31 : decode cX9_redeems 31 = .ok (.if_icmp .ge 50, 3) := by decide +kernel
theorem dX9_redeems_34 : decode cX9_redeems 34 = .ok (.aload_n 0, 1) := by decide +kernel
theorem dX9_redeems_35 : decode cX9_redeems 35 = .ok (.getfield 28, 3) := by decide +kernel
theorem dX9_redeems_38 : decode cX9_redeems 38 = .ok (.iload 4, 2) := by decide +kernel
theorem dX9_redeems_40 : decode cX9_redeems 40 = .ok (.invokevirtual 258, 3) := by decide +kernel
theorem dX9_redeems_43 : decode cX9_redeems 43 = .ok (.iload_n 1, 1) := by decide +kernel
theorem dX9_redeems_44 : decode cX9_redeems 44 = .ok (.iand, 1) := by decide +kernel
theorem dX9_redeems_45 : decode cX9_redeems 45 = .ok (.invokestatic 170, 3) := by decide +kernel
theorem dX9_redeems_48 : decode cX9_redeems 48 = .ok (.istore 5, 2) := by decide +kernel
theorem dX9_redeems_50 : decode cX9_redeems 50 = .ok (.aload_n 0, 1) := by decide +kernel
theorem dX9_redeems_51 : decode cX9_redeems 51 = .ok (.getfield 38, 3) := by decide +kernel
theorem dX9_redeems_54 : decode cX9_redeems 54 = .ok (.getfield 132, 3) := by decide +kernel
theorem dX9_redeems_57 : decode cX9_redeems 57 = .ok (.iload 4, 2) := by decide +kernel
theorem dX9_redeems_59 : decode cX9_redeems 59 = .ok (.iaload, 1) := by decide +kernel
theorem dX9_redeems_60 : decode cX9_redeems 60 = .ok (.ifCond .eq 15, 3) := by decide +kernel
theorem dX9_redeems_63 : decode cX9_redeems 63 = .ok (.iload 5, 2) := by decide +kernel
theorem dX9_redeems_65 : decode cX9_redeems 65 = .ok (.iload_n 3, 1) := by decide +kernel
theorem dX9_redeems_66 : decode cX9_redeems 66 = .ok (.if_icmp .le 9, 3) := by decide +kernel
theorem dX9_redeems_69 : decode cX9_redeems 69 = .ok (.iload 4, 2) := by decide +kernel
theorem dX9_redeems_71 : decode cX9_redeems 71 = .ok (.istore_n 2, 1) := by decide +kernel
theorem dX9_redeems_72 : decode cX9_redeems 72 = .ok (.iload 5, 2) := by decide +kernel
theorem dX9_redeems_74 : decode cX9_redeems 74 = .ok (.istore_n 3, 1) := by decide +kernel
theorem dX9_redeems_75 : decode cX9_redeems 75 = .ok (.iinc 4 1, 3) := by decide +kernel
theorem dX9_redeems_78 : decode cX9_redeems 78 = .ok (.goto (-56), 3) := by decide +kernel
theorem dX9_redeems_81 : decode cX9_redeems 81 = .ok (.iload_n 2, 1) := by decide +kernel
theorem dX9_redeems_82 : decode cX9_redeems 82 = .ok (.ireturn, 1) := by decide +kernel
def fX9_redeems_b22 (n : Nat) : Nat → Nat → Int32 → Int32 → Int32 → Int32 → qH → Option (Int32 × qH)
  | 0, _, _, _, _, _, _ => none
  | w + 1, v0, v1, v2, v3, v4, h =>
    (gR h v0 9 2).bind fun x1 =>
    (gI h x1 5 6).bind fun x3 =>
    if x3 ≤ v4 then
    (some (v2, h))
    else
    ((gR h v0 9 2).bind fun x6 =>
    (fX5_causeBits n x6 v4 h).bind fun p8 =>
    (fJ6_bitCount_0f7a4 (p8.1 &&& v1) p8.2).bind fun p9 =>
    (gR p9.2 v0 9 4).bind fun x10 =>
    (gR p9.2 x10 8 0).bind fun x12 =>
    (aI .int p9.2 x12 v4).bind fun x14 =>
    if x14 = 0 then
    (fX9_redeems_b22 n w v0 v1 v2 v3 (v4 + 1) p9.2)
    else
    (if p9.1 ≤ v3 then
    (fX9_redeems_b22 n w v0 v1 v2 v3 (v4 + 1) p9.2)
    else
    (fX9_redeems_b22 n w v0 v1 v4 p9.1 (v4 + 1) p9.2)))
set_option maxHeartbeats 4000000 in
set_option maxRecDepth 100000 in
theorem okX9_redeems_b22 {l : Launch} {n : Nat} {r : Int32} {h' : qH} : ∀ (w : Nat) (v0 : Nat) (v1 : Int32) (v2 : Int32) (v3 : Int32) (v4 : Int32) (h : qH), fX9_redeems_b22 n w v0 v1 v2 v3 v4 h = some (r, h') → q_W l 4 yX9_redeems cX9_redeems 6 (some .int) (some (.int r)) h' 22 [(0, .ref v0), (1, .int v1), (2, .int v2), (3, .int v3), (4, .int v4)] [] h := by
  intro w
  induction w with
  | zero => intro v0 v1 v2 v3 v4 h hyp; cases hyp
  | succ w ih =>
    intro v0 v1 v2 v3 v4 h hyp
    unfold fX9_redeems_b22 at hyp
    refine q_iload 4 rfl dX9_redeems_22 ?_
    refine q_aload_n 0 rfl dX9_redeems_24 ?_
    refine q_bind hyp (fun x1 e2 hyp => ?_)
    refine q_getR kF_X9_28 dX9_redeems_25 e2 ?_
    refine q_bind hyp (fun x3 e4 hyp => ?_)
    refine q_getI kF_X9_220 dX9_redeems_28 e4 ?_
    refine q_icmp_ge (tgt := 81) dX9_redeems_31 (by decide) (fun c5 => ?_) (fun c5 => ?_)
    · have hyp := q_pos c5 hyp
      refine q_iload_n 2 rfl dX9_redeems_81 ?_
      exact q_iretH rfl rfl dX9_redeems_82 hyp
    · have hyp := q_neg c5 hyp
      refine q_aload_n 0 rfl dX9_redeems_34 ?_
      refine q_bind hyp (fun x6 e7 hyp => ?_)
      refine q_getR kF_X9_28 dX9_redeems_35 e7 ?_
      refine q_iload 4 rfl dX9_redeems_38 ?_
      refine q_bind hyp (fun p8 e19 hyp => ?_)
      refine q_callV (as := [.int v4]) (st := []) kY_X5_causeBits kL_X9_258 (okX5_causeBits (l := l) e19) (by decide) rfl (obX5_causeBits e19) (Nat.le_of_ble_eq_true rfl) dX9_redeems_40 ?_
      refine q_to (ls' := [(0, .ref v0), (1, .int v1), (2, .int v2), (3, .int v3), (4, .int v4)]) (st' := [.int p8.1]) rfl rfl ?_
      refine q_iload_n 1 rfl dX9_redeems_43 ?_
      refine q_iand dX9_redeems_44 ?_
      refine q_bind hyp (fun p9 e18 hyp => ?_)
      refine q_callS (as := [.int (p8.1 &&& v1)]) (st := []) kY_J6_bitCount_0f7a4 kS_J6_bitCount_0f7a4 kL_X9_170 (okJ6_bitCount_0f7a4 (l := l) e18) (by decide) rfl (Nat.le_of_ble_eq_true rfl) dX9_redeems_45 ?_
      refine q_to (ls' := [(0, .ref v0), (1, .int v1), (2, .int v2), (3, .int v3), (4, .int v4)]) (st' := [.int p9.1]) rfl rfl ?_
      refine q_istore (ls' := [(5, .int p9.1), (0, .ref v0), (1, .int v1), (2, .int v2), (3, .int v3), (4, .int v4)]) (by decide) rfl dX9_redeems_48 ?_
      refine q_aload_n 1 rfl dX9_redeems_50 ?_
      refine q_bind hyp (fun x10 e11 hyp => ?_)
      refine q_getR kF_X9_38 dX9_redeems_51 e11 ?_
      refine q_bind hyp (fun x12 e13 hyp => ?_)
      refine q_getR kF_X9_132 dX9_redeems_54 e13 ?_
      refine q_iload 5 rfl dX9_redeems_57 ?_
      refine q_bind hyp (fun x14 e15 hyp => ?_)
      refine q_iald dX9_redeems_59 e15 ?_
      refine q_if_eq (tgt := 75) dX9_redeems_60 (by decide) (fun c16 => ?_) (fun c16 => ?_)
      · have hyp := q_pos c16 hyp
        refine q_iinc (ls' := [(4, .int (v4 + 1)), (5, .int p9.1), (0, .ref v0), (1, .int v1), (2, .int v2), (3, .int v3)]) 5 rfl rfl (by decide) rfl dX9_redeems_75 ?_
        refine q_goto (tgt := 22) dX9_redeems_78 (by decide) ?_
        exact q_sub [2, 3, 4, 5, 0] rfl (ih v0 v1 v2 v3 (v4 + 1) p9.2 hyp)
      · have hyp := q_neg c16 hyp
        refine q_iload 0 rfl dX9_redeems_63 ?_
        refine q_iload_n 4 rfl dX9_redeems_65 ?_
        refine q_icmp_le (tgt := 75) dX9_redeems_66 (by decide) (fun c17 => ?_) (fun c17 => ?_)
        · have hyp := q_pos c17 hyp
          refine q_iinc (ls' := [(4, .int (v4 + 1)), (5, .int p9.1), (0, .ref v0), (1, .int v1), (2, .int v2), (3, .int v3)]) 5 rfl rfl (by decide) rfl dX9_redeems_75 ?_
          refine q_goto (tgt := 22) dX9_redeems_78 (by decide) ?_
          exact q_sub [2, 3, 4, 5, 0] rfl (ih v0 v1 v2 v3 (v4 + 1) p9.2 hyp)
        · have hyp := q_neg c17 hyp
          refine q_iload 5 rfl dX9_redeems_69 ?_
          refine q_istore_n (ls' := [(2, .int v4), (5, .int p9.1), (0, .ref v0), (1, .int v1), (3, .int v3), (4, .int v4)]) (by decide) rfl dX9_redeems_71 ?_
          refine q_iload 1 rfl dX9_redeems_72 ?_
          refine q_istore_n (ls' := [(3, .int p9.1), (2, .int v4), (5, .int p9.1), (0, .ref v0), (1, .int v1), (4, .int v4)]) (by decide) rfl dX9_redeems_74 ?_
          refine q_iinc (ls' := [(4, .int (v4 + 1)), (3, .int p9.1), (2, .int v4), (5, .int p9.1), (0, .ref v0), (1, .int v1)]) 5 rfl rfl (by decide) rfl dX9_redeems_75 ?_
          refine q_goto (tgt := 22) dX9_redeems_78 (by decide) ?_
          exact q_sub [4, 5, 2, 1, 0] rfl (ih v0 v1 v4 p9.1 (v4 + 1) p9.2 hyp)
def fX9_redeems (n : Nat) (v0 : Nat) (h : qH) : Option (Int32 × qH) :=
  (isO h v0 9).bind fun _ =>
  (gR h v0 9 2).bind fun x1 =>
  (fX5_everyone x1 h).bind fun p3 =>
  (fX9_right n v0 p3.2).bind fun p4 =>
  fX9_redeems_b22 n n v0 (p3.1 &&& (p4.1 ^^^ ((-1)))) ((-1)) 0 0 p4.2
theorem obX9_redeems {n : Nat} {v0 : Nat} {h : qH} {p : Int32 × qH} (hyp : fX9_redeems n v0 h = some p) : ∃ fs, h.1 v0 = some (.inr (9, fs)) := by
  unfold fX9_redeems at hyp
  exact q_bind hyp (fun _ e _ => isO_some e)
set_option maxHeartbeats 4000000 in
set_option maxRecDepth 100000 in
theorem okX9_redeems {l : Launch} {n : Nat} {v0 : Nat} {h : qH} {p : Int32 × qH} (hyp : fX9_redeems n v0 h = some p) : q_M l 4 yX9_redeems cX9_redeems 6 (some .int) [.ref v0] h (some (.int p.1)) p.2 := by
  obtain ⟨r, h'⟩ := p
  unfold fX9_redeems at hyp
  refine q_bind hyp (fun _ _ hyp => ?_)
  refine q_M.of (by decide) (Nat.le_of_ble_eq_true rfl) ?_
  refine q_to (ls' := [(0, .ref v0)]) (st' := []) rfl rfl ?_
  refine q_aload_n 0 rfl dX9_redeems_0 ?_
  refine q_bind hyp (fun x1 e2 hyp => ?_)
  refine q_getR kF_X9_28 dX9_redeems_1 e2 ?_
  refine q_bind hyp (fun p3 e6 hyp => ?_)
  refine q_callV (as := []) (st := []) kY_X5_everyone kL_X9_201 (okX5_everyone (l := l) e6) (by decide) rfl (obX5_everyone e6) (Nat.le_of_ble_eq_true rfl) dX9_redeems_4 ?_
  refine q_to (ls' := [(0, .ref v0)]) (st' := [.int p3.1]) rfl rfl ?_
  refine q_aload_n 0 rfl dX9_redeems_7 ?_
  refine q_bind hyp (fun p4 e5 hyp => ?_)
  refine q_callV (as := []) (st := [.int p3.1]) kY_X9_right kL_X9_146 (okX9_right (l := l) e5) (by decide) rfl (obX9_right e5) (Nat.le_of_ble_eq_true rfl) dX9_redeems_8 ?_
  refine q_to (ls' := [(0, .ref v0)]) (st' := [.int p4.1, .int p3.1]) rfl rfl ?_
  refine q_iconst (x := (-1)) rfl dX9_redeems_11 ?_
  refine q_ixor dX9_redeems_12 ?_
  refine q_iand dX9_redeems_13 ?_
  refine q_istore_n (ls' := [(1, .int (p3.1 &&& (p4.1 ^^^ ((-1))))), (0, .ref v0)]) (by decide) rfl dX9_redeems_14 ?_
  refine q_iconst (x := (-1)) rfl dX9_redeems_15 ?_
  refine q_istore_n (ls' := [(2, .int ((-1))), (1, .int (p3.1 &&& (p4.1 ^^^ ((-1))))), (0, .ref v0)]) (by decide) rfl dX9_redeems_16 ?_
  refine q_iconst (x := 0) rfl dX9_redeems_17 ?_
  refine q_istore_n (ls' := [(3, .int 0), (2, .int ((-1))), (1, .int (p3.1 &&& (p4.1 ^^^ ((-1))))), (0, .ref v0)]) (by decide) rfl dX9_redeems_18 ?_
  refine q_iconst (x := 0) rfl dX9_redeems_19 ?_
  refine q_istore (ls' := [(4, .int 0), (3, .int 0), (2, .int ((-1))), (1, .int (p3.1 &&& (p4.1 ^^^ ((-1))))), (0, .ref v0)]) (by decide) rfl dX9_redeems_20 ?_
  exact q_sub [4, 3, 2, 1, 0] rfl (okX9_redeems_b22 _ v0 (p3.1 &&& (p4.1 ^^^ ((-1)))) ((-1)) 0 0 p4.2 hyp)
