/-! Functions over the abstract heap, and that the machine computes them (written by gen.py). -/
theorem dX9_meant_0 : decode cX9_meant 0 = .ok (.aload_n 0, 1) := by decide +kernel
theorem dX9_meant_1 : decode cX9_meant 1 = .ok (.getfield 38, 3) := by decide +kernel
theorem dX9_meant_4 : decode cX9_meant 4 = .ok (.aload_n 0, 1) := by decide +kernel
theorem dX9_meant_5 : decode cX9_meant 5 = .ok (.getfield 28, 3) := by decide +kernel
theorem dX9_meant_8 : decode cX9_meant 8 = .ok (.invokevirtual 195, 3) := by decide +kernel
theorem dX9_meant_11 : decode cX9_meant 11 = .ok (.ireturn, 1) := by decide +kernel
def fX9_meant (n : Nat) (v0 : Nat) (h : qH) : Option (Int32 × qH) :=
  (isO h v0 9).bind fun _ =>
  (gR h v0 9 4).bind fun x1 =>
  (gR h v0 9 2).bind fun x3 =>
  (fX8_meantBits n x1 x3 h).bind fun p5 =>
  some (p5.1, p5.2)
theorem obX9_meant {n : Nat} {v0 : Nat} {h : qH} {p : Int32 × qH} (hyp : fX9_meant n v0 h = some p) : ∃ fs, h.1 v0 = some (.inr (9, fs)) := by
  unfold fX9_meant at hyp
  exact q_bind hyp (fun _ e _ => isO_some e)
set_option maxHeartbeats 4000000 in
set_option maxRecDepth 100000 in
theorem okX9_meant {l : Launch} {n : Nat} {v0 : Nat} {h : qH} {p : Int32 × qH} (hyp : fX9_meant n v0 h = some p) : q_M l 2 yX9_meant cX9_meant 1 (some .int) [.ref v0] h (some (.int p.1)) p.2 := by
  obtain ⟨r, h'⟩ := p
  unfold fX9_meant at hyp
  refine q_bind hyp (fun _ _ hyp => ?_)
  refine q_M.of (by decide) (Nat.le_of_ble_eq_true rfl) ?_
  refine q_to (ls' := [(0, .ref v0)]) (st' := []) rfl rfl ?_
  refine q_aload_n 0 rfl dX9_meant_0 ?_
  refine q_bind hyp (fun x1 e2 hyp => ?_)
  refine q_getR kF_X9_38 dX9_meant_1 e2 ?_
  refine q_aload_n 0 rfl dX9_meant_4 ?_
  refine q_bind hyp (fun x3 e4 hyp => ?_)
  refine q_getR kF_X9_28 dX9_meant_5 e4 ?_
  refine q_bind hyp (fun p5 e6 hyp => ?_)
  refine q_callV (as := [.ref x3]) (st := []) kY_X8_meantBits kL_X9_195 (okX8_meantBits (l := l) e6) (by decide) rfl (obX8_meantBits e6) (Nat.le_of_ble_eq_true rfl) dX9_meant_8 ?_
  refine q_to (ls' := [(0, .ref v0)]) (st' := [.int p5.1]) rfl rfl ?_
  exact q_iretH rfl rfl dX9_meant_11 hyp
theorem dX9_coatsWanted_0 : decode cX9_coatsWanted 0 = .ok (.aload_n 0, 1) := by decide +kernel
theorem dX9_coatsWanted_1 : decode cX9_coatsWanted 1 = .ok (.getfield 38, 3) := by decide +kernel
theorem dX9_coatsWanted_4 : decode cX9_coatsWanted 4 = .ok (.getfield 132, 3) := by decide +kernel
theorem dX9_coatsWanted_7 : decode cX9_coatsWanted 7 = .ok (.iload_n 1, 1) := by decide +kernel
theorem dX9_coatsWanted_8 : decode cX9_coatsWanted 8 = .ok (.iaload, 1) := by decide +kernel
theorem dX9_coatsWanted_9 : decode cX9_coatsWanted 9 = .ok (.istore_n 2, 1) := by decide +kernel
theorem dX9_coatsWanted_10 : decode cX9_coatsWanted 10 = .ok (.iconst 0, 1) := by decide +kernel
theorem dX9_coatsWanted_11 : decode cX9_coatsWanted 11 = .ok (.istore_n 3, 1) := by decide +kernel
theorem dX9_coatsWanted_12 : decode cX9_coatsWanted 12 = .ok (.iload_n 3, 1) := by decide +kernel
theorem dX9_coatsWanted_13 : decode cX9_coatsWanted 13 = .ok (.bipush 40, 2) := by decide +kernel
theorem dX9_coatsWanted_15 : decode cX9_coatsWanted 15 = .ok (.if_icmp .gt 43, 3) := by decide +kernel
theorem dX9_coatsWanted_18 : decode cX9_coatsWanted 18 = .ok (.iload_n 2, 1) := by decide +kernel
theorem dX9_coatsWanted_19 : decode cX9_coatsWanted 19 = .ok (.ifCond .ne 5, 3) := by decide +kernel
theorem dX9_coatsWanted_22 : decode cX9_coatsWanted 22 = .ok (.iload_n 3, 1) := by decide +kernel
theorem dX9_coatsWanted_23 : decode cX9_coatsWanted 23 = .ok (.ireturn, 1) := by decide +kernel
theorem dX9_coatsWanted_24 : decode cX9_coatsWanted 24 = .ok (.aload_n 0, 1) := by decide +kernel
theorem dX9_coatsWanted_25 : decode cX9_coatsWanted 25 = .ok (.getfield 28, 3) := by decide +kernel
theorem dX9_coatsWanted_28 : decode cX9_coatsWanted 28 = .ok (.iload_n 1, 1) := by decide +kernel
theorem dX9_coatsWanted_29 : decode cX9_coatsWanted 29 = .ok (.iload_n 2, 1) := by decide +kernel
theorem dX9_coatsWanted_30 : decode cX9_coatsWanted 30 = .ok (.aload_n 0, 1) := by decide +kernel
theorem dX9_coatsWanted_31 : decode cX9_coatsWanted 31 = .ok (.getfield 38, 3) := by decide +kernel
theorem dX9_coatsWanted_34 : decode cX9_coatsWanted 34 = .ok (.getfield 135, 3) := by decide +kernel
theorem dX9_coatsWanted_37 : decode cX9_coatsWanted 37 = .ok (.iload_n 1, 1) := by decide +kernel
theorem dX9_coatsWanted_38 : decode cX9_coatsWanted 38 = .ok (.iaload, 1) := by decide +kernel
theorem dX9_coatsWanted_39 : decode cX9_coatsWanted 39 = .ok (.iload_n 3, 1) := by decide +kernel
theorem dX9_coatsWanted_40 : decode cX9_coatsWanted 40 = .ok (.iadd, 1) := by decide +kernel
theorem dX9_coatsWanted_41 : decode cX9_coatsWanted 41 = .ok (.aload_n 0, 1) := by decide +kernel
theorem dX9_coatsWanted_42 : decode cX9_coatsWanted 42 = .ok (.getfield 38, 3) := by decide +kernel
theorem dX9_coatsWanted_45 : decode cX9_coatsWanted 45 = .ok (.getfield 207, 3) := by decide +kernel
theorem dX9_coatsWanted_48 : decode cX9_coatsWanted 48 = .ok (.invokevirtual 210, 3) := by decide +kernel
theorem dX9_coatsWanted_51 : decode cX9_coatsWanted 51 = .ok (.istore_n 2, 1) := by decide +kernel
theorem dX9_coatsWanted_52 : decode cX9_coatsWanted 52 = .ok (.iinc 3 1, 3) := by decide +kernel
theorem dX9_coatsWanted_55 : decode cX9_coatsWanted 55 = .ok (.goto (-43), 3) := by decide +kernel
theorem dX9_coatsWanted_58 : decode cX9_coatsWanted 58 = .ok (.iconst (-1), 1) := by decide +kernel
theorem dX9_coatsWanted_59 : decode cX9_coatsWanted 59 = .ok (.ireturn, 1) := by decide +kernel
def fX9_coatsWanted_b12 (n : Nat) : Nat → Nat → Int32 → Int32 → Int32 → qH → Option (Int32 × qH)
  | 0, _, _, _, _, _ => none
  | w + 1, v0, v1, v2, v3, h =>
    if 40 < v3 then
    (some ((-1), h))
    else
    (if v2 = 0 then
    (some (v3, h))
    else
    ((gR h v0 9 2).bind fun x3 =>
    (gR h v0 9 4).bind fun x5 =>
    (gR h x5 8 1).bind fun x7 =>
    (aI .int h x7 v1).bind fun x9 =>
    (gR h v0 9 4).bind fun x11 =>
    (gI h x11 8 3).bind fun x13 =>
    (fX5_sourAfterCoat n x3 v1 v2 (x9 + v3) x13 h).bind fun p15 =>
    fX9_coatsWanted_b12 n w v0 v1 p15.1 (v3 + 1) p15.2))
set_option maxHeartbeats 4000000 in
set_option maxRecDepth 100000 in
theorem okX9_coatsWanted_b12 {l : Launch} {n : Nat} {r : Int32} {h' : qH} : ∀ (w : Nat) (v0 : Nat) (v1 : Int32) (v2 : Int32) (v3 : Int32) (h : qH), fX9_coatsWanted_b12 n w v0 v1 v2 v3 h = some (r, h') → q_W l 4 yX9_coatsWanted cX9_coatsWanted 4 (some .int) (some (.int r)) h' 12 [(0, .ref v0), (1, .int v1), (2, .int v2), (3, .int v3)] [] h := by
  intro w
  induction w with
  | zero => intro v0 v1 v2 v3 h hyp; cases hyp
  | succ w ih =>
    intro v0 v1 v2 v3 h hyp
    unfold fX9_coatsWanted_b12 at hyp
    refine q_iload_n 3 rfl dX9_coatsWanted_12 ?_
    refine q_bipush (x := 40) (by decide) dX9_coatsWanted_13 ?_
    refine q_icmp_gt (tgt := 58) dX9_coatsWanted_15 (by decide) (fun c1 => ?_) (fun c1 => ?_)
    · have hyp := q_pos c1 hyp
      refine q_iconst (x := (-1)) rfl dX9_coatsWanted_58 ?_
      exact q_iretH rfl rfl dX9_coatsWanted_59 hyp
    · have hyp := q_neg c1 hyp
      refine q_iload_n 2 rfl dX9_coatsWanted_18 ?_
      refine q_if_ne (tgt := 24) dX9_coatsWanted_19 (by decide) (fun c2 => ?_) (fun c2 => ?_)
      · have hyp := q_neg c2 hyp
        refine q_aload_n 0 rfl dX9_coatsWanted_24 ?_
        refine q_bind hyp (fun x3 e4 hyp => ?_)
        refine q_getR kF_X9_28 dX9_coatsWanted_25 e4 ?_
        refine q_iload_n 1 rfl dX9_coatsWanted_28 ?_
        refine q_iload_n 2 rfl dX9_coatsWanted_29 ?_
        refine q_aload_n 0 rfl dX9_coatsWanted_30 ?_
        refine q_bind hyp (fun x5 e6 hyp => ?_)
        refine q_getR kF_X9_38 dX9_coatsWanted_31 e6 ?_
        refine q_bind hyp (fun x7 e8 hyp => ?_)
        refine q_getR kF_X9_135 dX9_coatsWanted_34 e8 ?_
        refine q_iload_n 1 rfl dX9_coatsWanted_37 ?_
        refine q_bind hyp (fun x9 e10 hyp => ?_)
        refine q_iald dX9_coatsWanted_38 e10 ?_
        refine q_iload_n 3 rfl dX9_coatsWanted_39 ?_
        refine q_iadd dX9_coatsWanted_40 ?_
        refine q_aload_n 0 rfl dX9_coatsWanted_41 ?_
        refine q_bind hyp (fun x11 e12 hyp => ?_)
        refine q_getR kF_X9_38 dX9_coatsWanted_42 e12 ?_
        refine q_bind hyp (fun x13 e14 hyp => ?_)
        refine q_getI kF_X9_207 dX9_coatsWanted_45 e14 ?_
        refine q_bind hyp (fun p15 e16 hyp => ?_)
        refine q_callV (as := [.int v1, .int v2, .int (x9 + v3), .int x13]) (st := []) kY_X5_sourAfterCoat kL_X9_210 (okX5_sourAfterCoat (l := l) e16) (by decide) rfl (obX5_sourAfterCoat e16) (Nat.le_of_ble_eq_true rfl) dX9_coatsWanted_48 ?_
        refine q_to (ls' := [(0, .ref v0), (1, .int v1), (2, .int v2), (3, .int v3)]) (st' := [.int p15.1]) rfl rfl ?_
        refine q_istore_n (ls' := [(2, .int p15.1), (0, .ref v0), (1, .int v1), (3, .int v3)]) (by decide) rfl dX9_coatsWanted_51 ?_
        refine q_iinc (ls' := [(3, .int (v3 + 1)), (2, .int p15.1), (0, .ref v0), (1, .int v1)]) 3 rfl rfl (by decide) rfl dX9_coatsWanted_52 ?_
        refine q_goto (tgt := 12) dX9_coatsWanted_55 (by decide) ?_
        exact q_sub [2, 3, 1, 0] rfl (ih v0 v1 p15.1 (v3 + 1) p15.2 hyp)
      · have hyp := q_pos c2 hyp
        refine q_iload_n 3 rfl dX9_coatsWanted_22 ?_
        exact q_iretH rfl rfl dX9_coatsWanted_23 hyp
def fX9_coatsWanted (n : Nat) (v0 : Nat) (v1 : Int32) (h : qH) : Option (Int32 × qH) :=
  (isO h v0 9).bind fun _ =>
  (gR h v0 9 4).bind fun x1 =>
  (gR h x1 8 0).bind fun x3 =>
  (aI .int h x3 v1).bind fun x5 =>
  fX9_coatsWanted_b12 n n v0 v1 x5 0 h
theorem obX9_coatsWanted {n : Nat} {v0 : Nat} {v1 : Int32} {h : qH} {p : Int32 × qH} (hyp : fX9_coatsWanted n v0 v1 h = some p) : ∃ fs, h.1 v0 = some (.inr (9, fs)) := by
  unfold fX9_coatsWanted at hyp
  exact q_bind hyp (fun _ e _ => isO_some e)
set_option maxHeartbeats 4000000 in
set_option maxRecDepth 100000 in
theorem okX9_coatsWanted {l : Launch} {n : Nat} {v0 : Nat} {v1 : Int32} {h : qH} {p : Int32 × qH} (hyp : fX9_coatsWanted n v0 v1 h = some p) : q_M l 4 yX9_coatsWanted cX9_coatsWanted 4 (some .int) [.ref v0, .int v1] h (some (.int p.1)) p.2 := by
  obtain ⟨r, h'⟩ := p
  unfold fX9_coatsWanted at hyp
  refine q_bind hyp (fun _ _ hyp => ?_)
  refine q_M.of (by decide) (Nat.le_of_ble_eq_true rfl) ?_
  refine q_to (ls' := [(0, .ref v0), (1, .int v1)]) (st' := []) rfl rfl ?_
  refine q_aload_n 0 rfl dX9_coatsWanted_0 ?_
  refine q_bind hyp (fun x1 e2 hyp => ?_)
  refine q_getR kF_X9_38 dX9_coatsWanted_1 e2 ?_
  refine q_bind hyp (fun x3 e4 hyp => ?_)
  refine q_getR kF_X9_132 dX9_coatsWanted_4 e4 ?_
  refine q_iload_n 1 rfl dX9_coatsWanted_7 ?_
  refine q_bind hyp (fun x5 e6 hyp => ?_)
  refine q_iald dX9_coatsWanted_8 e6 ?_
  refine q_istore_n (ls' := [(2, .int x5), (0, .ref v0), (1, .int v1)]) (by decide) rfl dX9_coatsWanted_9 ?_
  refine q_iconst (x := 0) rfl dX9_coatsWanted_10 ?_
  refine q_istore_n (ls' := [(3, .int 0), (2, .int x5), (0, .ref v0), (1, .int v1)]) (by decide) rfl dX9_coatsWanted_11 ?_
  exact q_sub [2, 3, 1, 0] rfl (okX9_coatsWanted_b12 _ v0 v1 x5 0 h hyp)
theorem dX9_mustardFor_0 : decode cX9_mustardFor 0 = .ok (.iload_n 2, 1) := by decide +kernel
theorem dX9_mustardFor_1 : decode cX9_mustardFor 1 = .ok (.iconst (-1), 1) := by decide +kernel
theorem dX9_mustardFor_2 : decode cX9_mustardFor 2 = .ok (.if_icmp .ne 7, 3) := by decide +kernel
theorem dX9_mustardFor_5 : decode cX9_mustardFor 5 = .ok (.iconst (-1), 1) := by decide +kernel
theorem dX9_mustardFor_6 : decode cX9_mustardFor 6 = .ok (.goto 13, 3) := by decide +kernel
theorem dX9_mustardFor_9 : decode cX9_mustardFor 9 = .ok (.iload_n 2, 1) := by decide +kernel
theorem dX9_mustardFor_10 : decode cX9_mustardFor 10 = .ok (.aload_n 0, 1) := by decide +kernel
theorem dX9_mustardFor_11 : decode cX9_mustardFor 11 = .ok (.getfield 28, 3) := by decide +kernel
theorem dX9_mustardFor_14 : decode cX9_mustardFor 14 = .ok (.iload_n 1, 1) := by decide +kernel
theorem dX9_mustardFor_15 : decode cX9_mustardFor 15 = .ok (.invokevirtual 217, 3) := by decide +kernel
theorem dX9_mustardFor_18 : decode cX9_mustardFor 18 = .ok (.imul, 1) := by decide +kernel
theorem dX9_mustardFor_19 : decode cX9_mustardFor 19 = .ok (.ireturn, 1) := by decide +kernel
def fX9_mustardFor (v0 : Nat) (v1 : Int32) (v2 : Int32) (h : qH) : Option (Int32 × qH) :=
  (isO h v0 9).bind fun _ =>
  if v2 = ((-1)) then
  (some ((-1), h))
  else
  ((gR h v0 9 2).bind fun x2 =>
  (fX5_price x2 v1 h).bind fun p4 =>
  some (v2 * p4.1, p4.2))
theorem obX9_mustardFor {v0 : Nat} {v1 : Int32} {v2 : Int32} {h : qH} {p : Int32 × qH} (hyp : fX9_mustardFor v0 v1 v2 h = some p) : ∃ fs, h.1 v0 = some (.inr (9, fs)) := by
  unfold fX9_mustardFor at hyp
  exact q_bind hyp (fun _ e _ => isO_some e)
set_option maxHeartbeats 4000000 in
set_option maxRecDepth 100000 in
theorem okX9_mustardFor {l : Launch} {v0 : Nat} {v1 : Int32} {v2 : Int32} {h : qH} {p : Int32 × qH} (hyp : fX9_mustardFor v0 v1 v2 h = some p) : q_M l 2 yX9_mustardFor cX9_mustardFor 3 (some .int) [.ref v0, .int v1, .int v2] h (some (.int p.1)) p.2 := by
  obtain ⟨r, h'⟩ := p
  unfold fX9_mustardFor at hyp
  refine q_bind hyp (fun _ _ hyp => ?_)
  refine q_M.of (by decide) (Nat.le_of_ble_eq_true rfl) ?_
  refine q_to (ls' := [(0, .ref v0), (1, .int v1), (2, .int v2)]) (st' := []) rfl rfl ?_
  refine q_iload_n 2 rfl dX9_mustardFor_0 ?_
  refine q_iconst (x := (-1)) rfl dX9_mustardFor_1 ?_
  refine q_icmp_ne (tgt := 9) dX9_mustardFor_2 (by decide) (fun c1 => ?_) (fun c1 => ?_)
  · have hyp := q_neg c1 hyp
    refine q_iload_n 2 rfl dX9_mustardFor_9 ?_
    refine q_aload_n 0 rfl dX9_mustardFor_10 ?_
    refine q_bind hyp (fun x2 e3 hyp => ?_)
    refine q_getR kF_X9_28 dX9_mustardFor_11 e3 ?_
    refine q_iload_n 1 rfl dX9_mustardFor_14 ?_
    refine q_bind hyp (fun p4 e5 hyp => ?_)
    refine q_callV (as := [.int v1]) (st := [.int v2]) kY_X5_price kL_X9_217 (okX5_price (l := l) e5) (by decide) rfl (obX5_price e5) (Nat.le_of_ble_eq_true rfl) dX9_mustardFor_15 ?_
    refine q_to (ls' := [(0, .ref v0), (1, .int v1), (2, .int v2)]) (st' := [.int p4.1, .int v2]) rfl rfl ?_
    refine q_imul dX9_mustardFor_18 ?_
    exact q_iretH rfl rfl dX9_mustardFor_19 hyp
  · have hyp := q_pos c1 hyp
    refine q_iconst (x := (-1)) rfl dX9_mustardFor_5 ?_
    refine q_goto (tgt := 19) dX9_mustardFor_6 (by decide) ?_
    exact q_iretH rfl rfl dX9_mustardFor_19 hyp
theorem dX9_reckonCosts_0 : decode cX9_reckonCosts 0 = .ok (.iconst 0, 1) := by decide +kernel
theorem dX9_reckonCosts_1 : decode cX9_reckonCosts 1 = .ok (.istore_n 1, 1) := by decide +kernel
theorem dX9_reckonCosts_2 : decode cX9_reckonCosts 2 = .ok (.iload_n 1, 1) := by decide +kernel
theorem dX9_reckonCosts_3 : decode cX9_reckonCosts 3 = .ok (.aload_n 0, 1) := by decide +kernel
theorem dX9_reckonCosts_4 : decode cX9_reckonCosts 4 = .ok (.getfield 28, 3) := by decide +kernel
theorem dX9_reckonCosts_7 : decode cX9_reckonCosts 7 = .ok (.getfield 220, 3) := by decide +kernel
theorem dX9_reckonCosts_10 : decode cX9_reckonCosts 10 = .ok (.if_icmp .ge 25, 3) := by decide +kernel
theorem dX9_reckonCosts_13 : decode cX9_reckonCosts 13 = .ok (.aload_n 0, 1) := by decide +kernel
theorem dX9_reckonCosts_14 : decode cX9_reckonCosts 14 = .ok (.getfield 75, 3) := by decide +kernel
theorem dX9_reckonCosts_17 : decode cX9_reckonCosts 17 = .ok (.iload_n 1, 1) := by decide +kernel
theorem dX9_reckonCosts_18 : decode cX9_reckonCosts 18 = .ok (.aload_n 0, 1) := by decide +kernel
theorem dX9_reckonCosts_19 : decode cX9_reckonCosts 19 = .ok (.iload_n 1, 1) := by decide +kernel
theorem dX9_reckonCosts_20 : decode cX9_reckonCosts 20 = .ok (.aload_n 0, 1) := by decide +kernel
theorem dX9_reckonCosts_21 : decode cX9_reckonCosts 21 = .ok (.iload_n 1, 1) := by decide +kernel
theorem dX9_reckonCosts_22 : decode cX9_reckonCosts 22 = .ok (.invokevirtual 204, 3) := by decide +kernel
theorem dX9_reckonCosts_25 : decode cX9_reckonCosts 25 = .ok (.invokevirtual 214, 3) := by decide +kernel
theorem dX9_reckonCosts_28 : decode cX9_reckonCosts 28 = .ok (.iastore, 1) := by decide +kernel
theorem dX9_reckonCosts_29 : decode cX9_reckonCosts 29 = .ok (.iinc 1 1, 3) := by decide +kernel
theorem dX9_reckonCosts_32 : decode cX9_reckonCosts 32 = .ok (.goto (-30), 3) := by decide +kernel
theorem dX9_reckonCosts_35 : decode cX9_reckonCosts 35 = .ok (.return_, 1) := by decide +kernel
def fX9_reckonCosts_b2 (n : Nat) : Nat → Nat → Int32 → qH → Option (qH)
  | 0, _, _, _ => none
  | w + 1, v0, v1, h =>
    (gR h v0 9 2).bind fun x1 =>
    (gI h x1 5 6).bind fun x3 =>
    if x3 ≤ v1 then
    (some h)
    else
    ((gR h v0 9 11).bind fun x6 =>
    (fX9_coatsWanted n v0 v1 h).bind fun p8 =>
    (fX9_mustardFor v0 v1 p8.1 p8.2).bind fun p9 =>
    (sI .int p9.2 x6 v1 p9.1).bind fun h10 =>
    fX9_reckonCosts_b2 n w v0 (v1 + 1) h10)
set_option maxHeartbeats 4000000 in
set_option maxRecDepth 100000 in
theorem okX9_reckonCosts_b2 {l : Launch} {n : Nat} {h' : qH} : ∀ (w : Nat) (v0 : Nat) (v1 : Int32) (h : qH), fX9_reckonCosts_b2 n w v0 v1 h = some h' → q_W l 5 yX9_reckonCosts cX9_reckonCosts 2 none none h' 2 [(0, .ref v0), (1, .int v1)] [] h := by
  intro w
  induction w with
  | zero => intro v0 v1 h hyp; cases hyp
  | succ w ih =>
    intro v0 v1 h hyp
    unfold fX9_reckonCosts_b2 at hyp
    refine q_iload_n 1 rfl dX9_reckonCosts_2 ?_
    refine q_aload_n 0 rfl dX9_reckonCosts_3 ?_
    refine q_bind hyp (fun x1 e2 hyp => ?_)
    refine q_getR kF_X9_28 dX9_reckonCosts_4 e2 ?_
    refine q_bind hyp (fun x3 e4 hyp => ?_)
    refine q_getI kF_X9_220 dX9_reckonCosts_7 e4 ?_
    refine q_icmp_ge (tgt := 35) dX9_reckonCosts_10 (by decide) (fun c5 => ?_) (fun c5 => ?_)
    · have hyp := q_pos c5 hyp
      exact q_vretH rfl dX9_reckonCosts_35 hyp
    · have hyp := q_neg c5 hyp
      refine q_aload_n 0 rfl dX9_reckonCosts_13 ?_
      refine q_bind hyp (fun x6 e7 hyp => ?_)
      refine q_getR kF_X9_75 dX9_reckonCosts_14 e7 ?_
      refine q_iload_n 1 rfl dX9_reckonCosts_17 ?_
      refine q_aload_n 0 rfl dX9_reckonCosts_18 ?_
      refine q_iload_n 1 rfl dX9_reckonCosts_19 ?_
      refine q_aload_n 0 rfl dX9_reckonCosts_20 ?_
      refine q_iload_n 1 rfl dX9_reckonCosts_21 ?_
      refine q_bind hyp (fun p8 e13 hyp => ?_)
      refine q_callV (as := [.int v1]) (st := [.int v1, .ref v0, .int v1, .ref x6]) kY_X9_coatsWanted kL_X9_204 (okX9_coatsWanted (l := l) e13) (by decide) rfl (obX9_coatsWanted e13) (Nat.le_of_ble_eq_true rfl) dX9_reckonCosts_22 ?_
      refine q_to (ls' := [(0, .ref v0), (1, .int v1)]) (st' := [.int p8.1, .int v1, .ref v0, .int v1, .ref x6]) rfl rfl ?_
      refine q_bind hyp (fun p9 e12 hyp => ?_)
      refine q_callV (as := [.int v1, .int p8.1]) (st := [.int v1, .ref x6]) kY_X9_mustardFor kL_X9_214 (okX9_mustardFor (l := l) e12) (by decide) rfl (obX9_mustardFor e12) (Nat.le_of_ble_eq_true rfl) dX9_reckonCosts_25 ?_
      refine q_to (ls' := [(0, .ref v0), (1, .int v1)]) (st' := [.int p9.1, .int v1, .ref x6]) rfl rfl ?_
      refine q_bind hyp (fun h10 e11 hyp => ?_)
      refine q_iast dX9_reckonCosts_28 e11 ?_
      refine q_iinc (ls' := [(1, .int (v1 + 1)), (0, .ref v0)]) 1 rfl rfl (by decide) rfl dX9_reckonCosts_29 ?_
      refine q_goto (tgt := 2) dX9_reckonCosts_32 (by decide) ?_
      exact q_sub [1, 0] rfl (ih v0 (v1 + 1) h10 hyp)
def fX9_reckonCosts (n : Nat) (v0 : Nat) (h : qH) : Option (qH) :=
  (isO h v0 9).bind fun _ =>
  fX9_reckonCosts_b2 n n v0 0 h
theorem obX9_reckonCosts {n : Nat} {v0 : Nat} {h : qH} {p : qH} (hyp : fX9_reckonCosts n v0 h = some p) : ∃ fs, h.1 v0 = some (.inr (9, fs)) := by
  unfold fX9_reckonCosts at hyp
  exact q_bind hyp (fun _ e _ => isO_some e)
set_option maxHeartbeats 4000000 in
set_option maxRecDepth 100000 in
theorem okX9_reckonCosts {l : Launch} {n : Nat} {v0 : Nat} {h : qH} {h' : qH} (hyp : fX9_reckonCosts n v0 h = some h') : q_M l 5 yX9_reckonCosts cX9_reckonCosts 2 none [.ref v0] h none h' := by
  unfold fX9_reckonCosts at hyp
  refine q_bind hyp (fun _ _ hyp => ?_)
  refine q_M.of (by decide) (Nat.le_of_ble_eq_true rfl) ?_
  refine q_to (ls' := [(0, .ref v0)]) (st' := []) rfl rfl ?_
  refine q_iconst (x := 0) rfl dX9_reckonCosts_0 ?_
  refine q_istore_n (ls' := [(1, .int 0), (0, .ref v0)]) (by decide) rfl dX9_reckonCosts_1 ?_
  exact q_sub [1, 0] rfl (okX9_reckonCosts_b2 _ v0 0 h hyp)
theorem dX9_all_0 : decode cX9_all 0 = .ok (.aload_n 0, 1) := by decide +kernel
theorem dX9_all_1 : decode cX9_all 1 = .ok (.invokevirtual 223, 3) := by decide +kernel
theorem dX9_all_4 : decode cX9_all 4 = .ok (.aload_n 0, 1) := by decide +kernel
theorem dX9_all_5 : decode cX9_all 5 = .ok (.invokevirtual 138, 3) := by decide +kernel
theorem dX9_all_8 : decode cX9_all 8 = .ok (.istore_n 1, 1) := by decide +kernel
theorem dX9_all_9 : decode cX9_all 9 = .ok (.iconst (-1), 1) := by decide +kernel
theorem dX9_all_10 : decode cX9_all 10 = .ok (.istore_n 2, 1) := by decide +kernel
theorem dX9_all_11 : decode cX9_all 11 = .ok (.iconst 0, 1) := by decide +kernel
theorem dX9_all_12 : decode cX9_all 12 = .ok (.istore_n 3, 1) := by decide +kernel
theorem dX9_all_13 : decode cX9_all 13 = .ok (.iload_n 3, 1) := by decide +kernel
theorem dX9_all_14 : decode cX9_all 14 = .ok (.aload_n 0, 1) := by decide +kernel
theorem dX9_all_15 : decode cX9_all 15 = .ok (.getfield 28, 3) := by decide +kernel
theorem dX9_all_18 : decode cX9_all 18 = .ok (.invokevirtual 201, 3) := by decide +kernel
theorem dX9_all_21 : decode cX9_all 21 = .ok (.if_icmp .gt 56, 3) := by decide +kernel
theorem dX9_all_24 : decode cX9_all 24 = .ok (.aload_n 0, 1) := by decide +kernel
theorem dX9_all_25 : decode cX9_all 25 = .ok (.iload_n 3, 1) := by decide +kernel
theorem dX9_all_26 : decode cX9_all 26 = .ok (.invokevirtual 235, 3) := by decide +kernel
theorem dX9_all_29 : decode cX9_all 29 = .ok (.istore 4, 2) := by decide +kernel
theorem dX9_all_31 : decode cX9_all 31 = .ok (.iload 4, 2) := by decide +kernel
theorem dX9_all_33 : decode cX9_all 33 = .ok (.iconst (-1), 1) := by decide +kernel
theorem dX9_all_34 : decode cX9_all 34 = .ok (.if_icmp .eq 37, 3) := by decide +kernel
theorem dX9_all_37 : decode cX9_all 37 = .ok (.iload_n 2, 1) := by decide +kernel
theorem dX9_all_38 : decode cX9_all 38 = .ok (.iconst (-1), 1) := by decide +kernel
theorem dX9_all_39 : decode cX9_all 39 = .ok (.if_icmp .eq 9, 3) := by decide +kernel
theorem dX9_all_42 : decode cX9_all 42 = .ok (.iload 4, 2) := by decide +kernel
theorem dX9_all_44 : decode cX9_all 44 = .ok (.iload_n 2, 1) := by decide +kernel
theorem dX9_all_45 : decode cX9_all 45 = .ok (.if_icmp .ge 26, 3) := by decide +kernel
theorem dX9_all_48 : decode cX9_all 48 = .ok (.aload_n 0, 1) := by decide +kernel
theorem dX9_all_49 : decode cX9_all 49 = .ok (.getfield 28, 3) := by decide +kernel
theorem dX9_all_52 : decode cX9_all 52 = .ok (.iload_n 3, 1) := by decide +kernel
theorem dX9_all_53 : decode cX9_all 53 = .ok (.iload_n 1, 1) := by decide +kernel
theorem dX9_all_54 : decode cX9_all 54 = .ok (.ior, 1) := by decide +kernel
theorem dX9_all_55 : decode cX9_all 55 = .ok (.invokevirtual 198, 3) := by decide +kernel
theorem dX9_all_58 : decode cX9_all 58 = .ok (.aload_n 0, 1) := by decide +kernel
theorem dX9_all_59 : decode cX9_all 59 = .ok (.getfield 28, 3) := by decide +kernel
theorem dX9_all_62 : decode cX9_all 62 = .ok (.invokevirtual 201, 3) := by decide +kernel
theorem dX9_all_65 : decode cX9_all 65 = .ok (.if_icmp .ne 6, 3) := by decide +kernel
theorem dX9_all_68 : decode cX9_all 68 = .ok (.iload 4, 2) := by decide +kernel
theorem dX9_all_70 : decode cX9_all 70 = .ok (.istore_n 2, 1) := by decide +kernel
theorem dX9_all_71 : decode cX9_all 71 = .ok (.iinc 3 1, 3) := by decide +kernel
theorem dX9_all_74 : decode cX9_all 74 = .ok (.goto (-61), 3) := by decide +kernel
theorem dX9_all_77 : decode cX9_all 77 = .ok (.iload_n 2, 1) := by decide +kernel
theorem dX9_all_78 : decode cX9_all 78 = .ok (.ireturn, 1) := by decide +kernel
def fX9_all_b48 (n : Nat) (K13 : Nat → Int32 → Int32 → Int32 → qH → Option (Int32 × qH)) (v0 : Nat) (v1 : Int32) (v2 : Int32) (v3 : Int32) (v4 : Int32) (h : qH) : Option (Int32 × qH) :=
  (gR h v0 9 2).bind fun x1 =>
  (fX5_rightBy n x1 (v3 ||| v1) h).bind fun p3 =>
  (gR p3.2 v0 9 2).bind fun x4 =>
  (fX5_everyone x4 p3.2).bind fun p6 =>
  if p3.1 = p6.1 then
  (K13 v0 v1 v4 (v3 + 1) p6.2)
  else
  (K13 v0 v1 v2 (v3 + 1) p6.2)
set_option maxHeartbeats 4000000 in
set_option maxRecDepth 100000 in
theorem okX9_all_b48 {l : Launch} {n : Nat} {K13 : Nat → Int32 → Int32 → Int32 → qH → Option (Int32 × qH)} {v0 : Nat} {v1 : Int32} {v2 : Int32} {v3 : Int32} {v4 : Int32} {h : qH} {r : Int32} {h' : qH} (hK13 : ∀ (v0 : Nat) (v1 : Int32) (v2 : Int32) (v3 : Int32) (h : qH), K13 v0 v1 v2 v3 h = some (r, h') → q_W l 6 yX9_all cX9_all 5 (some .int) (some (.int r)) h' 13 [(0, .ref v0), (1, .int v1), (2, .int v2), (3, .int v3)] [] h) (hyp : fX9_all_b48 n K13 v0 v1 v2 v3 v4 h = some (r, h')) : q_W l 6 yX9_all cX9_all 5 (some .int) (some (.int r)) h' 48 [(0, .ref v0), (1, .int v1), (2, .int v2), (3, .int v3), (4, .int v4)] [] h := by
  unfold fX9_all_b48 at hyp
  refine q_aload_n 0 rfl dX9_all_48 ?_
  refine q_bind hyp (fun x1 e2 hyp => ?_)
  refine q_getR kF_X9_28 dX9_all_49 e2 ?_
  refine q_iload_n 3 rfl dX9_all_52 ?_
  refine q_iload_n 1 rfl dX9_all_53 ?_
  refine q_ior dX9_all_54 ?_
  refine q_bind hyp (fun p3 e9 hyp => ?_)
  refine q_callV (as := [.int (v3 ||| v1)]) (st := []) kY_X5_rightBy kL_X9_198 (okX5_rightBy (l := l) e9) (by decide) rfl (obX5_rightBy e9) (Nat.le_of_ble_eq_true rfl) dX9_all_55 ?_
  refine q_to (ls' := [(0, .ref v0), (1, .int v1), (2, .int v2), (3, .int v3), (4, .int v4)]) (st' := [.int p3.1]) rfl rfl ?_
  refine q_aload_n 0 rfl dX9_all_58 ?_
  refine q_bind hyp (fun x4 e5 hyp => ?_)
  refine q_getR kF_X9_28 dX9_all_59 e5 ?_
  refine q_bind hyp (fun p6 e8 hyp => ?_)
  refine q_callV (as := []) (st := [.int p3.1]) kY_X5_everyone kL_X9_201 (okX5_everyone (l := l) e8) (by decide) rfl (obX5_everyone e8) (Nat.le_of_ble_eq_true rfl) dX9_all_62 ?_
  refine q_to (ls' := [(0, .ref v0), (1, .int v1), (2, .int v2), (3, .int v3), (4, .int v4)]) (st' := [.int p6.1, .int p3.1]) rfl rfl ?_
  refine q_icmp_ne (tgt := 71) dX9_all_65 (by decide) (fun c7 => ?_) (fun c7 => ?_)
  · have hyp := q_neg c7 hyp
    refine q_iinc (ls' := [(3, .int (v3 + 1)), (0, .ref v0), (1, .int v1), (2, .int v2), (4, .int v4)]) 3 rfl rfl (by decide) rfl dX9_all_71 ?_
    refine q_goto (tgt := 13) dX9_all_74 (by decide) ?_
    exact q_sub [1, 2, 3, 0] rfl (hK13 v0 v1 v2 (v3 + 1) p6.2 hyp)
  · have hyp := q_pos c7 hyp
    refine q_iload 4 rfl dX9_all_68 ?_
    refine q_istore_n (ls' := [(2, .int v4), (0, .ref v0), (1, .int v1), (3, .int v3), (4, .int v4)]) (by decide) rfl dX9_all_70 ?_
    refine q_iinc (ls' := [(3, .int (v3 + 1)), (2, .int v4), (0, .ref v0), (1, .int v1), (4, .int v4)]) 3 rfl rfl (by decide) rfl dX9_all_71 ?_
    refine q_goto (tgt := 13) dX9_all_74 (by decide) ?_
    exact q_sub [2, 3, 1, 0] rfl (hK13 v0 v1 v4 (v3 + 1) p6.2 hyp)
def fX9_all_b13 (n : Nat) : Nat → Nat → Int32 → Int32 → Int32 → qH → Option (Int32 × qH)
  | 0, _, _, _, _, _ => none
  | w + 1, v0, v1, v2, v3, h =>
    (gR h v0 9 2).bind fun x1 =>
    (fX5_everyone x1 h).bind fun p3 =>
    if p3.1 < v3 then
    (some (v2, p3.2))
    else
    ((fX9_costOfSet n v0 v3 p3.2).bind fun p5 =>
    if p5.1 = ((-1)) then
    (fX9_all_b13 n w v0 v1 v2 (v3 + 1) p5.2)
    else
    (if v2 = ((-1)) then
    (fX9_all_b48 n (fX9_all_b13 n w) v0 v1 v2 v3 p5.1 p5.2)
    else
    (if v2 ≤ p5.1 then
    (fX9_all_b13 n w v0 v1 v2 (v3 + 1) p5.2)
    else
    (fX9_all_b48 n (fX9_all_b13 n w) v0 v1 v2 v3 p5.1 p5.2))))
set_option maxHeartbeats 4000000 in
set_option maxRecDepth 100000 in
theorem okX9_all_b13 {l : Launch} {n : Nat} {r : Int32} {h' : qH} : ∀ (w : Nat) (v0 : Nat) (v1 : Int32) (v2 : Int32) (v3 : Int32) (h : qH), fX9_all_b13 n w v0 v1 v2 v3 h = some (r, h') → q_W l 6 yX9_all cX9_all 5 (some .int) (some (.int r)) h' 13 [(0, .ref v0), (1, .int v1), (2, .int v2), (3, .int v3)] [] h := by
  intro w
  induction w with
  | zero => intro v0 v1 v2 v3 h hyp; cases hyp
  | succ w ih =>
    intro v0 v1 v2 v3 h hyp
    unfold fX9_all_b13 at hyp
    refine q_iload_n 3 rfl dX9_all_13 ?_
    refine q_aload_n 0 rfl dX9_all_14 ?_
    refine q_bind hyp (fun x1 e2 hyp => ?_)
    refine q_getR kF_X9_28 dX9_all_15 e2 ?_
    refine q_bind hyp (fun p3 e10 hyp => ?_)
    refine q_callV (as := []) (st := [.int v3]) kY_X5_everyone kL_X9_201 (okX5_everyone (l := l) e10) (by decide) rfl (obX5_everyone e10) (Nat.le_of_ble_eq_true rfl) dX9_all_18 ?_
    refine q_to (ls' := [(0, .ref v0), (1, .int v1), (2, .int v2), (3, .int v3)]) (st' := [.int p3.1, .int v3]) rfl rfl ?_
    refine q_icmp_gt (tgt := 77) dX9_all_21 (by decide) (fun c4 => ?_) (fun c4 => ?_)
    · have hyp := q_pos c4 hyp
      refine q_iload_n 2 rfl dX9_all_77 ?_
      exact q_iretH rfl rfl dX9_all_78 hyp
    · have hyp := q_neg c4 hyp
      refine q_aload_n 0 rfl dX9_all_24 ?_
      refine q_iload_n 3 rfl dX9_all_25 ?_
      refine q_bind hyp (fun p5 e9 hyp => ?_)
      refine q_callV (as := [.int v3]) (st := []) kY_X9_costOfSet kL_X9_235 (okX9_costOfSet (l := l) e9) (by decide) rfl (obX9_costOfSet e9) (Nat.le_of_ble_eq_true rfl) dX9_all_26 ?_
      refine q_to (ls' := [(0, .ref v0), (1, .int v1), (2, .int v2), (3, .int v3)]) (st' := [.int p5.1]) rfl rfl ?_
      refine q_istore (ls' := [(4, .int p5.1), (0, .ref v0), (1, .int v1), (2, .int v2), (3, .int v3)]) (by decide) rfl dX9_all_29 ?_
      refine q_iload 0 rfl dX9_all_31 ?_
      refine q_iconst (x := (-1)) rfl dX9_all_33 ?_
      refine q_icmp_eq (tgt := 71) dX9_all_34 (by decide) (fun c6 => ?_) (fun c6 => ?_)
      · have hyp := q_pos c6 hyp
        refine q_iinc (ls' := [(3, .int (v3 + 1)), (4, .int p5.1), (0, .ref v0), (1, .int v1), (2, .int v2)]) 4 rfl rfl (by decide) rfl dX9_all_71 ?_
        refine q_goto (tgt := 13) dX9_all_74 (by decide) ?_
        exact q_sub [2, 3, 4, 0] rfl (ih v0 v1 v2 (v3 + 1) p5.2 hyp)
      · have hyp := q_neg c6 hyp
        refine q_iload_n 3 rfl dX9_all_37 ?_
        refine q_iconst (x := (-1)) rfl dX9_all_38 ?_
        refine q_icmp_eq (tgt := 48) dX9_all_39 (by decide) (fun c7 => ?_) (fun c7 => ?_)
        · have hyp := q_pos c7 hyp
          exact q_sub [1, 2, 3, 4, 0] rfl (okX9_all_b48 ih hyp)
        · have hyp := q_neg c7 hyp
          refine q_iload 0 rfl dX9_all_42 ?_
          refine q_iload_n 3 rfl dX9_all_44 ?_
          refine q_icmp_ge (tgt := 71) dX9_all_45 (by decide) (fun c8 => ?_) (fun c8 => ?_)
          · have hyp := q_pos c8 hyp
            refine q_iinc (ls' := [(3, .int (v3 + 1)), (4, .int p5.1), (0, .ref v0), (1, .int v1), (2, .int v2)]) 4 rfl rfl (by decide) rfl dX9_all_71 ?_
            refine q_goto (tgt := 13) dX9_all_74 (by decide) ?_
            exact q_sub [2, 3, 4, 0] rfl (ih v0 v1 v2 (v3 + 1) p5.2 hyp)
          · have hyp := q_neg c8 hyp
            exact q_sub [1, 2, 3, 4, 0] rfl (okX9_all_b48 ih hyp)
def fX9_all (n : Nat) (v0 : Nat) (h : qH) : Option (Int32 × qH) :=
  (isO h v0 9).bind fun _ =>
  (fX9_reckonCosts n v0 h).bind fun h1 =>
  (fX9_meant n v0 h1).bind fun p2 =>
  fX9_all_b13 n n v0 p2.1 ((-1)) 0 p2.2
theorem obX9_all {n : Nat} {v0 : Nat} {h : qH} {p : Int32 × qH} (hyp : fX9_all n v0 h = some p) : ∃ fs, h.1 v0 = some (.inr (9, fs)) := by
  unfold fX9_all at hyp
  exact q_bind hyp (fun _ e _ => isO_some e)
set_option maxHeartbeats 4000000 in
set_option maxRecDepth 100000 in
theorem okX9_all {l : Launch} {n : Nat} {v0 : Nat} {h : qH} {p : Int32 × qH} (hyp : fX9_all n v0 h = some p) : q_M l 6 yX9_all cX9_all 5 (some .int) [.ref v0] h (some (.int p.1)) p.2 := by
  obtain ⟨r, h'⟩ := p
  unfold fX9_all at hyp
  refine q_bind hyp (fun _ _ hyp => ?_)
  refine q_M.of (by decide) (Nat.le_of_ble_eq_true rfl) ?_
  refine q_to (ls' := [(0, .ref v0)]) (st' := []) rfl rfl ?_
  refine q_aload_n 0 rfl dX9_all_0 ?_
  refine q_bind hyp (fun h1 e4 hyp => ?_)
  refine q_callV (as := []) (st := []) kY_X9_reckonCosts kL_X9_223 (okX9_reckonCosts (l := l) e4) (by decide) rfl (obX9_reckonCosts e4) (Nat.le_of_ble_eq_true rfl) dX9_all_1 ?_
  refine q_to (ls' := [(0, .ref v0)]) (st' := []) rfl rfl ?_
  refine q_aload_n 0 rfl dX9_all_4 ?_
  refine q_bind hyp (fun p2 e3 hyp => ?_)
  refine q_callV (as := []) (st := []) kY_X9_meant kL_X9_138 (okX9_meant (l := l) e3) (by decide) rfl (obX9_meant e3) (Nat.le_of_ble_eq_true rfl) dX9_all_5 ?_
  refine q_to (ls' := [(0, .ref v0)]) (st' := [.int p2.1]) rfl rfl ?_
  refine q_istore_n (ls' := [(1, .int p2.1), (0, .ref v0)]) (by decide) rfl dX9_all_8 ?_
  refine q_iconst (x := (-1)) rfl dX9_all_9 ?_
  refine q_istore_n (ls' := [(2, .int ((-1))), (1, .int p2.1), (0, .ref v0)]) (by decide) rfl dX9_all_10 ?_
  refine q_iconst (x := 0) rfl dX9_all_11 ?_
  refine q_istore_n (ls' := [(3, .int 0), (2, .int ((-1))), (1, .int p2.1), (0, .ref v0)]) (by decide) rfl dX9_all_12 ?_
  exact q_sub [3, 2, 1, 0] rfl (okX9_all_b13 _ v0 p2.1 ((-1)) 0 p2.2 hyp)
theorem dX9_bare_0 : decode cX9_bare 0 = .ok (.iconst 0, 1) := by decide +kernel
theorem dX9_bare_1 : decode cX9_bare 1 = .ok (.istore_n 1, 1) := by decide +kernel
theorem dX9_bare_2 : decode cX9_bare 2 = .ok (.iconst 0, 1) := by decide +kernel
theorem dX9_bare_3 : decode cX9_bare 3 = .ok (.istore_n 2, 1) := by decide +kernel
theorem dX9_bare_4 : decode cX9_bare 4 = .ok (.iload_n 2, 1) := by decide +kernel
theorem dX9_bare_5 : decode cX9_bare 5 = .ok (.aload_n 0, 1) := by decide +kernel
theorem dX9_bare_6 : decode cX9_bare 6 = .ok (.getfield 28, 3) := by decide +kernel
theorem dX9_bare_9 : decode cX9_bare 9 = .ok (.getfield 220, 3) := by decide +kernel
theorem dX9_bare_12 : decode cX9_bare 12 = .ok (.if_icmp .ge 40, 3) := by decide +kernel
theorem dX9_bare_15 : decode cX9_bare 15 = .ok (.aload_n 0, 1) := by decide +kernel
theorem dX9_bare_16 : decode cX9_bare 16 = .ok (.getfield 28, 3) := by decide +kernel
theorem dX9_bare_19 : decode cX9_bare 19 = .ok (.getfield 126, 3) := by decide +kernel
theorem dX9_bare_22 : decode cX9_bare 22 = .ok (.iload_n 2, 1) := by decide +kernel
theorem dX9_bare_23 : decode cX9_bare 23 = .ok (.iaload, 1) := by decide +kernel
theorem dX9_bare_24 : decode cX9_bare 24 = .ok (.iconst 3, 1) := by decide +kernel
theorem dX9_bare_25 : decode cX9_bare 25 = .ok (.if_icmp .ne 21, 3) := by decide +kernel
theorem dX9_bare_28 : decode cX9_bare 28 = .ok (.aload_n 0, 1) := by decide +kernel
theorem dX9_bare_29 : decode cX9_bare 29 = .ok (.getfield 38, 3) := by decide +kernel
theorem dX9_bare_32 : decode cX9_bare 32 = .ok (.getfield 132, 3) := by decide +kernel
theorem dX9_bare_35 : decode cX9_bare 35 = .ok (.iload_n 2, 1) := by decide +kernel
theorem dX9_bare_36 : decode cX9_bare 36 = .ok (.iaload, 1) := by decide +kernel
theorem dX9_bare_37 : decode cX9_bare 37 = .ok (.ifCond .eq 9, 3) := by decide +kernel
theorem dX9_bare_40 : decode cX9_bare 40 = .ok (.iload_n 1, 1) := by decide +kernel
theorem dX9_bare_41 : decode cX9_bare 41 = .ok (.iconst 1, 1) := by decide +kernel
theorem dX9_bare_42 : decode cX9_bare 42 = .ok (.iload_n 2, 1) := by decide +kernel
theorem dX9_bare_43 : decode cX9_bare 43 = .ok (.ishl, 1) := by decide +kernel
theorem dX9_bare_44 : decode cX9_bare 44 = .ok (.ior, 1) := by decide +kernel
theorem dX9_bare_45 : decode cX9_bare 45 = .ok (.istore_n 1, 1) := by decide +kernel
theorem dX9_bare_46 : decode cX9_bare 46 = .ok (.iinc 2 1, 3) := by decide +kernel
theorem dX9_bare_49 : decode cX9_bare 49 = .ok (.goto (-45), 3) := by decide +kernel
theorem dX9_bare_52 : decode cX9_bare 52 = .ok (.iload_n 1, 1) := by decide +kernel
theorem dX9_bare_53 : decode cX9_bare 53 = .ok (.ireturn, 1) := by decide +kernel
def fX9_bare_b4 (n : Nat) : Nat → Nat → Int32 → Int32 → qH → Option (Int32 × qH)
  | 0, _, _, _, _ => none
  | w + 1, v0, v1, v2, h =>
    (gR h v0 9 2).bind fun x1 =>
    (gI h x1 5 6).bind fun x3 =>
    if x3 ≤ v2 then
    (some (v1, h))
    else
    ((gR h v0 9 2).bind fun x6 =>
    (gR h x6 5 1).bind fun x8 =>
    (aI .int h x8 v2).bind fun x10 =>
    if x10 = 3 then
    ((gR h v0 9 4).bind fun x13 =>
    (gR h x13 8 0).bind fun x15 =>
    (aI .int h x15 v2).bind fun x17 =>
    if x17 = 0 then
    (fX9_bare_b4 n w v0 v1 (v2 + 1) h)
    else
    (fX9_bare_b4 n w v0 (v1 ||| ((1 : Int32) <<< (v2 &&& 31))) (v2 + 1) h))
    else
    (fX9_bare_b4 n w v0 v1 (v2 + 1) h))
set_option maxHeartbeats 4000000 in
set_option maxRecDepth 100000 in
theorem okX9_bare_b4 {l : Launch} {n : Nat} {r : Int32} {h' : qH} : ∀ (w : Nat) (v0 : Nat) (v1 : Int32) (v2 : Int32) (h : qH), fX9_bare_b4 n w v0 v1 v2 h = some (r, h') → q_W l 1 yX9_bare cX9_bare 3 (some .int) (some (.int r)) h' 4 [(0, .ref v0), (1, .int v1), (2, .int v2)] [] h := by
  intro w
  induction w with
  | zero => intro v0 v1 v2 h hyp; cases hyp
  | succ w ih =>
    intro v0 v1 v2 h hyp
    unfold fX9_bare_b4 at hyp
    refine q_iload_n 2 rfl dX9_bare_4 ?_
    refine q_aload_n 0 rfl dX9_bare_5 ?_
    refine q_bind hyp (fun x1 e2 hyp => ?_)
    refine q_getR kF_X9_28 dX9_bare_6 e2 ?_
    refine q_bind hyp (fun x3 e4 hyp => ?_)
    refine q_getI kF_X9_220 dX9_bare_9 e4 ?_
    refine q_icmp_ge (tgt := 52) dX9_bare_12 (by decide) (fun c5 => ?_) (fun c5 => ?_)
    · have hyp := q_pos c5 hyp
      refine q_iload_n 1 rfl dX9_bare_52 ?_
      exact q_iretH rfl rfl dX9_bare_53 hyp
    · have hyp := q_neg c5 hyp
      refine q_aload_n 0 rfl dX9_bare_15 ?_
      refine q_bind hyp (fun x6 e7 hyp => ?_)
      refine q_getR kF_X9_28 dX9_bare_16 e7 ?_
      refine q_bind hyp (fun x8 e9 hyp => ?_)
      refine q_getR kF_X9_126 dX9_bare_19 e9 ?_
      refine q_iload_n 2 rfl dX9_bare_22 ?_
      refine q_bind hyp (fun x10 e11 hyp => ?_)
      refine q_iald dX9_bare_23 e11 ?_
      refine q_iconst (x := 3) rfl dX9_bare_24 ?_
      refine q_icmp_ne (tgt := 46) dX9_bare_25 (by decide) (fun c12 => ?_) (fun c12 => ?_)
      · have hyp := q_neg c12 hyp
        refine q_iinc (ls' := [(2, .int (v2 + 1)), (0, .ref v0), (1, .int v1)]) 2 rfl rfl (by decide) rfl dX9_bare_46 ?_
        refine q_goto (tgt := 4) dX9_bare_49 (by decide) ?_
        exact q_sub [1, 2, 0] rfl (ih v0 v1 (v2 + 1) h hyp)
      · have hyp := q_pos c12 hyp
        refine q_aload_n 0 rfl dX9_bare_28 ?_
        refine q_bind hyp (fun x13 e14 hyp => ?_)
        refine q_getR kF_X9_38 dX9_bare_29 e14 ?_
        refine q_bind hyp (fun x15 e16 hyp => ?_)
        refine q_getR kF_X9_132 dX9_bare_32 e16 ?_
        refine q_iload_n 2 rfl dX9_bare_35 ?_
        refine q_bind hyp (fun x17 e18 hyp => ?_)
        refine q_iald dX9_bare_36 e18 ?_
        refine q_if_eq (tgt := 46) dX9_bare_37 (by decide) (fun c19 => ?_) (fun c19 => ?_)
        · have hyp := q_pos c19 hyp
          refine q_iinc (ls' := [(2, .int (v2 + 1)), (0, .ref v0), (1, .int v1)]) 2 rfl rfl (by decide) rfl dX9_bare_46 ?_
          refine q_goto (tgt := 4) dX9_bare_49 (by decide) ?_
          exact q_sub [1, 2, 0] rfl (ih v0 v1 (v2 + 1) h hyp)
        · have hyp := q_neg c19 hyp
          refine q_iload_n 1 rfl dX9_bare_40 ?_
          refine q_iconst (x := 1) rfl dX9_bare_41 ?_
          refine q_iload_n 2 rfl dX9_bare_42 ?_
          refine q_ishl dX9_bare_43 ?_
          refine q_ior dX9_bare_44 ?_
          refine q_istore_n (ls' := [(1, .int (v1 ||| ((1 : Int32) <<< (v2 &&& 31)))), (0, .ref v0), (2, .int v2)]) (by decide) rfl dX9_bare_45 ?_
          refine q_iinc (ls' := [(2, .int (v2 + 1)), (1, .int (v1 ||| ((1 : Int32) <<< (v2 &&& 31)))), (0, .ref v0)]) 2 rfl rfl (by decide) rfl dX9_bare_46 ?_
          refine q_goto (tgt := 4) dX9_bare_49 (by decide) ?_
          exact q_sub [2, 1, 0] rfl (ih v0 (v1 ||| ((1 : Int32) <<< (v2 &&& 31))) (v2 + 1) h hyp)
def fX9_bare (n : Nat) (v0 : Nat) (h : qH) : Option (Int32 × qH) :=
  (isO h v0 9).bind fun _ =>
  fX9_bare_b4 n n v0 0 0 h
theorem obX9_bare {n : Nat} {v0 : Nat} {h : qH} {p : Int32 × qH} (hyp : fX9_bare n v0 h = some p) : ∃ fs, h.1 v0 = some (.inr (9, fs)) := by
  unfold fX9_bare at hyp
  exact q_bind hyp (fun _ e _ => isO_some e)
set_option maxHeartbeats 4000000 in
set_option maxRecDepth 100000 in
theorem okX9_bare {l : Launch} {n : Nat} {v0 : Nat} {h : qH} {p : Int32 × qH} (hyp : fX9_bare n v0 h = some p) : q_M l 1 yX9_bare cX9_bare 3 (some .int) [.ref v0] h (some (.int p.1)) p.2 := by
  obtain ⟨r, h'⟩ := p
  unfold fX9_bare at hyp
  refine q_bind hyp (fun _ _ hyp => ?_)
  refine q_M.of (by decide) (Nat.le_of_ble_eq_true rfl) ?_
  refine q_to (ls' := [(0, .ref v0)]) (st' := []) rfl rfl ?_
  refine q_iconst (x := 0) rfl dX9_bare_0 ?_
  refine q_istore_n (ls' := [(1, .int 0), (0, .ref v0)]) (by decide) rfl dX9_bare_1 ?_
  refine q_iconst (x := 0) rfl dX9_bare_2 ?_
  refine q_istore_n (ls' := [(2, .int 0), (1, .int 0), (0, .ref v0)]) (by decide) rfl dX9_bare_3 ?_
  exact q_sub [2, 1, 0] rfl (okX9_bare_b4 _ v0 0 0 h hyp)
theorem dX9_beginAnew_0 : decode cX9_beginAnew 0 = .ok (.aload_n 0, 1) := by decide +kernel
theorem dX9_beginAnew_1 : decode cX9_beginAnew 1 = .ok (.getfield 38, 3) := by decide +kernel
theorem dX9_beginAnew_4 : decode cX9_beginAnew 4 = .ok (.aload_n 0, 1) := by decide +kernel
theorem dX9_beginAnew_5 : decode cX9_beginAnew 5 = .ok (.getfield 28, 3) := by decide +kernel
theorem dX9_beginAnew_8 : decode cX9_beginAnew 8 = .ok (.invokevirtual 86, 3) := by decide +kernel
theorem dX9_beginAnew_11 : decode cX9_beginAnew 11 = .ok (.aload_n 0, 1) := by decide +kernel
theorem dX9_beginAnew_12 : decode cX9_beginAnew 12 = .ok (.getfield 55, 3) := by decide +kernel
theorem dX9_beginAnew_15 : decode cX9_beginAnew 15 = .ok (.invokevirtual 105, 3) := by decide +kernel
theorem dX9_beginAnew_18 : decode cX9_beginAnew 18 = .ok (.aload_n 0, 1) := by decide +kernel
theorem dX9_beginAnew_19 : decode cX9_beginAnew 19 = .ok (.getfield 65, 3) := by decide +kernel
theorem dX9_beginAnew_22 : decode cX9_beginAnew 22 = .ok (.iconst 0, 1) := by decide +kernel
theorem dX9_beginAnew_23 : decode cX9_beginAnew 23 = .ok (.putfield 106, 3) := by decide +kernel
theorem dX9_beginAnew_26 : decode cX9_beginAnew 26 = .ok (.aload_n 0, 1) := by decide +kernel
theorem dX9_beginAnew_27 : decode cX9_beginAnew 27 = .ok (.getfield 48, 3) := by decide +kernel
theorem dX9_beginAnew_30 : decode cX9_beginAnew 30 = .ok (.invokevirtual 109, 3) := by decide +kernel
theorem dX9_beginAnew_33 : decode cX9_beginAnew 33 = .ok (.iconst 0, 1) := by decide +kernel
theorem dX9_beginAnew_34 : decode cX9_beginAnew 34 = .ok (.istore_n 1, 1) := by decide +kernel
theorem dX9_beginAnew_35 : decode cX9_beginAnew 35 = .ok (.iload_n 1, 1) := by decide +kernel
theorem dX9_beginAnew_36 : decode cX9_beginAnew 36 = .ok (.aload_n 0, 1) := by decide +kernel
theorem dX9_beginAnew_37 : decode cX9_beginAnew 37 = .ok (.getfield 71, 3) := by decide +kernel
theorem dX9_beginAnew_40 : decode cX9_beginAnew 40 = .ok (.arraylength, 1) := by decide +kernel
theorem dX9_beginAnew_41 : decode cX9_beginAnew 41 = .ok (.if_icmp .ge 19, 3) := by decide +kernel
theorem dX9_beginAnew_44 : decode cX9_beginAnew 44 = .ok (.aload_n 0, 1) := by decide +kernel
theorem dX9_beginAnew_45 : decode cX9_beginAnew 45 = .ok (.getfield 71, 3) := by decide +kernel
theorem dX9_beginAnew_48 : decode cX9_beginAnew 48 = .ok (.iload_n 1, 1) := by decide +kernel
theorem dX9_beginAnew_49 : decode cX9_beginAnew 49 = .ok (.aaload, 1) := by decide +kernel
theorem dX9_beginAnew_50 : decode cX9_beginAnew 50 = .ok (.iconst 0, 1) := by decide +kernel
theorem dX9_beginAnew_51 : decode cX9_beginAnew 51 = .ok (.putfield 110, 3) := by decide +kernel
theorem dX9_beginAnew_54 : decode cX9_beginAnew 54 = .ok (.iinc 1 1, 3) := by decide +kernel
theorem dX9_beginAnew_57 : decode cX9_beginAnew 57 = .ok (.goto (-22), 3) := by decide +kernel
theorem dX9_beginAnew_60 : decode cX9_beginAnew 60 = .ok (.return_, 1) := by decide +kernel
def fX9_beginAnew_b35 (n : Nat) : Nat → Nat → Int32 → qH → Option (qH)
  | 0, _, _, _ => none
  | w + 1, v0, v1, h =>
    (gR h v0 9 10).bind fun x1 =>
    (aN h x1).bind fun x3 =>
    if x3 ≤ v1 then
    (some h)
    else
    ((gR h v0 9 10).bind fun x6 =>
    (aR h x6 v1).bind fun x8 =>
    (pF h x8 3 3 (.int 0)).bind fun h10 =>
    fX9_beginAnew_b35 n w v0 (v1 + 1) h10)
set_option maxHeartbeats 4000000 in
set_option maxRecDepth 100000 in
theorem okX9_beginAnew_b35 {l : Launch} {n : Nat} {h' : qH} : ∀ (w : Nat) (v0 : Nat) (v1 : Int32) (h : qH), fX9_beginAnew_b35 n w v0 v1 h = some h' → q_W l 2 yX9_beginAnew cX9_beginAnew 2 none none h' 35 [(0, .ref v0), (1, .int v1)] [] h := by
  intro w
  induction w with
  | zero => intro v0 v1 h hyp; cases hyp
  | succ w ih =>
    intro v0 v1 h hyp
    unfold fX9_beginAnew_b35 at hyp
    refine q_iload_n 1 rfl dX9_beginAnew_35 ?_
    refine q_aload_n 0 rfl dX9_beginAnew_36 ?_
    refine q_bind hyp (fun x1 e2 hyp => ?_)
    refine q_getR kF_X9_71 dX9_beginAnew_37 e2 ?_
    refine q_bind hyp (fun x3 e4 hyp => ?_)
    refine q_alen dX9_beginAnew_40 e4 ?_
    refine q_icmp_ge (tgt := 60) dX9_beginAnew_41 (by decide) (fun c5 => ?_) (fun c5 => ?_)
    · have hyp := q_pos c5 hyp
      exact q_vretH rfl dX9_beginAnew_60 hyp
    · have hyp := q_neg c5 hyp
      refine q_aload_n 0 rfl dX9_beginAnew_44 ?_
      refine q_bind hyp (fun x6 e7 hyp => ?_)
      refine q_getR kF_X9_71 dX9_beginAnew_45 e7 ?_
      refine q_iload_n 1 rfl dX9_beginAnew_48 ?_
      refine q_bind hyp (fun x8 e9 hyp => ?_)
      refine q_aald dX9_beginAnew_49 e9 ?_
      refine q_iconst (x := 0) rfl dX9_beginAnew_50 ?_
      refine q_bind hyp (fun h10 e11 hyp => ?_)
      refine q_putF kF_X9_110 (fun _ => ⟨rfl, rfl⟩) dX9_beginAnew_51 e11 ?_
      refine q_iinc (ls' := [(1, .int (v1 + 1)), (0, .ref v0)]) 1 rfl rfl (by decide) rfl dX9_beginAnew_54 ?_
      refine q_goto (tgt := 35) dX9_beginAnew_57 (by decide) ?_
      exact q_sub [1, 0] rfl (ih v0 (v1 + 1) h10 hyp)
def fX9_beginAnew (n : Nat) (v0 : Nat) (h : qH) : Option (qH) :=
  (isO h v0 9).bind fun _ =>
  (gR h v0 9 4).bind fun x1 =>
  (gR h v0 9 2).bind fun x3 =>
  (fX8_begin n x1 x3 h).bind fun h5 =>
  (gR h5 v0 9 7).bind fun x6 =>
  (fX2_clear x6 h5).bind fun h8 =>
  (gR h8 v0 9 9).bind fun x9 =>
  (pF h8 x9 7 3 (.int 0)).bind fun h11 =>
  (gR h11 v0 9 6).bind fun x13 =>
  (fX0_clear x13 h11).bind fun h15 =>
  fX9_beginAnew_b35 n n v0 0 h15
theorem obX9_beginAnew {n : Nat} {v0 : Nat} {h : qH} {p : qH} (hyp : fX9_beginAnew n v0 h = some p) : ∃ fs, h.1 v0 = some (.inr (9, fs)) := by
  unfold fX9_beginAnew at hyp
  exact q_bind hyp (fun _ e _ => isO_some e)
set_option maxHeartbeats 4000000 in
set_option maxRecDepth 100000 in
theorem okX9_beginAnew {l : Launch} {n : Nat} {v0 : Nat} {h : qH} {h' : qH} (hyp : fX9_beginAnew n v0 h = some h') : q_M l 2 yX9_beginAnew cX9_beginAnew 2 none [.ref v0] h none h' := by
  unfold fX9_beginAnew at hyp
  refine q_bind hyp (fun _ _ hyp => ?_)
  refine q_M.of (by decide) (Nat.le_of_ble_eq_true rfl) ?_
  refine q_to (ls' := [(0, .ref v0)]) (st' := []) rfl rfl ?_
  refine q_aload_n 0 rfl dX9_beginAnew_0 ?_
  refine q_bind hyp (fun x1 e2 hyp => ?_)
  refine q_getR kF_X9_38 dX9_beginAnew_1 e2 ?_
  refine q_aload_n 0 rfl dX9_beginAnew_4 ?_
  refine q_bind hyp (fun x3 e4 hyp => ?_)
  refine q_getR kF_X9_28 dX9_beginAnew_5 e4 ?_
  refine q_bind hyp (fun h5 e18 hyp => ?_)
  refine q_callV (as := [.ref x3]) (st := []) kY_X8_begin kL_X9_86 (okX8_begin (l := l) e18) (by decide) rfl (obX8_begin e18) (Nat.le_of_ble_eq_true rfl) dX9_beginAnew_8 ?_
  refine q_to (ls' := [(0, .ref v0)]) (st' := []) rfl rfl ?_
  refine q_aload_n 0 rfl dX9_beginAnew_11 ?_
  refine q_bind hyp (fun x6 e7 hyp => ?_)
  refine q_getR kF_X9_55 dX9_beginAnew_12 e7 ?_
  refine q_bind hyp (fun h8 e17 hyp => ?_)
  refine q_callV (as := []) (st := []) kY_X2_clear kL_X9_105 (okX2_clear (l := l) e17) (by decide) rfl (obX2_clear e17) (Nat.le_of_ble_eq_true rfl) dX9_beginAnew_15 ?_
  refine q_to (ls' := [(0, .ref v0)]) (st' := []) rfl rfl ?_
  refine q_aload_n 0 rfl dX9_beginAnew_18 ?_
  refine q_bind hyp (fun x9 e10 hyp => ?_)
  refine q_getR kF_X9_65 dX9_beginAnew_19 e10 ?_
  refine q_iconst (x := 0) rfl dX9_beginAnew_22 ?_
  refine q_bind hyp (fun h11 e12 hyp => ?_)
  refine q_putF kF_X9_106 (fun _ => ⟨rfl, rfl⟩) dX9_beginAnew_23 e12 ?_
  refine q_aload_n 0 rfl dX9_beginAnew_26 ?_
  refine q_bind hyp (fun x13 e14 hyp => ?_)
  refine q_getR kF_X9_48 dX9_beginAnew_27 e14 ?_
  refine q_bind hyp (fun h15 e16 hyp => ?_)
  refine q_callV (as := []) (st := []) kY_X0_clear kL_X9_109 (okX0_clear (l := l) e16) (by decide) rfl (obX0_clear e16) (Nat.le_of_ble_eq_true rfl) dX9_beginAnew_30 ?_
  refine q_to (ls' := [(0, .ref v0)]) (st' := []) rfl rfl ?_
  refine q_iconst (x := 0) rfl dX9_beginAnew_33 ?_
  refine q_istore_n (ls' := [(1, .int 0), (0, .ref v0)]) (by decide) rfl dX9_beginAnew_34 ?_
  exact q_sub [1, 0] rfl (okX9_beginAnew_b35 _ v0 0 h15 hyp)
theorem dX9_causes_0 : decode cX9_causes 0 = .ok (.aload_n 0, 1) := by decide +kernel
theorem dX9_causes_1 : decode cX9_causes 1 = .ok (.iload_n 1, 1) := by decide +kernel
theorem dX9_causes_2 : decode cX9_causes 2 = .ok (.invokevirtual 122, 3) := by decide +kernel
theorem dX9_causes_5 : decode cX9_causes 5 = .ok (.ifCond .eq 14, 3) := by decide +kernel
theorem dX9_causes_8 : decode cX9_causes 8 = .ok (.aload_n 0, 1) := by decide +kernel
theorem dX9_causes_9 : decode cX9_causes 9 = .ok (.getfield 28, 3) := by decide +kernel
theorem dX9_causes_12 : decode cX9_causes 12 = .ok (.iload_n 1, 1) := by decide +kernel
theorem dX9_causes_13 : decode cX9_causes 13 = .ok (.invokevirtual 258, 3) := by decide +kernel
theorem dX9_causes_16 : decode cX9_causes 16 = .ok (.goto 4, 3) := by decide +kernel
theorem dX9_causes_19 : decode cX9_causes 19 = .ok (.iconst (-1), 1) := by decide +kernel
theorem dX9_causes_20 : decode cX9_causes 20 = .ok (.ireturn, 1) := by decide +kernel
def fX9_causes (n : Nat) (v0 : Nat) (v1 : Int32) (h : qH) : Option (Int32 × qH) :=
  (isO h v0 9).bind fun _ =>
  (fX9_isMatter v0 v1 h).bind fun p1 =>
  if p1.1 = 0 then
  (some ((-1), p1.2))
  else
  ((gR p1.2 v0 9 2).bind fun x3 =>
  (fX5_causeBits n x3 v1 p1.2).bind fun p5 =>
  some (p5.1, p5.2))
theorem obX9_causes {n : Nat} {v0 : Nat} {v1 : Int32} {h : qH} {p : Int32 × qH} (hyp : fX9_causes n v0 v1 h = some p) : ∃ fs, h.1 v0 = some (.inr (9, fs)) := by
  unfold fX9_causes at hyp
  exact q_bind hyp (fun _ e _ => isO_some e)
set_option maxHeartbeats 4000000 in
set_option maxRecDepth 100000 in
theorem okX9_causes {l : Launch} {n : Nat} {v0 : Nat} {v1 : Int32} {h : qH} {p : Int32 × qH} (hyp : fX9_causes n v0 v1 h = some p) : q_M l 3 yX9_causes cX9_causes 2 (some .int) [.ref v0, .int v1] h (some (.int p.1)) p.2 := by
  obtain ⟨r, h'⟩ := p
  unfold fX9_causes at hyp
  refine q_bind hyp (fun _ _ hyp => ?_)
  refine q_M.of (by decide) (Nat.le_of_ble_eq_true rfl) ?_
  refine q_to (ls' := [(0, .ref v0), (1, .int v1)]) (st' := []) rfl rfl ?_
  refine q_aload_n 0 rfl dX9_causes_0 ?_
  refine q_iload_n 1 rfl dX9_causes_1 ?_
  refine q_bind hyp (fun p1 e7 hyp => ?_)
  refine q_callV (as := [.int v1]) (st := []) kY_X9_isMatter kL_X9_122 (okX9_isMatter (l := l) e7) (by decide) rfl (obX9_isMatter e7) (Nat.le_of_ble_eq_true rfl) dX9_causes_2 ?_
  refine q_to (ls' := [(0, .ref v0), (1, .int v1)]) (st' := [.int p1.1]) rfl rfl ?_
  refine q_if_eq (tgt := 19) dX9_causes_5 (by decide) (fun c2 => ?_) (fun c2 => ?_)
  · have hyp := q_pos c2 hyp
    refine q_iconst (x := (-1)) rfl dX9_causes_19 ?_
    exact q_iretH rfl rfl dX9_causes_20 hyp
  · have hyp := q_neg c2 hyp
    refine q_aload_n 0 rfl dX9_causes_8 ?_
    refine q_bind hyp (fun x3 e4 hyp => ?_)
    refine q_getR kF_X9_28 dX9_causes_9 e4 ?_
    refine q_iload_n 1 rfl dX9_causes_12 ?_
    refine q_bind hyp (fun p5 e6 hyp => ?_)
    refine q_callV (as := [.int v1]) (st := []) kY_X5_causeBits kL_X9_258 (okX5_causeBits (l := l) e6) (by decide) rfl (obX5_causeBits e6) (Nat.le_of_ble_eq_true rfl) dX9_causes_13 ?_
    refine q_to (ls' := [(0, .ref v0), (1, .int v1)]) (st' := [.int p5.1]) rfl rfl ?_
    refine q_goto (tgt := 20) dX9_causes_16 (by decide) ?_
    exact q_iretH rfl rfl dX9_causes_20 hyp
theorem dX9_partsMeant_0 : decode cX9_partsMeant 0 = .ok (.iload 5, 2) := by decide +kernel
theorem dX9_partsMeant_2 : decode cX9_partsMeant 2 = .ok (.iload 6, 2) := by decide +kernel
theorem dX9_partsMeant_4 : decode cX9_partsMeant 4 = .ok (.if_icmp .lt 13, 3) := by decide +kernel
theorem dX9_partsMeant_7 : decode cX9_partsMeant 7 = .ok (.iload_n 2, 1) := by decide +kernel
theorem dX9_partsMeant_8 : decode cX9_partsMeant 8 = .ok (.ifCond .ne 7, 3) := by decide +kernel
theorem dX9_partsMeant_11 : decode cX9_partsMeant 11 = .ok (.iconst 1, 1) := by decide +kernel
theorem dX9_partsMeant_12 : decode cX9_partsMeant 12 = .ok (.goto 4, 3) := by decide +kernel
theorem dX9_partsMeant_15 : decode cX9_partsMeant 15 = .ok (.iconst 0, 1) := by decide +kernel
theorem dX9_partsMeant_16 : decode cX9_partsMeant 16 = .ok (.ireturn, 1) := by decide +kernel
theorem dX9_partsMeant_17 : decode cX9_partsMeant 17 = .ok (.aload_n 0, 1) := by decide +kernel
theorem dX9_partsMeant_18 : decode cX9_partsMeant 18 = .ok (.iload_n 1, 1) := by decide +kernel
theorem dX9_partsMeant_19 : decode cX9_partsMeant 19 = .ok (.aload_n 0, 1) := by decide +kernel
theorem dX9_partsMeant_20 : decode cX9_partsMeant 20 = .ok (.getfield 28, 3) := by decide +kernel
theorem dX9_partsMeant_23 : decode cX9_partsMeant 23 = .ok (.iload_n 1, 1) := by decide +kernel
theorem dX9_partsMeant_24 : decode cX9_partsMeant 24 = .ok (.iload_n 2, 1) := by decide +kernel
theorem dX9_partsMeant_25 : decode cX9_partsMeant 25 = .ok (.iload_n 3, 1) := by decide +kernel
theorem dX9_partsMeant_26 : decode cX9_partsMeant 26 = .ok (.invokevirtual 249, 3) := by decide +kernel
theorem dX9_partsMeant_29 : decode cX9_partsMeant 29 = .ok (.iload_n 3, 1) := by decide +kernel
theorem dX9_partsMeant_30 : decode cX9_partsMeant 30 = .ok (.aload_n 0, 1) := by decide +kernel
theorem dX9_partsMeant_31 : decode cX9_partsMeant 31 = .ok (.getfield 28, 3) := by decide +kernel
theorem dX9_partsMeant_34 : decode cX9_partsMeant 34 = .ok (.iload 4, 2) := by decide +kernel
theorem dX9_partsMeant_36 : decode cX9_partsMeant 36 = .ok (.invokevirtual 253, 3) := by decide +kernel
theorem dX9_partsMeant_39 : decode cX9_partsMeant 39 = .ok (.iload 5, 2) := by decide +kernel
theorem dX9_partsMeant_41 : decode cX9_partsMeant 41 = .ok (.iconst 1, 1) := by decide +kernel
theorem dX9_partsMeant_42 : decode cX9_partsMeant 42 = .ok (.iadd, 1) := by decide +kernel
theorem dX9_partsMeant_43 : decode cX9_partsMeant 43 = .ok (.iload 6, 2) := by decide +kernel
theorem dX9_partsMeant_45 : decode cX9_partsMeant 45 = .ok (.iload 7, 2) := by decide +kernel
theorem dX9_partsMeant_47 : decode cX9_partsMeant 47 = .ok (.invokevirtual 295, 3) := by decide +kernel
theorem dX9_partsMeant_50 : decode cX9_partsMeant 50 = .ok (.istore 8, 2) := by decide +kernel
theorem dX9_partsMeant_52 : decode cX9_partsMeant 52 = .ok (.aload_n 0, 1) := by decide +kernel
theorem dX9_partsMeant_53 : decode cX9_partsMeant 53 = .ok (.getfield 28, 3) := by decide +kernel
theorem dX9_partsMeant_56 : decode cX9_partsMeant 56 = .ok (.iload_n 1, 1) := by decide +kernel
theorem dX9_partsMeant_57 : decode cX9_partsMeant 57 = .ok (.invokevirtual 217, 3) := by decide +kernel
theorem dX9_partsMeant_60 : decode cX9_partsMeant 60 = .ok (.istore 9, 2) := by decide +kernel
theorem dX9_partsMeant_62 : decode cX9_partsMeant 62 = .ok (.iload 7, 2) := by decide +kernel
theorem dX9_partsMeant_64 : decode cX9_partsMeant 64 = .ok (.ifCond .eq 10, 3) := by decide +kernel
theorem dX9_partsMeant_67 : decode cX9_partsMeant 67 = .ok (.iload 4, 2) := by decide +kernel
theorem dX9_partsMeant_69 : decode cX9_partsMeant 69 = .ok (.iload 9, 2) := by decide +kernel
theorem dX9_partsMeant_71 : decode cX9_partsMeant 71 = .ok (.if_icmp .ge 9, 3) := by decide +kernel
theorem dX9_partsMeant_74 : decode cX9_partsMeant 74 = .ok (.bipush 10, 2) := by decide +kernel
theorem dX9_partsMeant_76 : decode cX9_partsMeant 76 = .ok (.iload 8, 2) := by decide +kernel
theorem dX9_partsMeant_78 : decode cX9_partsMeant 78 = .ok (.imul, 1) := by decide +kernel
theorem dX9_partsMeant_79 : decode cX9_partsMeant 79 = .ok (.ireturn, 1) := by decide +kernel
theorem dX9_partsMeant_80 : decode cX9_partsMeant 80 = .ok (.aload_n 0, 1) := by decide +kernel
theorem dX9_partsMeant_81 : decode cX9_partsMeant 81 = .ok (.getfield 28, 3) := by decide +kernel
theorem dX9_partsMeant_84 : decode cX9_partsMeant 84 = .ok (.iload_n 1, 1) := by decide +kernel
theorem dX9_partsMeant_85 : decode cX9_partsMeant 85 = .ok (.iload_n 2, 1) := by decide +kernel
theorem dX9_partsMeant_86 : decode cX9_partsMeant 86 = .ok (.iload_n 3, 1) := by decide +kernel
theorem dX9_partsMeant_87 : decode cX9_partsMeant 87 = .ok (.iload 5, 2) := by decide +kernel
theorem dX9_partsMeant_89 : decode cX9_partsMeant 89 = .ok (.invokevirtual 210, 3) := by decide +kernel
theorem dX9_partsMeant_92 : decode cX9_partsMeant 92 = .ok (.istore 10, 2) := by decide +kernel
theorem dX9_partsMeant_94 : decode cX9_partsMeant 94 = .ok (.aload_n 0, 1) := by decide +kernel
theorem dX9_partsMeant_95 : decode cX9_partsMeant 95 = .ok (.getfield 28, 3) := by decide +kernel
theorem dX9_partsMeant_98 : decode cX9_partsMeant 98 = .ok (.iload_n 1, 1) := by decide +kernel
theorem dX9_partsMeant_99 : decode cX9_partsMeant 99 = .ok (.iload_n 3, 1) := by decide +kernel
theorem dX9_partsMeant_100 : decode cX9_partsMeant 100 = .ok (.invokevirtual 299, 3) := by decide +kernel
theorem dX9_partsMeant_103 : decode cX9_partsMeant 103 = .ok (.istore 11, 2) := by decide +kernel
theorem dX9_partsMeant_105 : decode cX9_partsMeant 105 = .ok (.aload_n 0, 1) := by decide +kernel
theorem dX9_partsMeant_106 : decode cX9_partsMeant 106 = .ok (.iload_n 1, 1) := by decide +kernel
theorem dX9_partsMeant_107 : decode cX9_partsMeant 107 = .ok (.aload_n 0, 1) := by decide +kernel
theorem dX9_partsMeant_108 : decode cX9_partsMeant 108 = .ok (.getfield 28, 3) := by decide +kernel
theorem dX9_partsMeant_111 : decode cX9_partsMeant 111 = .ok (.iload_n 1, 1) := by decide +kernel
theorem dX9_partsMeant_112 : decode cX9_partsMeant 112 = .ok (.iload 10, 2) := by decide +kernel
theorem dX9_partsMeant_114 : decode cX9_partsMeant 114 = .ok (.iload 11, 2) := by decide +kernel
theorem dX9_partsMeant_116 : decode cX9_partsMeant 116 = .ok (.invokevirtual 249, 3) := by decide +kernel
theorem dX9_partsMeant_119 : decode cX9_partsMeant 119 = .ok (.iload 11, 2) := by decide +kernel
theorem dX9_partsMeant_121 : decode cX9_partsMeant 121 = .ok (.aload_n 0, 1) := by decide +kernel
theorem dX9_partsMeant_122 : decode cX9_partsMeant 122 = .ok (.getfield 28, 3) := by decide +kernel
theorem dX9_partsMeant_125 : decode cX9_partsMeant 125 = .ok (.iload 4, 2) := by decide +kernel
theorem dX9_partsMeant_127 : decode cX9_partsMeant 127 = .ok (.iload 9, 2) := by decide +kernel
theorem dX9_partsMeant_129 : decode cX9_partsMeant 129 = .ok (.isub, 1) := by decide +kernel
theorem dX9_partsMeant_130 : decode cX9_partsMeant 130 = .ok (.invokevirtual 253, 3) := by decide +kernel
theorem dX9_partsMeant_133 : decode cX9_partsMeant 133 = .ok (.iload 5, 2) := by decide +kernel
theorem dX9_partsMeant_135 : decode cX9_partsMeant 135 = .ok (.iconst 1, 1) := by decide +kernel
theorem dX9_partsMeant_136 : decode cX9_partsMeant 136 = .ok (.iadd, 1) := by decide +kernel
theorem dX9_partsMeant_137 : decode cX9_partsMeant 137 = .ok (.iload 6, 2) := by decide +kernel
theorem dX9_partsMeant_139 : decode cX9_partsMeant 139 = .ok (.iload 7, 2) := by decide +kernel
theorem dX9_partsMeant_141 : decode cX9_partsMeant 141 = .ok (.invokevirtual 295, 3) := by decide +kernel
theorem dX9_partsMeant_144 : decode cX9_partsMeant 144 = .ok (.istore 12, 2) := by decide +kernel
theorem dX9_partsMeant_146 : decode cX9_partsMeant 146 = .ok (.iload 7, 2) := by decide +kernel
theorem dX9_partsMeant_148 : decode cX9_partsMeant 148 = .ok (.iload 12, 2) := by decide +kernel
theorem dX9_partsMeant_150 : decode cX9_partsMeant 150 = .ok (.imul, 1) := by decide +kernel
theorem dX9_partsMeant_151 : decode cX9_partsMeant 151 = .ok (.bipush 10, 2) := by decide +kernel
theorem dX9_partsMeant_153 : decode cX9_partsMeant 153 = .ok (.iload 7, 2) := by decide +kernel
theorem dX9_partsMeant_155 : decode cX9_partsMeant 155 = .ok (.isub, 1) := by decide +kernel
theorem dX9_partsMeant_156 : decode cX9_partsMeant 156 = .ok (.iload 8, 2) := by decide +kernel
theorem dX9_partsMeant_158 : decode cX9_partsMeant 158 = .ok (.imul, 1) := by decide +kernel
theorem dX9_partsMeant_159 : decode cX9_partsMeant 159 = .ok (.iadd, 1) := by decide +kernel
theorem dX9_partsMeant_160 : decode cX9_partsMeant 160 = .ok (.ireturn, 1) := by decide +kernel
def fX9_partsMeant_g (RX9_partsMeant : Nat → Int32 → Int32 → Int32 → Int32 → Int32 → Int32 → Int32 → qH → Option (Int32 × qH)) (n : Nat) (v0 : Nat) (v1 : Int32) (v2 : Int32) (v3 : Int32) (v4 : Int32) (v5 : Int32) (v6 : Int32) (v7 : Int32) (h : qH) : Option (Int32 × qH) :=
  (isO h v0 9).bind fun _ =>
  if v5 < v6 then
  ((gR h v0 9 2).bind fun x2 =>
  (fX5_sourAfterYear x2 v1 v2 v3 h).bind fun p4 =>
  (gR p4.2 v0 9 2).bind fun x5 =>
  (fX5_potAfterYear x5 v4 p4.2).bind fun p7 =>
  (RX9_partsMeant v0 v1 p4.1 v3 p7.1 (v5 + 1) v6 v7 p7.2).bind fun p8 =>
  (gR p8.2 v0 9 2).bind fun x9 =>
  (fX5_price x9 v1 p8.2).bind fun p11 =>
  if v7 = 0 then
  (some (10 * p8.1, p11.2))
  else
  (if p11.1 ≤ v4 then
  ((gR p11.2 v0 9 2).bind fun x14 =>
  (fX5_sourAfterCoat n x14 v1 v2 v3 v5 p11.2).bind fun p16 =>
  (gR p16.2 v0 9 2).bind fun x17 =>
  (fX5_coatsAfterCoat x17 v1 v3 p16.2).bind fun p19 =>
  (gR p19.2 v0 9 2).bind fun x20 =>
  (fX5_sourAfterYear x20 v1 p16.1 p19.1 p19.2).bind fun p22 =>
  (gR p22.2 v0 9 2).bind fun x23 =>
  (fX5_potAfterYear x23 (v4 - p11.1) p22.2).bind fun p25 =>
  (RX9_partsMeant v0 v1 p22.1 p19.1 p25.1 (v5 + 1) v6 v7 p25.2).bind fun p26 =>
  some ((v7 * p26.1) + ((10 - v7) * p8.1), p26.2))
  else
  (some (10 * p8.1, p11.2))))
  else
  (if v2 = 0 then
  (some (1, h))
  else
  (some (0, h)))
theorem obX9_partsMeant_g {RX9_partsMeant : Nat → Int32 → Int32 → Int32 → Int32 → Int32 → Int32 → Int32 → qH → Option (Int32 × qH)} {n : Nat} {v0 : Nat} {v1 : Int32} {v2 : Int32} {v3 : Int32} {v4 : Int32} {v5 : Int32} {v6 : Int32} {v7 : Int32} {h : qH} {p : Int32 × qH} (hyp : fX9_partsMeant_g RX9_partsMeant n v0 v1 v2 v3 v4 v5 v6 v7 h = some p) : ∃ fs, h.1 v0 = some (.inr (9, fs)) := by
  unfold fX9_partsMeant_g at hyp
  exact q_bind hyp (fun _ e _ => isO_some e)
set_option maxHeartbeats 4000000 in
set_option maxRecDepth 100000 in
theorem okX9_partsMeant_g {l : Launch} {RX9_partsMeant : Nat → Int32 → Int32 → Int32 → Int32 → Int32 → Int32 → Int32 → qH → Option (Int32 × qH)} {dR0 d : Nat} {n : Nat} {v0 : Nat} {v1 : Int32} {v2 : Int32} {v3 : Int32} {v4 : Int32} {v5 : Int32} {v6 : Int32} {v7 : Int32} {h : qH} {p : Int32 × qH} (hRX9_partsMeant : ∀ {v0 : Nat} {v1 : Int32} {v2 : Int32} {v3 : Int32} {v4 : Int32} {v5 : Int32} {v6 : Int32} {v7 : Int32} {h : qH} {p : Int32 × qH}, RX9_partsMeant v0 v1 v2 v3 v4 v5 v6 v7 h = some p → q_M l dR0 yX9_partsMeant cX9_partsMeant 13 (some .int) [.ref v0, .int v1, .int v2, .int v3, .int v4, .int v5, .int v6, .int v7] h (some (.int p.1)) p.2 ∧ ∃ fs, h.1 v0 = some (.inr (9, fs))) (hd1_0 : dR0 + 1 ≤ d) (hd2 : 4 ≤ d) (hyp : fX9_partsMeant_g RX9_partsMeant n v0 v1 v2 v3 v4 v5 v6 v7 h = some p) : q_M l d yX9_partsMeant cX9_partsMeant 13 (some .int) [.ref v0, .int v1, .int v2, .int v3, .int v4, .int v5, .int v6, .int v7] h (some (.int p.1)) p.2 := by
  obtain ⟨r, h'⟩ := p
  unfold fX9_partsMeant_g at hyp
  refine q_bind hyp (fun _ _ hyp => ?_)
  refine q_M.of (by decide) (Nat.le_of_ble_eq_true rfl) ?_
  refine q_to (ls' := [(0, .ref v0), (1, .int v1), (2, .int v2), (3, .int v3), (4, .int v4), (5, .int v5), (6, .int v6), (7, .int v7)]) (st' := []) rfl rfl ?_
  refine q_iload 5 rfl dX9_partsMeant_0 ?_
  refine q_iload 6 rfl dX9_partsMeant_2 ?_
  refine q_icmp_lt (tgt := 17) dX9_partsMeant_4 (by decide) (fun c1 => ?_) (fun c1 => ?_)
  · have hyp := q_pos c1 hyp
    refine q_aload_n 0 rfl dX9_partsMeant_17 ?_
    refine q_iload_n 1 rfl dX9_partsMeant_18 ?_
    refine q_aload_n 0 rfl dX9_partsMeant_19 ?_
    refine q_bind hyp (fun x2 e3 hyp => ?_)
    refine q_getR kF_X9_28 dX9_partsMeant_20 e3 ?_
    refine q_iload_n 1 rfl dX9_partsMeant_23 ?_
    refine q_iload_n 2 rfl dX9_partsMeant_24 ?_
    refine q_iload_n 3 rfl dX9_partsMeant_25 ?_
    refine q_bind hyp (fun p4 e35 hyp => ?_)
    refine q_callV (as := [.int v1, .int v2, .int v3]) (st := [.int v1, .ref v0]) kY_X5_sourAfterYear kL_X9_249 (okX5_sourAfterYear (l := l) e35) (Nat.le_trans (by decide) hd2) rfl (obX5_sourAfterYear e35) (Nat.le_of_ble_eq_true rfl) dX9_partsMeant_26 ?_
    refine q_to (ls' := [(0, .ref v0), (1, .int v1), (2, .int v2), (3, .int v3), (4, .int v4), (5, .int v5), (6, .int v6), (7, .int v7)]) (st' := [.int p4.1, .int v1, .ref v0]) rfl rfl ?_
    refine q_iload_n 3 rfl dX9_partsMeant_29 ?_
    refine q_aload_n 0 rfl dX9_partsMeant_30 ?_
    refine q_bind hyp (fun x5 e6 hyp => ?_)
    refine q_getR kF_X9_28 dX9_partsMeant_31 e6 ?_
    refine q_iload 4 rfl dX9_partsMeant_34 ?_
    refine q_bind hyp (fun p7 e34 hyp => ?_)
    refine q_callV (as := [.int v4]) (st := [.int v3, .int p4.1, .int v1, .ref v0]) kY_X5_potAfterYear kL_X9_253 (okX5_potAfterYear (l := l) e34) (Nat.le_trans (by decide) hd2) rfl (obX5_potAfterYear e34) (Nat.le_of_ble_eq_true rfl) dX9_partsMeant_36 ?_
    refine q_to (ls' := [(0, .ref v0), (1, .int v1), (2, .int v2), (3, .int v3), (4, .int v4), (5, .int v5), (6, .int v6), (7, .int v7)]) (st' := [.int p7.1, .int v3, .int p4.1, .int v1, .ref v0]) rfl rfl ?_
    refine q_iload 5 rfl dX9_partsMeant_39 ?_
    refine q_iconst (x := 1) rfl dX9_partsMeant_41 ?_
    refine q_iadd dX9_partsMeant_42 ?_
    refine q_iload 6 rfl dX9_partsMeant_43 ?_
    refine q_iload 7 rfl dX9_partsMeant_45 ?_
    refine q_bind hyp (fun p8 e33 hyp => ?_)
    refine q_callV (as := [.int v1, .int p4.1, .int v3, .int p7.1, .int (v5 + 1), .int v6, .int v7]) (st := []) kY_X9_partsMeant kL_X9_295 (hRX9_partsMeant e33).1 hd1_0 rfl (hRX9_partsMeant e33).2 (Nat.le_of_ble_eq_true rfl) dX9_partsMeant_47 ?_
    refine q_to (ls' := [(0, .ref v0), (1, .int v1), (2, .int v2), (3, .int v3), (4, .int v4), (5, .int v5), (6, .int v6), (7, .int v7)]) (st' := [.int p8.1]) rfl rfl ?_
    refine q_istore (ls' := [(8, .int p8.1), (0, .ref v0), (1, .int v1), (2, .int v2), (3, .int v3), (4, .int v4), (5, .int v5), (6, .int v6), (7, .int v7)]) (by decide) rfl dX9_partsMeant_50 ?_
    refine q_aload_n 1 rfl dX9_partsMeant_52 ?_
    refine q_bind hyp (fun x9 e10 hyp => ?_)
    refine q_getR kF_X9_28 dX9_partsMeant_53 e10 ?_
    refine q_iload_n 2 rfl dX9_partsMeant_56 ?_
    refine q_bind hyp (fun p11 e32 hyp => ?_)
    refine q_callV (as := [.int v1]) (st := []) kY_X5_price kL_X9_217 (okX5_price (l := l) e32) (Nat.le_trans (by decide) hd2) rfl (obX5_price e32) (Nat.le_of_ble_eq_true rfl) dX9_partsMeant_57 ?_
    refine q_to (ls' := [(8, .int p8.1), (0, .ref v0), (1, .int v1), (2, .int v2), (3, .int v3), (4, .int v4), (5, .int v5), (6, .int v6), (7, .int v7)]) (st' := [.int p11.1]) rfl rfl ?_
    refine q_istore (ls' := [(9, .int p11.1), (8, .int p8.1), (0, .ref v0), (1, .int v1), (2, .int v2), (3, .int v3), (4, .int v4), (5, .int v5), (6, .int v6), (7, .int v7)]) (by decide) rfl dX9_partsMeant_60 ?_
    refine q_iload 9 rfl dX9_partsMeant_62 ?_
    refine q_if_eq (tgt := 74) dX9_partsMeant_64 (by decide) (fun c12 => ?_) (fun c12 => ?_)
    · have hyp := q_pos c12 hyp
      refine q_bipush (x := 10) (by decide) dX9_partsMeant_74 ?_
      refine q_iload 1 rfl dX9_partsMeant_76 ?_
      refine q_imul dX9_partsMeant_78 ?_
      exact q_iretH rfl rfl dX9_partsMeant_79 hyp
    · have hyp := q_neg c12 hyp
      refine q_iload 6 rfl dX9_partsMeant_67 ?_
      refine q_iload 0 rfl dX9_partsMeant_69 ?_
      refine q_icmp_ge (tgt := 80) dX9_partsMeant_71 (by decide) (fun c13 => ?_) (fun c13 => ?_)
      · have hyp := q_pos c13 hyp
        refine q_aload_n 2 rfl dX9_partsMeant_80 ?_
        refine q_bind hyp (fun x14 e15 hyp => ?_)
        refine q_getR kF_X9_28 dX9_partsMeant_81 e15 ?_
        refine q_iload_n 3 rfl dX9_partsMeant_84 ?_
        refine q_iload_n 4 rfl dX9_partsMeant_85 ?_
        refine q_iload_n 5 rfl dX9_partsMeant_86 ?_
        refine q_iload 7 rfl dX9_partsMeant_87 ?_
        refine q_bind hyp (fun p16 e31 hyp => ?_)
        refine q_callV (as := [.int v1, .int v2, .int v3, .int v5]) (st := []) kY_X5_sourAfterCoat kL_X9_210 (okX5_sourAfterCoat (l := l) e31) (Nat.le_trans (by decide) hd2) rfl (obX5_sourAfterCoat e31) (Nat.le_of_ble_eq_true rfl) dX9_partsMeant_89 ?_
        refine q_to (ls' := [(9, .int p11.1), (8, .int p8.1), (0, .ref v0), (1, .int v1), (2, .int v2), (3, .int v3), (4, .int v4), (5, .int v5), (6, .int v6), (7, .int v7)]) (st' := [.int p16.1]) rfl rfl ?_
        refine q_istore (ls' := [(10, .int p16.1), (9, .int p11.1), (8, .int p8.1), (0, .ref v0), (1, .int v1), (2, .int v2), (3, .int v3), (4, .int v4), (5, .int v5), (6, .int v6), (7, .int v7)]) (by decide) rfl dX9_partsMeant_92 ?_
        refine q_aload_n 3 rfl dX9_partsMeant_94 ?_
        refine q_bind hyp (fun x17 e18 hyp => ?_)
        refine q_getR kF_X9_28 dX9_partsMeant_95 e18 ?_
        refine q_iload_n 4 rfl dX9_partsMeant_98 ?_
        refine q_iload_n 6 rfl dX9_partsMeant_99 ?_
        refine q_bind hyp (fun p19 e30 hyp => ?_)
        refine q_callV (as := [.int v1, .int v3]) (st := []) kY_X5_coatsAfterCoat kL_X9_299 (okX5_coatsAfterCoat (l := l) e30) (Nat.le_trans (by decide) hd2) rfl (obX5_coatsAfterCoat e30) (Nat.le_of_ble_eq_true rfl) dX9_partsMeant_100 ?_
        refine q_to (ls' := [(10, .int p16.1), (9, .int p11.1), (8, .int p8.1), (0, .ref v0), (1, .int v1), (2, .int v2), (3, .int v3), (4, .int v4), (5, .int v5), (6, .int v6), (7, .int v7)]) (st' := [.int p19.1]) rfl rfl ?_
        refine q_istore (ls' := [(11, .int p19.1), (10, .int p16.1), (9, .int p11.1), (8, .int p8.1), (0, .ref v0), (1, .int v1), (2, .int v2), (3, .int v3), (4, .int v4), (5, .int v5), (6, .int v6), (7, .int v7)]) (by decide) rfl dX9_partsMeant_103 ?_
        refine q_aload_n 4 rfl dX9_partsMeant_105 ?_
        refine q_iload_n 5 rfl dX9_partsMeant_106 ?_
        refine q_aload_n 4 rfl dX9_partsMeant_107 ?_
        refine q_bind hyp (fun x20 e21 hyp => ?_)
        refine q_getR kF_X9_28 dX9_partsMeant_108 e21 ?_
        refine q_iload_n 5 rfl dX9_partsMeant_111 ?_
        refine q_iload 1 rfl dX9_partsMeant_112 ?_
        refine q_iload 0 rfl dX9_partsMeant_114 ?_
        refine q_bind hyp (fun p22 e29 hyp => ?_)
        refine q_callV (as := [.int v1, .int p16.1, .int p19.1]) (st := [.int v1, .ref v0]) kY_X5_sourAfterYear kL_X9_249 (okX5_sourAfterYear (l := l) e29) (Nat.le_trans (by decide) hd2) rfl (obX5_sourAfterYear e29) (Nat.le_of_ble_eq_true rfl) dX9_partsMeant_116 ?_
        refine q_to (ls' := [(11, .int p19.1), (10, .int p16.1), (9, .int p11.1), (8, .int p8.1), (0, .ref v0), (1, .int v1), (2, .int v2), (3, .int v3), (4, .int v4), (5, .int v5), (6, .int v6), (7, .int v7)]) (st' := [.int p22.1, .int v1, .ref v0]) rfl rfl ?_
        refine q_iload 0 rfl dX9_partsMeant_119 ?_
        refine q_aload_n 4 rfl dX9_partsMeant_121 ?_
        refine q_bind hyp (fun x23 e24 hyp => ?_)
        refine q_getR kF_X9_28 dX9_partsMeant_122 e24 ?_
        refine q_iload 8 rfl dX9_partsMeant_125 ?_
        refine q_iload 2 rfl dX9_partsMeant_127 ?_
        refine q_isub dX9_partsMeant_129 ?_
        refine q_bind hyp (fun p25 e28 hyp => ?_)
        refine q_callV (as := [.int (v4 - p11.1)]) (st := [.int p19.1, .int p22.1, .int v1, .ref v0]) kY_X5_potAfterYear kL_X9_253 (okX5_potAfterYear (l := l) e28) (Nat.le_trans (by decide) hd2) rfl (obX5_potAfterYear e28) (Nat.le_of_ble_eq_true rfl) dX9_partsMeant_130 ?_
        refine q_to (ls' := [(11, .int p19.1), (10, .int p16.1), (9, .int p11.1), (8, .int p8.1), (0, .ref v0), (1, .int v1), (2, .int v2), (3, .int v3), (4, .int v4), (5, .int v5), (6, .int v6), (7, .int v7)]) (st' := [.int p25.1, .int p19.1, .int p22.1, .int v1, .ref v0]) rfl rfl ?_
        refine q_iload 9 rfl dX9_partsMeant_133 ?_
        refine q_iconst (x := 1) rfl dX9_partsMeant_135 ?_
        refine q_iadd dX9_partsMeant_136 ?_
        refine q_iload 10 rfl dX9_partsMeant_137 ?_
        refine q_iload 11 rfl dX9_partsMeant_139 ?_
        refine q_bind hyp (fun p26 e27 hyp => ?_)
        refine q_callV (as := [.int v1, .int p22.1, .int p19.1, .int p25.1, .int (v5 + 1), .int v6, .int v7]) (st := []) kY_X9_partsMeant kL_X9_295 (hRX9_partsMeant e27).1 hd1_0 rfl (hRX9_partsMeant e27).2 (Nat.le_of_ble_eq_true rfl) dX9_partsMeant_141 ?_
        refine q_to (ls' := [(11, .int p19.1), (10, .int p16.1), (9, .int p11.1), (8, .int p8.1), (0, .ref v0), (1, .int v1), (2, .int v2), (3, .int v3), (4, .int v4), (5, .int v5), (6, .int v6), (7, .int v7)]) (st' := [.int p26.1]) rfl rfl ?_
        refine q_istore (ls' := [(12, .int p26.1), (11, .int p19.1), (10, .int p16.1), (9, .int p11.1), (8, .int p8.1), (0, .ref v0), (1, .int v1), (2, .int v2), (3, .int v3), (4, .int v4), (5, .int v5), (6, .int v6), (7, .int v7)]) (by decide) rfl dX9_partsMeant_144 ?_
        refine q_iload 12 rfl dX9_partsMeant_146 ?_
        refine q_iload 0 rfl dX9_partsMeant_148 ?_
        refine q_imul dX9_partsMeant_150 ?_
        refine q_bipush (x := 10) (by decide) dX9_partsMeant_151 ?_
        refine q_iload 12 rfl dX9_partsMeant_153 ?_
        refine q_isub dX9_partsMeant_155 ?_
        refine q_iload 4 rfl dX9_partsMeant_156 ?_
        refine q_imul dX9_partsMeant_158 ?_
        refine q_iadd dX9_partsMeant_159 ?_
        exact q_iretH rfl rfl dX9_partsMeant_160 hyp
      · have hyp := q_neg c13 hyp
        refine q_bipush (x := 10) (by decide) dX9_partsMeant_74 ?_
        refine q_iload 1 rfl dX9_partsMeant_76 ?_
        refine q_imul dX9_partsMeant_78 ?_
        exact q_iretH rfl rfl dX9_partsMeant_79 hyp
  · have hyp := q_neg c1 hyp
    refine q_iload_n 2 rfl dX9_partsMeant_7 ?_
    refine q_if_ne (tgt := 15) dX9_partsMeant_8 (by decide) (fun c36 => ?_) (fun c36 => ?_)
    · have hyp := q_neg c36 hyp
      refine q_iconst (x := 0) rfl dX9_partsMeant_15 ?_
      exact q_iretH rfl rfl dX9_partsMeant_16 hyp
    · have hyp := q_pos c36 hyp
      refine q_iconst (x := 1) rfl dX9_partsMeant_11 ?_
      refine q_goto (tgt := 16) dX9_partsMeant_12 (by decide) ?_
      exact q_iretH rfl rfl dX9_partsMeant_16 hyp
def fX9_partsMeant_k (n : Nat) : Nat → Nat → Int32 → Int32 → Int32 → Int32 → Int32 → Int32 → Int32 → qH → Option (Int32 × qH)
  | 0, _, _, _, _, _, _, _, _, _ => none
  | k + 1, v0, v1, v2, v3, v4, v5, v6, v7, h => fX9_partsMeant_g (fX9_partsMeant_k n k) n v0 v1 v2 v3 v4 v5 v6 v7 h
theorem okX9_partsMeant_k {l : Launch} {n : Nat} : ∀ (k : Nat) {v0 : Nat} {v1 : Int32} {v2 : Int32} {v3 : Int32} {v4 : Int32} {v5 : Int32} {v6 : Int32} {v7 : Int32} {h : qH} {p : Int32 × qH}, fX9_partsMeant_k n k v0 v1 v2 v3 v4 v5 v6 v7 h = some p → q_M l (4 + k) yX9_partsMeant cX9_partsMeant 13 (some .int) [.ref v0, .int v1, .int v2, .int v3, .int v4, .int v5, .int v6, .int v7] h (some (.int p.1)) p.2 ∧ ∃ fs, h.1 v0 = some (.inr (9, fs)) := by
  intro k
  induction k with
  | zero => intro v0 v1 v2 v3 v4 v5 v6 v7 h p hyp; unfold fX9_partsMeant_k at hyp; cases hyp
  | succ k ih =>
    intro v0 v1 v2 v3 v4 v5 v6 v7 h p hyp
    unfold fX9_partsMeant_k at hyp
    exact ⟨okX9_partsMeant_g (dR0 := 4 + k) ih (Nat.le_refl _) (Nat.le_add_right _ _) hyp, obX9_partsMeant_g hyp⟩
def fX9_partsMeant (n : Nat) (v0 : Nat) (v1 : Int32) (v2 : Int32) (v3 : Int32) (v4 : Int32) (v5 : Int32) (v6 : Int32) (v7 : Int32) (h : qH) : Option (Int32 × qH) := fX9_partsMeant_k n 10 v0 v1 v2 v3 v4 v5 v6 v7 h
theorem obX9_partsMeant {n : Nat} {v0 : Nat} {v1 : Int32} {v2 : Int32} {v3 : Int32} {v4 : Int32} {v5 : Int32} {v6 : Int32} {v7 : Int32} {h : qH} {p : Int32 × qH} (hyp : fX9_partsMeant n v0 v1 v2 v3 v4 v5 v6 v7 h = some p) : ∃ fs, h.1 v0 = some (.inr (9, fs)) := (okX9_partsMeant_k (l := launch0) 10 hyp).2
theorem okX9_partsMeant {l : Launch} {n : Nat} {v0 : Nat} {v1 : Int32} {v2 : Int32} {v3 : Int32} {v4 : Int32} {v5 : Int32} {v6 : Int32} {v7 : Int32} {h : qH} {p : Int32 × qH} (hyp : fX9_partsMeant n v0 v1 v2 v3 v4 v5 v6 v7 h = some p) : q_M l 14 yX9_partsMeant cX9_partsMeant 13 (some .int) [.ref v0, .int v1, .int v2, .int v3, .int v4, .int v5, .int v6, .int v7] h (some (.int p.1)) p.2 := (okX9_partsMeant_k 10 hyp).1
theorem dX9_chance_0 : decode cX9_chance 0 = .ok (.aload_n 0, 1) := by decide +kernel
theorem dX9_chance_1 : decode cX9_chance 1 = .ok (.iload_n 1, 1) := by decide +kernel
theorem dX9_chance_2 : decode cX9_chance 2 = .ok (.invokevirtual 122, 3) := by decide +kernel
theorem dX9_chance_5 : decode cX9_chance 5 = .ok (.ifCond .eq 23, 3) := by decide +kernel
theorem dX9_chance_8 : decode cX9_chance 8 = .ok (.iload_n 2, 1) := by decide +kernel
theorem dX9_chance_9 : decode cX9_chance 9 = .ok (.iconst 1, 1) := by decide +kernel
theorem dX9_chance_10 : decode cX9_chance 10 = .ok (.bipush 6, 2) := by decide +kernel
theorem dX9_chance_12 : decode cX9_chance 12 = .ok (.invokestatic 180, 3) := by decide +kernel
theorem dX9_chance_15 : decode cX9_chance 15 = .ok (.ifCond .eq 13, 3) := by decide +kernel
theorem dX9_chance_18 : decode cX9_chance 18 = .ok (.iload_n 3, 1) := by decide +kernel
theorem dX9_chance_19 : decode cX9_chance 19 = .ok (.iconst 0, 1) := by decide +kernel
theorem dX9_chance_20 : decode cX9_chance 20 = .ok (.bipush 10, 2) := by decide +kernel
theorem dX9_chance_22 : decode cX9_chance 22 = .ok (.invokestatic 180, 3) := by decide +kernel
theorem dX9_chance_25 : decode cX9_chance 25 = .ok (.ifCond .ne 5, 3) := by decide +kernel
theorem dX9_chance_28 : decode cX9_chance 28 = .ok (.iconst (-1), 1) := by decide +kernel
theorem dX9_chance_29 : decode cX9_chance 29 = .ok (.ireturn, 1) := by decide +kernel
theorem dX9_chance_30 : decode cX9_chance 30 = .ok (.aload_n 0, 1) := by decide +kernel
theorem dX9_chance_31 : decode cX9_chance 31 = .ok (.iload_n 1, 1) := by decide +kernel
theorem dX9_chance_32 : decode cX9_chance 32 = .ok (.aload_n 0, 1) := by decide +kernel
theorem dX9_chance_33 : decode cX9_chance 33 = .ok (.getfield 38, 3) := by decide +kernel
theorem dX9_chance_36 : decode cX9_chance 36 = .ok (.getfield 132, 3) := by decide +kernel
theorem dX9_chance_39 : decode cX9_chance 39 = .ok (.iload_n 1, 1) := by decide +kernel
theorem dX9_chance_40 : decode cX9_chance 40 = .ok (.iaload, 1) := by decide +kernel
theorem dX9_chance_41 : decode cX9_chance 41 = .ok (.aload_n 0, 1) := by decide +kernel
theorem dX9_chance_42 : decode cX9_chance 42 = .ok (.getfield 38, 3) := by decide +kernel
theorem dX9_chance_45 : decode cX9_chance 45 = .ok (.getfield 135, 3) := by decide +kernel
theorem dX9_chance_48 : decode cX9_chance 48 = .ok (.iload_n 1, 1) := by decide +kernel
theorem dX9_chance_49 : decode cX9_chance 49 = .ok (.iaload, 1) := by decide +kernel
theorem dX9_chance_50 : decode cX9_chance 50 = .ok (.aload_n 0, 1) := by decide +kernel
theorem dX9_chance_51 : decode cX9_chance 51 = .ok (.getfield 38, 3) := by decide +kernel
theorem dX9_chance_54 : decode cX9_chance 54 = .ok (.getfield 241, 3) := by decide +kernel
theorem dX9_chance_57 : decode cX9_chance 57 = .ok (.aload_n 0, 1) := by decide +kernel
theorem dX9_chance_58 : decode cX9_chance 58 = .ok (.getfield 38, 3) := by decide +kernel
theorem dX9_chance_61 : decode cX9_chance 61 = .ok (.getfield 207, 3) := by decide +kernel
theorem dX9_chance_64 : decode cX9_chance 64 = .ok (.aload_n 0, 1) := by decide +kernel
theorem dX9_chance_65 : decode cX9_chance 65 = .ok (.getfield 38, 3) := by decide +kernel
theorem dX9_chance_68 : decode cX9_chance 68 = .ok (.getfield 207, 3) := by decide +kernel
theorem dX9_chance_71 : decode cX9_chance 71 = .ok (.iload_n 2, 1) := by decide +kernel
theorem dX9_chance_72 : decode cX9_chance 72 = .ok (.iadd, 1) := by decide +kernel
theorem dX9_chance_73 : decode cX9_chance 73 = .ok (.iload_n 3, 1) := by decide +kernel
theorem dX9_chance_74 : decode cX9_chance 74 = .ok (.invokevirtual 295, 3) := by decide +kernel
theorem dX9_chance_77 : decode cX9_chance 77 = .ok (.istore 4, 2) := by decide +kernel
theorem dX9_chance_79 : decode cX9_chance 79 = .ok (.iload_n 2, 1) := by decide +kernel
theorem dX9_chance_80 : decode cX9_chance 80 = .ok (.istore 5, 2) := by decide +kernel
theorem dX9_chance_82 : decode cX9_chance 82 = .ok (.iload 5, 2) := by decide +kernel
theorem dX9_chance_84 : decode cX9_chance 84 = .ok (.bipush 6, 2) := by decide +kernel
theorem dX9_chance_86 : decode cX9_chance 86 = .ok (.if_icmp .ge 16, 3) := by decide +kernel
theorem dX9_chance_89 : decode cX9_chance 89 = .ok (.iload 4, 2) := by decide +kernel
theorem dX9_chance_91 : decode cX9_chance 91 = .ok (.bipush 10, 2) := by decide +kernel
theorem dX9_chance_93 : decode cX9_chance 93 = .ok (.imul, 1) := by decide +kernel
theorem dX9_chance_94 : decode cX9_chance 94 = .ok (.istore 4, 2) := by decide +kernel
theorem dX9_chance_96 : decode cX9_chance 96 = .ok (.iinc 5 1, 3) := by decide +kernel
theorem dX9_chance_99 : decode cX9_chance 99 = .ok (.goto (-17), 3) := by decide +kernel
theorem dX9_chance_102 : decode cX9_chance 102 = .ok (.iload 4, 2) := by decide +kernel
theorem dX9_chance_104 : decode cX9_chance 104 = .ok (.ireturn, 1) := by decide +kernel
def fX9_chance_b82 (n : Nat) : Nat → Int32 → Int32 → qH → Option (Int32 × qH)
  | 0, _, _, _ => none
  | w + 1, v4, v5, h =>
    if 6 ≤ v5 then
    (some (v4, h))
    else
    (fX9_chance_b82 n w (v4 * 10) (v5 + 1) h)
set_option maxHeartbeats 4000000 in
set_option maxRecDepth 100000 in
theorem okX9_chance_b82 {l : Launch} {n : Nat} {r : Int32} {h' : qH} : ∀ (w : Nat) (v4 : Int32) (v5 : Int32) (h : qH), fX9_chance_b82 n w v4 v5 h = some (r, h') → q_W l 15 yX9_chance cX9_chance 6 (some .int) (some (.int r)) h' 82 [(4, .int v4), (5, .int v5)] [] h := by
  intro w
  induction w with
  | zero => intro v4 v5 h hyp; cases hyp
  | succ w ih =>
    intro v4 v5 h hyp
    unfold fX9_chance_b82 at hyp
    refine q_iload 1 rfl dX9_chance_82 ?_
    refine q_bipush (x := 6) (by decide) dX9_chance_84 ?_
    refine q_icmp_ge (tgt := 102) dX9_chance_86 (by decide) (fun c1 => ?_) (fun c1 => ?_)
    · have hyp := q_pos c1 hyp
      refine q_iload 0 rfl dX9_chance_102 ?_
      exact q_iretH rfl rfl dX9_chance_104 hyp
    · have hyp := q_neg c1 hyp
      refine q_iload 0 rfl dX9_chance_89 ?_
      refine q_bipush (x := 10) (by decide) dX9_chance_91 ?_
      refine q_imul dX9_chance_93 ?_
      refine q_istore (ls' := [(4, .int (v4 * 10)), (5, .int v5)]) (by decide) rfl dX9_chance_94 ?_
      refine q_iinc (ls' := [(5, .int (v5 + 1)), (4, .int (v4 * 10))]) 1 rfl rfl (by decide) rfl dX9_chance_96 ?_
      refine q_goto (tgt := 82) dX9_chance_99 (by decide) ?_
      exact q_sub [1, 0] rfl (ih (v4 * 10) (v5 + 1) h hyp)
def fX9_chance (n : Nat) (v0 : Nat) (v1 : Int32) (v2 : Int32) (v3 : Int32) (h : qH) : Option (Int32 × qH) :=
  (isO h v0 9).bind fun _ =>
  (fX9_isMatter v0 v1 h).bind fun p1 =>
  if p1.1 = 0 then
  (some ((-1), p1.2))
  else
  ((fX9_within v2 1 6 p1.2).bind fun p3 =>
  if p3.1 = 0 then
  (some ((-1), p3.2))
  else
  ((fX9_within v3 0 10 p3.2).bind fun p5 =>
  if p5.1 = 0 then
  (some ((-1), p5.2))
  else
  ((gR p5.2 v0 9 4).bind fun x7 =>
  (gR p5.2 x7 8 0).bind fun x9 =>
  (aI .int p5.2 x9 v1).bind fun x11 =>
  (gR p5.2 v0 9 4).bind fun x13 =>
  (gR p5.2 x13 8 1).bind fun x15 =>
  (aI .int p5.2 x15 v1).bind fun x17 =>
  (gR p5.2 v0 9 4).bind fun x19 =>
  (gI p5.2 x19 8 2).bind fun x21 =>
  (gR p5.2 v0 9 4).bind fun x23 =>
  (gI p5.2 x23 8 3).bind fun x25 =>
  (gR p5.2 v0 9 4).bind fun x27 =>
  (gI p5.2 x27 8 3).bind fun x29 =>
  (fX9_partsMeant n v0 v1 x11 x17 x21 x25 (x29 + v2) v3 p5.2).bind fun p31 =>
  fX9_chance_b82 n n p31.1 v2 p31.2)))
theorem obX9_chance {n : Nat} {v0 : Nat} {v1 : Int32} {v2 : Int32} {v3 : Int32} {h : qH} {p : Int32 × qH} (hyp : fX9_chance n v0 v1 v2 v3 h = some p) : ∃ fs, h.1 v0 = some (.inr (9, fs)) := by
  unfold fX9_chance at hyp
  exact q_bind hyp (fun _ e _ => isO_some e)
set_option maxHeartbeats 4000000 in
set_option maxRecDepth 100000 in
theorem okX9_chance {l : Launch} {n : Nat} {v0 : Nat} {v1 : Int32} {v2 : Int32} {v3 : Int32} {h : qH} {p : Int32 × qH} (hyp : fX9_chance n v0 v1 v2 v3 h = some p) : q_M l 15 yX9_chance cX9_chance 6 (some .int) [.ref v0, .int v1, .int v2, .int v3] h (some (.int p.1)) p.2 := by
  obtain ⟨r, h'⟩ := p
  unfold fX9_chance at hyp
  refine q_bind hyp (fun _ _ hyp => ?_)
  refine q_M.of (by decide) (Nat.le_of_ble_eq_true rfl) ?_
  refine q_to (ls' := [(0, .ref v0), (1, .int v1), (2, .int v2), (3, .int v3)]) (st' := []) rfl rfl ?_
  refine q_aload_n 0 rfl dX9_chance_0 ?_
  refine q_iload_n 1 rfl dX9_chance_1 ?_
  refine q_bind hyp (fun p1 e35 hyp => ?_)
  refine q_callV (as := [.int v1]) (st := []) kY_X9_isMatter kL_X9_122 (okX9_isMatter (l := l) e35) (by decide) rfl (obX9_isMatter e35) (Nat.le_of_ble_eq_true rfl) dX9_chance_2 ?_
  refine q_to (ls' := [(0, .ref v0), (1, .int v1), (2, .int v2), (3, .int v3)]) (st' := [.int p1.1]) rfl rfl ?_
  refine q_if_eq (tgt := 28) dX9_chance_5 (by decide) (fun c2 => ?_) (fun c2 => ?_)
  · have hyp := q_pos c2 hyp
    refine q_iconst (x := (-1)) rfl dX9_chance_28 ?_
    exact q_iretH rfl rfl dX9_chance_29 hyp
  · have hyp := q_neg c2 hyp
    refine q_iload_n 2 rfl dX9_chance_8 ?_
    refine q_iconst (x := 1) rfl dX9_chance_9 ?_
    refine q_bipush (x := 6) (by decide) dX9_chance_10 ?_
    refine q_bind hyp (fun p3 e34 hyp => ?_)
    refine q_callS (as := [.int v2, .int 1, .int 6]) (st := []) kY_X9_within kS_X9_within kL_X9_180 (okX9_within (l := l) e34) (by decide) rfl (Nat.le_of_ble_eq_true rfl) dX9_chance_12 ?_
    refine q_to (ls' := [(0, .ref v0), (1, .int v1), (2, .int v2), (3, .int v3)]) (st' := [.int p3.1]) rfl rfl ?_
    refine q_if_eq (tgt := 28) dX9_chance_15 (by decide) (fun c4 => ?_) (fun c4 => ?_)
    · have hyp := q_pos c4 hyp
      refine q_iconst (x := (-1)) rfl dX9_chance_28 ?_
      exact q_iretH rfl rfl dX9_chance_29 hyp
    · have hyp := q_neg c4 hyp
      refine q_iload_n 3 rfl dX9_chance_18 ?_
      refine q_iconst (x := 0) rfl dX9_chance_19 ?_
      refine q_bipush (x := 10) (by decide) dX9_chance_20 ?_
      refine q_bind hyp (fun p5 e33 hyp => ?_)
      refine q_callS (as := [.int v3, .int 0, .int 10]) (st := []) kY_X9_within kS_X9_within kL_X9_180 (okX9_within (l := l) e33) (by decide) rfl (Nat.le_of_ble_eq_true rfl) dX9_chance_22 ?_
      refine q_to (ls' := [(0, .ref v0), (1, .int v1), (2, .int v2), (3, .int v3)]) (st' := [.int p5.1]) rfl rfl ?_
      refine q_if_ne (tgt := 30) dX9_chance_25 (by decide) (fun c6 => ?_) (fun c6 => ?_)
      · have hyp := q_neg c6 hyp
        refine q_aload_n 0 rfl dX9_chance_30 ?_
        refine q_iload_n 1 rfl dX9_chance_31 ?_
        refine q_aload_n 0 rfl dX9_chance_32 ?_
        refine q_bind hyp (fun x7 e8 hyp => ?_)
        refine q_getR kF_X9_38 dX9_chance_33 e8 ?_
        refine q_bind hyp (fun x9 e10 hyp => ?_)
        refine q_getR kF_X9_132 dX9_chance_36 e10 ?_
        refine q_iload_n 1 rfl dX9_chance_39 ?_
        refine q_bind hyp (fun x11 e12 hyp => ?_)
        refine q_iald dX9_chance_40 e12 ?_
        refine q_aload_n 0 rfl dX9_chance_41 ?_
        refine q_bind hyp (fun x13 e14 hyp => ?_)
        refine q_getR kF_X9_38 dX9_chance_42 e14 ?_
        refine q_bind hyp (fun x15 e16 hyp => ?_)
        refine q_getR kF_X9_135 dX9_chance_45 e16 ?_
        refine q_iload_n 1 rfl dX9_chance_48 ?_
        refine q_bind hyp (fun x17 e18 hyp => ?_)
        refine q_iald dX9_chance_49 e18 ?_
        refine q_aload_n 0 rfl dX9_chance_50 ?_
        refine q_bind hyp (fun x19 e20 hyp => ?_)
        refine q_getR kF_X9_38 dX9_chance_51 e20 ?_
        refine q_bind hyp (fun x21 e22 hyp => ?_)
        refine q_getI kF_X9_241 dX9_chance_54 e22 ?_
        refine q_aload_n 0 rfl dX9_chance_57 ?_
        refine q_bind hyp (fun x23 e24 hyp => ?_)
        refine q_getR kF_X9_38 dX9_chance_58 e24 ?_
        refine q_bind hyp (fun x25 e26 hyp => ?_)
        refine q_getI kF_X9_207 dX9_chance_61 e26 ?_
        refine q_aload_n 0 rfl dX9_chance_64 ?_
        refine q_bind hyp (fun x27 e28 hyp => ?_)
        refine q_getR kF_X9_38 dX9_chance_65 e28 ?_
        refine q_bind hyp (fun x29 e30 hyp => ?_)
        refine q_getI kF_X9_207 dX9_chance_68 e30 ?_
        refine q_iload_n 2 rfl dX9_chance_71 ?_
        refine q_iadd dX9_chance_72 ?_
        refine q_iload_n 3 rfl dX9_chance_73 ?_
        refine q_bind hyp (fun p31 e32 hyp => ?_)
        refine q_callV (as := [.int v1, .int x11, .int x17, .int x21, .int x25, .int (x29 + v2), .int v3]) (st := []) kY_X9_partsMeant kL_X9_295 (okX9_partsMeant (l := l) e32) (by decide) rfl (obX9_partsMeant e32) (Nat.le_of_ble_eq_true rfl) dX9_chance_74 ?_
        refine q_to (ls' := [(0, .ref v0), (1, .int v1), (2, .int v2), (3, .int v3)]) (st' := [.int p31.1]) rfl rfl ?_
        refine q_istore (ls' := [(4, .int p31.1), (0, .ref v0), (1, .int v1), (2, .int v2), (3, .int v3)]) (by decide) rfl dX9_chance_77 ?_
        refine q_iload_n 3 rfl dX9_chance_79 ?_
        refine q_istore (ls' := [(5, .int v2), (4, .int p31.1), (0, .ref v0), (1, .int v1), (2, .int v2), (3, .int v3)]) (by decide) rfl dX9_chance_80 ?_
        exact q_sub [1, 0] rfl (okX9_chance_b82 _ p31.1 v2 p31.2 hyp)
      · have hyp := q_pos c6 hyp
        refine q_iconst (x := (-1)) rfl dX9_chance_28 ?_
        exact q_iretH rfl rfl dX9_chance_29 hyp
theorem dX9_cheapestOf_0 : decode cX9_cheapestOf 0 = .ok (.iconst (-1), 1) := by decide +kernel
theorem dX9_cheapestOf_1 : decode cX9_cheapestOf 1 = .ok (.istore_n 2, 1) := by decide +kernel
theorem dX9_cheapestOf_2 : decode cX9_cheapestOf 2 = .ok (.iconst 0, 1) := by decide +kernel
theorem dX9_cheapestOf_3 : decode cX9_cheapestOf 3 = .ok (.istore_n 3, 1) := by decide +kernel
theorem dX9_cheapestOf_4 : decode cX9_cheapestOf 4 = .ok (.iload_n 3, 1) := by decide +kernel
theorem dX9_cheapestOf_5 : decode cX9_cheapestOf 5 = .ok (.aload_n 0, 1) := by decide +kernel
theorem dX9_cheapestOf_6 : decode cX9_cheapestOf 6 = .ok (.getfield 28, 3) := by decide +kernel
theorem dX9_cheapestOf_9 : decode cX9_cheapestOf 9 = .ok (.getfield 220, 3) := by decide +kernel
theorem dX9_cheapestOf_12 : decode cX9_cheapestOf 12 = .ok (.if_icmp .ge 50, 3) := by decide +kernel
theorem dX9_cheapestOf_15 : decode cX9_cheapestOf 15 = .ok (.iload_n 1, 1) := by decide +kernel
theorem dX9_cheapestOf_16 : decode cX9_cheapestOf 16 = .ok (.iload_n 3, 1) := by decide +kernel
theorem dX9_cheapestOf_17 : decode cX9_cheapestOf 17 = .ok (.invokestatic 142, 3) := by decide +kernel
theorem dX9_cheapestOf_20 : decode cX9_cheapestOf 20 = .ok (.iconst 1, 1) := by decide +kernel
theorem dX9_cheapestOf_21 : decode cX9_cheapestOf 21 = .ok (.if_icmp .ne 35, 3) := by decide +kernel
theorem dX9_cheapestOf_24 : decode cX9_cheapestOf 24 = .ok (.aload_n 0, 1) := by decide +kernel
theorem dX9_cheapestOf_25 : decode cX9_cheapestOf 25 = .ok (.getfield 75, 3) := by decide +kernel
theorem dX9_cheapestOf_28 : decode cX9_cheapestOf 28 = .ok (.iload_n 3, 1) := by decide +kernel
theorem dX9_cheapestOf_29 : decode cX9_cheapestOf 29 = .ok (.iaload, 1) := by decide +kernel
theorem dX9_cheapestOf_30 : decode cX9_cheapestOf 30 = .ok (.iconst (-1), 1) := by decide +kernel
theorem dX9_cheapestOf_31 : decode cX9_cheapestOf 31 = .ok (.if_icmp .eq 25, 3) := by decide +kernel
theorem dX9_cheapestOf_34 : decode cX9_cheapestOf 34 = .ok (.iload_n 2, 1) := by decide +kernel
theorem dX9_cheapestOf_35 : decode cX9_cheapestOf 35 = .ok (.iconst (-1), 1) := by decide +kernel
theorem dX9_cheapestOf_36 : decode cX9_cheapestOf 36 = .ok (.if_icmp .eq 18, 3) := by decide +kernel
theorem dX9_cheapestOf_39 : decode cX9_cheapestOf 39 = .ok (.aload_n 0, 1) := by decide +kernel
theorem dX9_cheapestOf_40 : decode cX9_cheapestOf 40 = .ok (.getfield 75, 3) := by decide +kernel
theorem dX9_cheapestOf_43 : decode cX9_cheapestOf 43 = .ok (.iload_n 3, 1) := by decide +kernel
theorem dX9_cheapestOf_44 : decode cX9_cheapestOf 44 = .ok (.iaload, 1) := by decide +kernel
theorem dX9_cheapestOf_45 : decode cX9_cheapestOf 45 = .ok (.aload_n 0, 1) := by decide +kernel
theorem dX9_cheapestOf_46 : decode cX9_cheapestOf 46 = .ok (.getfield 75, 3) := by decide +kernel
theorem dX9_cheapestOf_49 : decode cX9_cheapestOf 49 = .ok (.iload_n 2, 1) := by decide +kernel
theorem dX9_cheapestOf_50 : decode cX9_cheapestOf 50 = .ok (.iaload, 1) := by decide +kernel
theorem dX9_cheapestOf_51 : decode cX9_cheapestOf 51 = .ok (.if_icmp .ge 5, 3) := by decide +kernel
theorem dX9_cheapestOf_54 : decode cX9_cheapestOf 54 = .ok (.iload_n 3, 1) := by decide +kernel
theorem dX9_cheapestOf_55 : decode cX9_cheapestOf 55 = .ok (.istore_n 2, 1) := by decide +kernel
theorem dX9_cheapestOf_56 : decode cX9_cheapestOf 56 = .ok (.iinc 3 1, 3) := by decide +kernel
theorem dX9_cheapestOf_59 : decode cX9_cheapestOf 59 = .ok (.goto (-55), 3) := by decide +kernel
theorem dX9_cheapestOf_62 : decode cX9_cheapestOf 62 = .ok (.iload_n 2, 1) := by decide +kernel
theorem dX9_cheapestOf_63 : decode cX9_cheapestOf 63 = .ok (.ireturn, 1) := by decide +kernel
def fX9_cheapestOf_b4 (n : Nat) : Nat → Nat → Int32 → Int32 → Int32 → qH → Option (Int32 × qH)
  | 0, _, _, _, _, _ => none
  | w + 1, v0, v1, v2, v3, h =>
    (gR h v0 9 2).bind fun x1 =>
    (gI h x1 5 6).bind fun x3 =>
    if x3 ≤ v3 then
    (some (v2, h))
    else
    ((fX9_bit v1 v3 h).bind fun p6 =>
    if p6.1 = 1 then
    ((gR p6.2 v0 9 11).bind fun x8 =>
    (aI .int p6.2 x8 v3).bind fun x10 =>
    if x10 = ((-1)) then
    (fX9_cheapestOf_b4 n w v0 v1 v2 (v3 + 1) p6.2)
    else
    (if v2 = ((-1)) then
    (fX9_cheapestOf_b4 n w v0 v1 v3 (v3 + 1) p6.2)
    else
    ((gR p6.2 v0 9 11).bind fun x14 =>
    (aI .int p6.2 x14 v3).bind fun x16 =>
    (gR p6.2 v0 9 11).bind fun x18 =>
    (aI .int p6.2 x18 v2).bind fun x20 =>
    if x20 ≤ x16 then
    (fX9_cheapestOf_b4 n w v0 v1 v2 (v3 + 1) p6.2)
    else
    (fX9_cheapestOf_b4 n w v0 v1 v3 (v3 + 1) p6.2))))
    else
    (fX9_cheapestOf_b4 n w v0 v1 v2 (v3 + 1) p6.2))
set_option maxHeartbeats 4000000 in
set_option maxRecDepth 100000 in
theorem okX9_cheapestOf_b4 {l : Launch} {n : Nat} {r : Int32} {h' : qH} : ∀ (w : Nat) (v0 : Nat) (v1 : Int32) (v2 : Int32) (v3 : Int32) (h : qH), fX9_cheapestOf_b4 n w v0 v1 v2 v3 h = some (r, h') → q_W l 2 yX9_cheapestOf cX9_cheapestOf 4 (some .int) (some (.int r)) h' 4 [(0, .ref v0), (1, .int v1), (2, .int v2), (3, .int v3)] [] h := by
  intro w
  induction w with
  | zero => intro v0 v1 v2 v3 h hyp; cases hyp
  | succ w ih =>
    intro v0 v1 v2 v3 h hyp
    unfold fX9_cheapestOf_b4 at hyp
    refine q_iload_n 3 rfl dX9_cheapestOf_4 ?_
    refine q_aload_n 0 rfl dX9_cheapestOf_5 ?_
    refine q_bind hyp (fun x1 e2 hyp => ?_)
    refine q_getR kF_X9_28 dX9_cheapestOf_6 e2 ?_
    refine q_bind hyp (fun x3 e4 hyp => ?_)
    refine q_getI kF_X9_220 dX9_cheapestOf_9 e4 ?_
    refine q_icmp_ge (tgt := 62) dX9_cheapestOf_12 (by decide) (fun c5 => ?_) (fun c5 => ?_)
    · have hyp := q_pos c5 hyp
      refine q_iload_n 2 rfl dX9_cheapestOf_62 ?_
      exact q_iretH rfl rfl dX9_cheapestOf_63 hyp
    · have hyp := q_neg c5 hyp
      refine q_iload_n 1 rfl dX9_cheapestOf_15 ?_
      refine q_iload_n 3 rfl dX9_cheapestOf_16 ?_
      refine q_bind hyp (fun p6 e23 hyp => ?_)
      refine q_callS (as := [.int v1, .int v3]) (st := []) kY_X9_bit kS_X9_bit kL_X9_142 (okX9_bit (l := l) e23) (by decide) rfl (Nat.le_of_ble_eq_true rfl) dX9_cheapestOf_17 ?_
      refine q_to (ls' := [(0, .ref v0), (1, .int v1), (2, .int v2), (3, .int v3)]) (st' := [.int p6.1]) rfl rfl ?_
      refine q_iconst (x := 1) rfl dX9_cheapestOf_20 ?_
      refine q_icmp_ne (tgt := 56) dX9_cheapestOf_21 (by decide) (fun c7 => ?_) (fun c7 => ?_)
      · have hyp := q_neg c7 hyp
        refine q_iinc (ls' := [(3, .int (v3 + 1)), (0, .ref v0), (1, .int v1), (2, .int v2)]) 3 rfl rfl (by decide) rfl dX9_cheapestOf_56 ?_
        refine q_goto (tgt := 4) dX9_cheapestOf_59 (by decide) ?_
        exact q_sub [1, 2, 3, 0] rfl (ih v0 v1 v2 (v3 + 1) p6.2 hyp)
      · have hyp := q_pos c7 hyp
        refine q_aload_n 0 rfl dX9_cheapestOf_24 ?_
        refine q_bind hyp (fun x8 e9 hyp => ?_)
        refine q_getR kF_X9_75 dX9_cheapestOf_25 e9 ?_
        refine q_iload_n 3 rfl dX9_cheapestOf_28 ?_
        refine q_bind hyp (fun x10 e11 hyp => ?_)
        refine q_iald dX9_cheapestOf_29 e11 ?_
        refine q_iconst (x := (-1)) rfl dX9_cheapestOf_30 ?_
        refine q_icmp_eq (tgt := 56) dX9_cheapestOf_31 (by decide) (fun c12 => ?_) (fun c12 => ?_)
        · have hyp := q_pos c12 hyp
          refine q_iinc (ls' := [(3, .int (v3 + 1)), (0, .ref v0), (1, .int v1), (2, .int v2)]) 3 rfl rfl (by decide) rfl dX9_cheapestOf_56 ?_
          refine q_goto (tgt := 4) dX9_cheapestOf_59 (by decide) ?_
          exact q_sub [1, 2, 3, 0] rfl (ih v0 v1 v2 (v3 + 1) p6.2 hyp)
        · have hyp := q_neg c12 hyp
          refine q_iload_n 2 rfl dX9_cheapestOf_34 ?_
          refine q_iconst (x := (-1)) rfl dX9_cheapestOf_35 ?_
          refine q_icmp_eq (tgt := 54) dX9_cheapestOf_36 (by decide) (fun c13 => ?_) (fun c13 => ?_)
          · have hyp := q_pos c13 hyp
            refine q_iload_n 3 rfl dX9_cheapestOf_54 ?_
            refine q_istore_n (ls' := [(2, .int v3), (0, .ref v0), (1, .int v1), (3, .int v3)]) (by decide) rfl dX9_cheapestOf_55 ?_
            refine q_iinc (ls' := [(3, .int (v3 + 1)), (2, .int v3), (0, .ref v0), (1, .int v1)]) 3 rfl rfl (by decide) rfl dX9_cheapestOf_56 ?_
            refine q_goto (tgt := 4) dX9_cheapestOf_59 (by decide) ?_
            exact q_sub [2, 3, 1, 0] rfl (ih v0 v1 v3 (v3 + 1) p6.2 hyp)
          · have hyp := q_neg c13 hyp
            refine q_aload_n 0 rfl dX9_cheapestOf_39 ?_
            refine q_bind hyp (fun x14 e15 hyp => ?_)
            refine q_getR kF_X9_75 dX9_cheapestOf_40 e15 ?_
            refine q_iload_n 3 rfl dX9_cheapestOf_43 ?_
            refine q_bind hyp (fun x16 e17 hyp => ?_)
            refine q_iald dX9_cheapestOf_44 e17 ?_
            refine q_aload_n 0 rfl dX9_cheapestOf_45 ?_
            refine q_bind hyp (fun x18 e19 hyp => ?_)
            refine q_getR kF_X9_75 dX9_cheapestOf_46 e19 ?_
            refine q_iload_n 2 rfl dX9_cheapestOf_49 ?_
            refine q_bind hyp (fun x20 e21 hyp => ?_)
            refine q_iald dX9_cheapestOf_50 e21 ?_
            refine q_icmp_ge (tgt := 56) dX9_cheapestOf_51 (by decide) (fun c22 => ?_) (fun c22 => ?_)
            · have hyp := q_pos c22 hyp
              refine q_iinc (ls' := [(3, .int (v3 + 1)), (0, .ref v0), (1, .int v1), (2, .int v2)]) 3 rfl rfl (by decide) rfl dX9_cheapestOf_56 ?_
              refine q_goto (tgt := 4) dX9_cheapestOf_59 (by decide) ?_
              exact q_sub [1, 2, 3, 0] rfl (ih v0 v1 v2 (v3 + 1) p6.2 hyp)
            · have hyp := q_neg c22 hyp
              refine q_iload_n 3 rfl dX9_cheapestOf_54 ?_
              refine q_istore_n (ls' := [(2, .int v3), (0, .ref v0), (1, .int v1), (3, .int v3)]) (by decide) rfl dX9_cheapestOf_55 ?_
              refine q_iinc (ls' := [(3, .int (v3 + 1)), (2, .int v3), (0, .ref v0), (1, .int v1)]) 3 rfl rfl (by decide) rfl dX9_cheapestOf_56 ?_
              refine q_goto (tgt := 4) dX9_cheapestOf_59 (by decide) ?_
              exact q_sub [2, 3, 1, 0] rfl (ih v0 v1 v3 (v3 + 1) p6.2 hyp)
def fX9_cheapestOf (n : Nat) (v0 : Nat) (v1 : Int32) (h : qH) : Option (Int32 × qH) :=
  (isO h v0 9).bind fun _ =>
  fX9_cheapestOf_b4 n n v0 v1 ((-1)) 0 h
theorem obX9_cheapestOf {n : Nat} {v0 : Nat} {v1 : Int32} {h : qH} {p : Int32 × qH} (hyp : fX9_cheapestOf n v0 v1 h = some p) : ∃ fs, h.1 v0 = some (.inr (9, fs)) := by
  unfold fX9_cheapestOf at hyp
  exact q_bind hyp (fun _ e _ => isO_some e)
set_option maxHeartbeats 4000000 in
set_option maxRecDepth 100000 in
theorem okX9_cheapestOf {l : Launch} {n : Nat} {v0 : Nat} {v1 : Int32} {h : qH} {p : Int32 × qH} (hyp : fX9_cheapestOf n v0 v1 h = some p) : q_M l 2 yX9_cheapestOf cX9_cheapestOf 4 (some .int) [.ref v0, .int v1] h (some (.int p.1)) p.2 := by
  obtain ⟨r, h'⟩ := p
  unfold fX9_cheapestOf at hyp
  refine q_bind hyp (fun _ _ hyp => ?_)
  refine q_M.of (by decide) (Nat.le_of_ble_eq_true rfl) ?_
  refine q_to (ls' := [(0, .ref v0), (1, .int v1)]) (st' := []) rfl rfl ?_
  refine q_iconst (x := (-1)) rfl dX9_cheapestOf_0 ?_
  refine q_istore_n (ls' := [(2, .int ((-1))), (0, .ref v0), (1, .int v1)]) (by decide) rfl dX9_cheapestOf_1 ?_
  refine q_iconst (x := 0) rfl dX9_cheapestOf_2 ?_
  refine q_istore_n (ls' := [(3, .int 0), (2, .int ((-1))), (0, .ref v0), (1, .int v1)]) (by decide) rfl dX9_cheapestOf_3 ?_
  exact q_sub [2, 3, 1, 0] rfl (okX9_cheapestOf_b4 _ v0 v1 ((-1)) 0 h hyp)
theorem dX9_right_0 : decode cX9_right 0 = .ok (.aload_n 0, 1) := by decide +kernel
theorem dX9_right_1 : decode cX9_right 1 = .ok (.getfield 28, 3) := by decide +kernel
theorem dX9_right_4 : decode cX9_right 4 = .ok (.aload_n 0, 1) := by decide +kernel
theorem dX9_right_5 : decode cX9_right 5 = .ok (.invokevirtual 138, 3) := by decide +kernel
theorem dX9_right_8 : decode cX9_right 8 = .ok (.invokevirtual 198, 3) := by decide +kernel
theorem dX9_right_11 : decode cX9_right 11 = .ok (.ireturn, 1) := by decide +kernel
def fX9_right (n : Nat) (v0 : Nat) (h : qH) : Option (Int32 × qH) :=
  (isO h v0 9).bind fun _ =>
  (gR h v0 9 2).bind fun x1 =>
  (fX9_meant n v0 h).bind fun p3 =>
  (fX5_rightBy n x1 p3.1 p3.2).bind fun p4 =>
  some (p4.1, p4.2)
theorem obX9_right {n : Nat} {v0 : Nat} {h : qH} {p : Int32 × qH} (hyp : fX9_right n v0 h = some p) : ∃ fs, h.1 v0 = some (.inr (9, fs)) := by
  unfold fX9_right at hyp
  exact q_bind hyp (fun _ e _ => isO_some e)
set_option maxHeartbeats 4000000 in
set_option maxRecDepth 100000 in
theorem okX9_right {l : Launch} {n : Nat} {v0 : Nat} {h : qH} {p : Int32 × qH} (hyp : fX9_right n v0 h = some p) : q_M l 3 yX9_right cX9_right 1 (some .int) [.ref v0] h (some (.int p.1)) p.2 := by
  obtain ⟨r, h'⟩ := p
  unfold fX9_right at hyp
  refine q_bind hyp (fun _ _ hyp => ?_)
  refine q_M.of (by decide) (Nat.le_of_ble_eq_true rfl) ?_
  refine q_to (ls' := [(0, .ref v0)]) (st' := []) rfl rfl ?_
  refine q_aload_n 0 rfl dX9_right_0 ?_
  refine q_bind hyp (fun x1 e2 hyp => ?_)
  refine q_getR kF_X9_28 dX9_right_1 e2 ?_
  refine q_aload_n 0 rfl dX9_right_4 ?_
  refine q_bind hyp (fun p3 e6 hyp => ?_)
  refine q_callV (as := []) (st := [.ref x1]) kY_X9_meant kL_X9_138 (okX9_meant (l := l) e6) (by decide) rfl (obX9_meant e6) (Nat.le_of_ble_eq_true rfl) dX9_right_5 ?_
  refine q_to (ls' := [(0, .ref v0)]) (st' := [.int p3.1, .ref x1]) rfl rfl ?_
  refine q_bind hyp (fun p4 e5 hyp => ?_)
  refine q_callV (as := [.int p3.1]) (st := []) kY_X5_rightBy kL_X9_198 (okX5_rightBy (l := l) e5) (by decide) rfl (obX5_rightBy e5) (Nat.le_of_ble_eq_true rfl) dX9_right_8 ?_
  refine q_to (ls' := [(0, .ref v0)]) (st' := [.int p4.1]) rfl rfl ?_
  exact q_iretH rfl rfl dX9_right_11 hyp
theorem dX9_cheapestFor_0 : decode cX9_cheapestFor 0 = .ok (.aload_n 0, 1) := by decide +kernel
theorem dX9_cheapestFor_1 : decode cX9_cheapestFor 1 = .ok (.invokevirtual 146, 3) := by decide +kernel
theorem dX9_cheapestFor_4 : decode cX9_cheapestFor 4 = .ok (.iload_n 1, 1) := by decide +kernel
theorem dX9_cheapestFor_5 : decode cX9_cheapestFor 5 = .ok (.invokestatic 142, 3) := by decide +kernel
theorem dX9_cheapestFor_8 : decode cX9_cheapestFor 8 = .ok (.iconst 1, 1) := by decide +kernel
theorem dX9_cheapestFor_9 : decode cX9_cheapestFor 9 = .ok (.if_icmp .ne 5, 3) := by decide +kernel
theorem dX9_cheapestFor_12 : decode cX9_cheapestFor 12 = .ok (.iload_n 1, 1) := by decide +kernel
theorem dX9_cheapestFor_13 : decode cX9_cheapestFor 13 = .ok (.ireturn, 1) := by decide +kernel
theorem dX9_cheapestFor_14 : decode cX9_cheapestFor 14 = .ok (.aload_n 0, 1) := by decide +kernel
theorem dX9_cheapestFor_15 : decode cX9_cheapestFor 15 = .ok (.aload_n 0, 1) := by decide +kernel
theorem dX9_cheapestFor_16 : decode cX9_cheapestFor 16 = .ok (.getfield 28, 3) := by decide +kernel
theorem dX9_cheapestFor_19 : decode cX9_cheapestFor 19 = .ok (.iload_n 1, 1) := by decide +kernel
theorem dX9_cheapestFor_20 : decode cX9_cheapestFor 20 = .ok (.invokevirtual 229, 3) := by decide +kernel
theorem dX9_cheapestFor_23 : decode cX9_cheapestFor 23 = .ok (.iconst 1, 1) := by decide +kernel
theorem dX9_cheapestFor_24 : decode cX9_cheapestFor 24 = .ok (.iload_n 1, 1) := by decide +kernel
theorem dX9_cheapestFor_25 : decode cX9_cheapestFor 25 = .ok (.ishl, 1) := by decide +kernel
theorem dX9_cheapestFor_26 : decode cX9_cheapestFor 26 = .ok (.ior, 1) := by decide +kernel
theorem dX9_cheapestFor_27 : decode cX9_cheapestFor 27 = .ok (.invokevirtual 232, 3) := by decide +kernel
theorem dX9_cheapestFor_30 : decode cX9_cheapestFor 30 = .ok (.ireturn, 1) := by decide +kernel
def fX9_cheapestFor (n : Nat) (v0 : Nat) (v1 : Int32) (h : qH) : Option (Int32 × qH) :=
  (isO h v0 9).bind fun _ =>
  (fX9_right n v0 h).bind fun p1 =>
  (fX9_bit p1.1 v1 p1.2).bind fun p2 =>
  if p2.1 = 1 then
  (some (v1, p2.2))
  else
  ((gR p2.2 v0 9 2).bind fun x4 =>
  (fX5_fruitBits n x4 v1 p2.2).bind fun p6 =>
  (fX9_cheapestOf n v0 (p6.1 ||| ((1 : Int32) <<< (v1 &&& 31))) p6.2).bind fun p7 =>
  some (p7.1, p7.2))
theorem obX9_cheapestFor {n : Nat} {v0 : Nat} {v1 : Int32} {h : qH} {p : Int32 × qH} (hyp : fX9_cheapestFor n v0 v1 h = some p) : ∃ fs, h.1 v0 = some (.inr (9, fs)) := by
  unfold fX9_cheapestFor at hyp
  exact q_bind hyp (fun _ e _ => isO_some e)
set_option maxHeartbeats 4000000 in
set_option maxRecDepth 100000 in
theorem okX9_cheapestFor {l : Launch} {n : Nat} {v0 : Nat} {v1 : Int32} {h : qH} {p : Int32 × qH} (hyp : fX9_cheapestFor n v0 v1 h = some p) : q_M l 4 yX9_cheapestFor cX9_cheapestFor 2 (some .int) [.ref v0, .int v1] h (some (.int p.1)) p.2 := by
  obtain ⟨r, h'⟩ := p
  unfold fX9_cheapestFor at hyp
  refine q_bind hyp (fun _ _ hyp => ?_)
  refine q_M.of (by decide) (Nat.le_of_ble_eq_true rfl) ?_
  refine q_to (ls' := [(0, .ref v0), (1, .int v1)]) (st' := []) rfl rfl ?_
  refine q_aload_n 0 rfl dX9_cheapestFor_0 ?_
  refine q_bind hyp (fun p1 e11 hyp => ?_)
  refine q_callV (as := []) (st := []) kY_X9_right kL_X9_146 (okX9_right (l := l) e11) (by decide) rfl (obX9_right e11) (Nat.le_of_ble_eq_true rfl) dX9_cheapestFor_1 ?_
  refine q_to (ls' := [(0, .ref v0), (1, .int v1)]) (st' := [.int p1.1]) rfl rfl ?_
  refine q_iload_n 1 rfl dX9_cheapestFor_4 ?_
  refine q_bind hyp (fun p2 e10 hyp => ?_)
  refine q_callS (as := [.int p1.1, .int v1]) (st := []) kY_X9_bit kS_X9_bit kL_X9_142 (okX9_bit (l := l) e10) (by decide) rfl (Nat.le_of_ble_eq_true rfl) dX9_cheapestFor_5 ?_
  refine q_to (ls' := [(0, .ref v0), (1, .int v1)]) (st' := [.int p2.1]) rfl rfl ?_
  refine q_iconst (x := 1) rfl dX9_cheapestFor_8 ?_
  refine q_icmp_ne (tgt := 14) dX9_cheapestFor_9 (by decide) (fun c3 => ?_) (fun c3 => ?_)
  · have hyp := q_neg c3 hyp
    refine q_aload_n 0 rfl dX9_cheapestFor_14 ?_
    refine q_aload_n 0 rfl dX9_cheapestFor_15 ?_
    refine q_bind hyp (fun x4 e5 hyp => ?_)
    refine q_getR kF_X9_28 dX9_cheapestFor_16 e5 ?_
    refine q_iload_n 1 rfl dX9_cheapestFor_19 ?_
    refine q_bind hyp (fun p6 e9 hyp => ?_)
    refine q_callV (as := [.int v1]) (st := [.ref v0]) kY_X5_fruitBits kL_X9_229 (okX5_fruitBits (l := l) e9) (by decide) rfl (obX5_fruitBits e9) (Nat.le_of_ble_eq_true rfl) dX9_cheapestFor_20 ?_
    refine q_to (ls' := [(0, .ref v0), (1, .int v1)]) (st' := [.int p6.1, .ref v0]) rfl rfl ?_
    refine q_iconst (x := 1) rfl dX9_cheapestFor_23 ?_
    refine q_iload_n 1 rfl dX9_cheapestFor_24 ?_
    refine q_ishl dX9_cheapestFor_25 ?_
    refine q_ior dX9_cheapestFor_26 ?_
    refine q_bind hyp (fun p7 e8 hyp => ?_)
    refine q_callV (as := [.int (p6.1 ||| ((1 : Int32) <<< (v1 &&& 31)))]) (st := []) kY_X9_cheapestOf kL_X9_232 (okX9_cheapestOf (l := l) e8) (by decide) rfl (obX9_cheapestOf e8) (Nat.le_of_ble_eq_true rfl) dX9_cheapestFor_27 ?_
    refine q_to (ls' := [(0, .ref v0), (1, .int v1)]) (st' := [.int p7.1]) rfl rfl ?_
    exact q_iretH rfl rfl dX9_cheapestFor_30 hyp
  · have hyp := q_pos c3 hyp
    refine q_iload_n 1 rfl dX9_cheapestFor_12 ?_
    exact q_iretH rfl rfl dX9_cheapestFor_13 hyp
theorem dX9_cheap_0 : decode cX9_cheap 0 = .ok (.aload_n 0, 1) := by decide +kernel
theorem dX9_cheap_1 : decode cX9_cheap 1 = .ok (.iload_n 1, 1) := by decide +kernel
theorem dX9_cheap_2 : decode cX9_cheap 2 = .ok (.invokevirtual 122, 3) := by decide +kernel
theorem dX9_cheap_5 : decode cX9_cheap 5 = .ok (.ifCond .eq 12, 3) := by decide +kernel
theorem dX9_cheap_8 : decode cX9_cheap 8 = .ok (.iload_n 2, 1) := by decide +kernel
theorem dX9_cheap_9 : decode cX9_cheap 9 = .ok (.iconst 0, 1) := by decide +kernel
theorem dX9_cheap_10 : decode cX9_cheap 10 = .ok (.iconst 1, 1) := by decide +kernel
theorem dX9_cheap_11 : decode cX9_cheap 11 = .ok (.invokestatic 180, 3) := by decide +kernel
theorem dX9_cheap_14 : decode cX9_cheap 14 = .ok (.ifCond .ne 6, 3) := by decide +kernel
theorem dX9_cheap_17 : decode cX9_cheap 17 = .ok (.bipush (-2), 2) := by decide +kernel
theorem dX9_cheap_19 : decode cX9_cheap 19 = .ok (.ireturn, 1) := by decide +kernel
theorem dX9_cheap_20 : decode cX9_cheap 20 = .ok (.aload_n 0, 1) := by decide +kernel
theorem dX9_cheap_21 : decode cX9_cheap 21 = .ok (.invokevirtual 223, 3) := by decide +kernel
theorem dX9_cheap_24 : decode cX9_cheap 24 = .ok (.aload_n 0, 1) := by decide +kernel
theorem dX9_cheap_25 : decode cX9_cheap 25 = .ok (.iload_n 1, 1) := by decide +kernel
theorem dX9_cheap_26 : decode cX9_cheap 26 = .ok (.invokevirtual 226, 3) := by decide +kernel
theorem dX9_cheap_29 : decode cX9_cheap 29 = .ok (.istore_n 3, 1) := by decide +kernel
theorem dX9_cheap_30 : decode cX9_cheap 30 = .ok (.iload_n 3, 1) := by decide +kernel
theorem dX9_cheap_31 : decode cX9_cheap 31 = .ok (.iconst (-1), 1) := by decide +kernel
theorem dX9_cheap_32 : decode cX9_cheap 32 = .ok (.if_icmp .ne 6, 3) := by decide +kernel
theorem dX9_cheap_35 : decode cX9_cheap 35 = .ok (.bipush (-2), 2) := by decide +kernel
theorem dX9_cheap_37 : decode cX9_cheap 37 = .ok (.ireturn, 1) := by decide +kernel
theorem dX9_cheap_38 : decode cX9_cheap 38 = .ok (.iload_n 2, 1) := by decide +kernel
theorem dX9_cheap_39 : decode cX9_cheap 39 = .ok (.iconst 1, 1) := by decide +kernel
theorem dX9_cheap_40 : decode cX9_cheap 40 = .ok (.if_icmp .ne 5, 3) := by decide +kernel
theorem dX9_cheap_43 : decode cX9_cheap 43 = .ok (.iload_n 3, 1) := by decide +kernel
theorem dX9_cheap_44 : decode cX9_cheap 44 = .ok (.ireturn, 1) := by decide +kernel
theorem dX9_cheap_45 : decode cX9_cheap 45 = .ok (.aload_n 0, 1) := by decide +kernel
theorem dX9_cheap_46 : decode cX9_cheap 46 = .ok (.invokevirtual 146, 3) := by decide +kernel
theorem dX9_cheap_49 : decode cX9_cheap 49 = .ok (.iload_n 1, 1) := by decide +kernel
theorem dX9_cheap_50 : decode cX9_cheap 50 = .ok (.invokestatic 142, 3) := by decide +kernel
theorem dX9_cheap_53 : decode cX9_cheap 53 = .ok (.iconst 1, 1) := by decide +kernel
theorem dX9_cheap_54 : decode cX9_cheap 54 = .ok (.if_icmp .ne 7, 3) := by decide +kernel
theorem dX9_cheap_57 : decode cX9_cheap 57 = .ok (.iconst 0, 1) := by decide +kernel
theorem dX9_cheap_58 : decode cX9_cheap 58 = .ok (.goto 9, 3) := by decide +kernel
theorem dX9_cheap_61 : decode cX9_cheap 61 = .ok (.aload_n 0, 1) := by decide +kernel
theorem dX9_cheap_62 : decode cX9_cheap 62 = .ok (.getfield 75, 3) := by decide +kernel
theorem dX9_cheap_65 : decode cX9_cheap 65 = .ok (.iload_n 3, 1) := by decide +kernel
theorem dX9_cheap_66 : decode cX9_cheap 66 = .ok (.iaload, 1) := by decide +kernel
theorem dX9_cheap_67 : decode cX9_cheap 67 = .ok (.ireturn, 1) := by decide +kernel
def fX9_cheap (n : Nat) (v0 : Nat) (v1 : Int32) (v2 : Int32) (h : qH) : Option (Int32 × qH) :=
  (isO h v0 9).bind fun _ =>
  (fX9_isMatter v0 v1 h).bind fun p1 =>
  if p1.1 = 0 then
  (some ((-2), p1.2))
  else
  ((fX9_within v2 0 1 p1.2).bind fun p3 =>
  if p3.1 = 0 then
  (some ((-2), p3.2))
  else
  ((fX9_reckonCosts n v0 p3.2).bind fun h5 =>
  (fX9_cheapestFor n v0 v1 h5).bind fun p6 =>
  if p6.1 = ((-1)) then
  (some ((-2), p6.2))
  else
  (if v2 = 1 then
  (some (p6.1, p6.2))
  else
  ((fX9_right n v0 p6.2).bind fun p9 =>
  (fX9_bit p9.1 v1 p9.2).bind fun p10 =>
  if p10.1 = 1 then
  (some (0, p10.2))
  else
  ((gR p10.2 v0 9 11).bind fun x12 =>
  (aI .int p10.2 x12 p6.1).bind fun x14 =>
  some (x14, p10.2))))))
theorem obX9_cheap {n : Nat} {v0 : Nat} {v1 : Int32} {v2 : Int32} {h : qH} {p : Int32 × qH} (hyp : fX9_cheap n v0 v1 v2 h = some p) : ∃ fs, h.1 v0 = some (.inr (9, fs)) := by
  unfold fX9_cheap at hyp
  exact q_bind hyp (fun _ e _ => isO_some e)
set_option maxHeartbeats 4000000 in
set_option maxRecDepth 100000 in
theorem okX9_cheap {l : Launch} {n : Nat} {v0 : Nat} {v1 : Int32} {v2 : Int32} {h : qH} {p : Int32 × qH} (hyp : fX9_cheap n v0 v1 v2 h = some p) : q_M l 6 yX9_cheap cX9_cheap 4 (some .int) [.ref v0, .int v1, .int v2] h (some (.int p.1)) p.2 := by
  obtain ⟨r, h'⟩ := p
  unfold fX9_cheap at hyp
  refine q_bind hyp (fun _ _ hyp => ?_)
  refine q_M.of (by decide) (Nat.le_of_ble_eq_true rfl) ?_
  refine q_to (ls' := [(0, .ref v0), (1, .int v1), (2, .int v2)]) (st' := []) rfl rfl ?_
  refine q_aload_n 0 rfl dX9_cheap_0 ?_
  refine q_iload_n 1 rfl dX9_cheap_1 ?_
  refine q_bind hyp (fun p1 e21 hyp => ?_)
  refine q_callV (as := [.int v1]) (st := []) kY_X9_isMatter kL_X9_122 (okX9_isMatter (l := l) e21) (by decide) rfl (obX9_isMatter e21) (Nat.le_of_ble_eq_true rfl) dX9_cheap_2 ?_
  refine q_to (ls' := [(0, .ref v0), (1, .int v1), (2, .int v2)]) (st' := [.int p1.1]) rfl rfl ?_
  refine q_if_eq (tgt := 17) dX9_cheap_5 (by decide) (fun c2 => ?_) (fun c2 => ?_)
  · have hyp := q_pos c2 hyp
    refine q_bipush (x := (-2)) (by decide) dX9_cheap_17 ?_
    exact q_iretH rfl rfl dX9_cheap_19 hyp
  · have hyp := q_neg c2 hyp
    refine q_iload_n 2 rfl dX9_cheap_8 ?_
    refine q_iconst (x := 0) rfl dX9_cheap_9 ?_
    refine q_iconst (x := 1) rfl dX9_cheap_10 ?_
    refine q_bind hyp (fun p3 e20 hyp => ?_)
    refine q_callS (as := [.int v2, .int 0, .int 1]) (st := []) kY_X9_within kS_X9_within kL_X9_180 (okX9_within (l := l) e20) (by decide) rfl (Nat.le_of_ble_eq_true rfl) dX9_cheap_11 ?_
    refine q_to (ls' := [(0, .ref v0), (1, .int v1), (2, .int v2)]) (st' := [.int p3.1]) rfl rfl ?_
    refine q_if_ne (tgt := 20) dX9_cheap_14 (by decide) (fun c4 => ?_) (fun c4 => ?_)
    · have hyp := q_neg c4 hyp
      refine q_aload_n 0 rfl dX9_cheap_20 ?_
      refine q_bind hyp (fun h5 e19 hyp => ?_)
      refine q_callV (as := []) (st := []) kY_X9_reckonCosts kL_X9_223 (okX9_reckonCosts (l := l) e19) (by decide) rfl (obX9_reckonCosts e19) (Nat.le_of_ble_eq_true rfl) dX9_cheap_21 ?_
      refine q_to (ls' := [(0, .ref v0), (1, .int v1), (2, .int v2)]) (st' := []) rfl rfl ?_
      refine q_aload_n 0 rfl dX9_cheap_24 ?_
      refine q_iload_n 1 rfl dX9_cheap_25 ?_
      refine q_bind hyp (fun p6 e18 hyp => ?_)
      refine q_callV (as := [.int v1]) (st := []) kY_X9_cheapestFor kL_X9_226 (okX9_cheapestFor (l := l) e18) (by decide) rfl (obX9_cheapestFor e18) (Nat.le_of_ble_eq_true rfl) dX9_cheap_26 ?_
      refine q_to (ls' := [(0, .ref v0), (1, .int v1), (2, .int v2)]) (st' := [.int p6.1]) rfl rfl ?_
      refine q_istore_n (ls' := [(3, .int p6.1), (0, .ref v0), (1, .int v1), (2, .int v2)]) (by decide) rfl dX9_cheap_29 ?_
      refine q_iload_n 0 rfl dX9_cheap_30 ?_
      refine q_iconst (x := (-1)) rfl dX9_cheap_31 ?_
      refine q_icmp_ne (tgt := 38) dX9_cheap_32 (by decide) (fun c7 => ?_) (fun c7 => ?_)
      · have hyp := q_neg c7 hyp
        refine q_iload_n 3 rfl dX9_cheap_38 ?_
        refine q_iconst (x := 1) rfl dX9_cheap_39 ?_
        refine q_icmp_ne (tgt := 45) dX9_cheap_40 (by decide) (fun c8 => ?_) (fun c8 => ?_)
        · have hyp := q_neg c8 hyp
          refine q_aload_n 1 rfl dX9_cheap_45 ?_
          refine q_bind hyp (fun p9 e17 hyp => ?_)
          refine q_callV (as := []) (st := []) kY_X9_right kL_X9_146 (okX9_right (l := l) e17) (by decide) rfl (obX9_right e17) (Nat.le_of_ble_eq_true rfl) dX9_cheap_46 ?_
          refine q_to (ls' := [(3, .int p6.1), (0, .ref v0), (1, .int v1), (2, .int v2)]) (st' := [.int p9.1]) rfl rfl ?_
          refine q_iload_n 2 rfl dX9_cheap_49 ?_
          refine q_bind hyp (fun p10 e16 hyp => ?_)
          refine q_callS (as := [.int p9.1, .int v1]) (st := []) kY_X9_bit kS_X9_bit kL_X9_142 (okX9_bit (l := l) e16) (by decide) rfl (Nat.le_of_ble_eq_true rfl) dX9_cheap_50 ?_
          refine q_to (ls' := [(3, .int p6.1), (0, .ref v0), (1, .int v1), (2, .int v2)]) (st' := [.int p10.1]) rfl rfl ?_
          refine q_iconst (x := 1) rfl dX9_cheap_53 ?_
          refine q_icmp_ne (tgt := 61) dX9_cheap_54 (by decide) (fun c11 => ?_) (fun c11 => ?_)
          · have hyp := q_neg c11 hyp
            refine q_aload_n 1 rfl dX9_cheap_61 ?_
            refine q_bind hyp (fun x12 e13 hyp => ?_)
            refine q_getR kF_X9_75 dX9_cheap_62 e13 ?_
            refine q_iload_n 0 rfl dX9_cheap_65 ?_
            refine q_bind hyp (fun x14 e15 hyp => ?_)
            refine q_iald dX9_cheap_66 e15 ?_
            exact q_iretH rfl rfl dX9_cheap_67 hyp
          · have hyp := q_pos c11 hyp
            refine q_iconst (x := 0) rfl dX9_cheap_57 ?_
            refine q_goto (tgt := 67) dX9_cheap_58 (by decide) ?_
            exact q_iretH rfl rfl dX9_cheap_67 hyp
        · have hyp := q_pos c8 hyp
          refine q_iload_n 0 rfl dX9_cheap_43 ?_
          exact q_iretH rfl rfl dX9_cheap_44 hyp
      · have hyp := q_pos c7 hyp
        refine q_bipush (x := (-2)) (by decide) dX9_cheap_35 ?_
        exact q_iretH rfl rfl dX9_cheap_37 hyp
    · have hyp := q_pos c4 hyp
      refine q_bipush (x := (-2)) (by decide) dX9_cheap_17 ?_
      exact q_iretH rfl rfl dX9_cheap_19 hyp
theorem dX9_cost_0 : decode cX9_cost 0 = .ok (.aload_n 0, 1) := by decide +kernel
theorem dX9_cost_1 : decode cX9_cost 1 = .ok (.iload_n 1, 1) := by decide +kernel
theorem dX9_cost_2 : decode cX9_cost 2 = .ok (.invokevirtual 122, 3) := by decide +kernel
theorem dX9_cost_5 : decode cX9_cost 5 = .ok (.ifCond .eq 16, 3) := by decide +kernel
theorem dX9_cost_8 : decode cX9_cost 8 = .ok (.aload_n 0, 1) := by decide +kernel
theorem dX9_cost_9 : decode cX9_cost 9 = .ok (.iload_n 1, 1) := by decide +kernel
theorem dX9_cost_10 : decode cX9_cost 10 = .ok (.aload_n 0, 1) := by decide +kernel
theorem dX9_cost_11 : decode cX9_cost 11 = .ok (.iload_n 1, 1) := by decide +kernel
theorem dX9_cost_12 : decode cX9_cost 12 = .ok (.invokevirtual 204, 3) := by decide +kernel
theorem dX9_cost_15 : decode cX9_cost 15 = .ok (.invokevirtual 214, 3) := by decide +kernel
theorem dX9_cost_18 : decode cX9_cost 18 = .ok (.goto 4, 3) := by decide +kernel
theorem dX9_cost_21 : decode cX9_cost 21 = .ok (.iconst (-1), 1) := by decide +kernel
theorem dX9_cost_22 : decode cX9_cost 22 = .ok (.ireturn, 1) := by decide +kernel
def fX9_cost (n : Nat) (v0 : Nat) (v1 : Int32) (h : qH) : Option (Int32 × qH) :=
  (isO h v0 9).bind fun _ =>
  (fX9_isMatter v0 v1 h).bind fun p1 =>
  if p1.1 = 0 then
  (some ((-1), p1.2))
  else
  ((fX9_coatsWanted n v0 v1 p1.2).bind fun p3 =>
  (fX9_mustardFor v0 v1 p3.1 p3.2).bind fun p4 =>
  some (p4.1, p4.2))
theorem obX9_cost {n : Nat} {v0 : Nat} {v1 : Int32} {h : qH} {p : Int32 × qH} (hyp : fX9_cost n v0 v1 h = some p) : ∃ fs, h.1 v0 = some (.inr (9, fs)) := by
  unfold fX9_cost at hyp
  exact q_bind hyp (fun _ e _ => isO_some e)
set_option maxHeartbeats 4000000 in
set_option maxRecDepth 100000 in
theorem okX9_cost {l : Launch} {n : Nat} {v0 : Nat} {v1 : Int32} {h : qH} {p : Int32 × qH} (hyp : fX9_cost n v0 v1 h = some p) : q_M l 5 yX9_cost cX9_cost 2 (some .int) [.ref v0, .int v1] h (some (.int p.1)) p.2 := by
  obtain ⟨r, h'⟩ := p
  unfold fX9_cost at hyp
  refine q_bind hyp (fun _ _ hyp => ?_)
  refine q_M.of (by decide) (Nat.le_of_ble_eq_true rfl) ?_
  refine q_to (ls' := [(0, .ref v0), (1, .int v1)]) (st' := []) rfl rfl ?_
  refine q_aload_n 0 rfl dX9_cost_0 ?_
  refine q_iload_n 1 rfl dX9_cost_1 ?_
  refine q_bind hyp (fun p1 e7 hyp => ?_)
  refine q_callV (as := [.int v1]) (st := []) kY_X9_isMatter kL_X9_122 (okX9_isMatter (l := l) e7) (by decide) rfl (obX9_isMatter e7) (Nat.le_of_ble_eq_true rfl) dX9_cost_2 ?_
  refine q_to (ls' := [(0, .ref v0), (1, .int v1)]) (st' := [.int p1.1]) rfl rfl ?_
  refine q_if_eq (tgt := 21) dX9_cost_5 (by decide) (fun c2 => ?_) (fun c2 => ?_)
  · have hyp := q_pos c2 hyp
    refine q_iconst (x := (-1)) rfl dX9_cost_21 ?_
    exact q_iretH rfl rfl dX9_cost_22 hyp
  · have hyp := q_neg c2 hyp
    refine q_aload_n 0 rfl dX9_cost_8 ?_
    refine q_iload_n 1 rfl dX9_cost_9 ?_
    refine q_aload_n 0 rfl dX9_cost_10 ?_
    refine q_iload_n 1 rfl dX9_cost_11 ?_
    refine q_bind hyp (fun p3 e6 hyp => ?_)
    refine q_callV (as := [.int v1]) (st := [.int v1, .ref v0]) kY_X9_coatsWanted kL_X9_204 (okX9_coatsWanted (l := l) e6) (by decide) rfl (obX9_coatsWanted e6) (Nat.le_of_ble_eq_true rfl) dX9_cost_12 ?_
    refine q_to (ls' := [(0, .ref v0), (1, .int v1)]) (st' := [.int p3.1, .int v1, .ref v0]) rfl rfl ?_
    refine q_bind hyp (fun p4 e5 hyp => ?_)
    refine q_callV (as := [.int v1, .int p3.1]) (st := []) kY_X9_mustardFor kL_X9_214 (okX9_mustardFor (l := l) e5) (by decide) rfl (obX9_mustardFor e5) (Nat.le_of_ble_eq_true rfl) dX9_cost_15 ?_
    refine q_to (ls' := [(0, .ref v0), (1, .int v1)]) (st' := [.int p4.1]) rfl rfl ?_
    refine q_goto (tgt := 22) dX9_cost_18 (by decide) ?_
    exact q_iretH rfl rfl dX9_cost_22 hyp
theorem dX9_sumOf_0 : decode cX9_sumOf 0 = .ok (.iconst 0, 1) := by decide +kernel
theorem dX9_sumOf_1 : decode cX9_sumOf 1 = .ok (.istore_n 2, 1) := by decide +kernel
theorem dX9_sumOf_2 : decode cX9_sumOf 2 = .ok (.iconst 0, 1) := by decide +kernel
theorem dX9_sumOf_3 : decode cX9_sumOf 3 = .ok (.istore_n 3, 1) := by decide +kernel
theorem dX9_sumOf_4 : decode cX9_sumOf 4 = .ok (.iload_n 3, 1) := by decide +kernel
theorem dX9_sumOf_5 : decode cX9_sumOf 5 = .ok (.aload_n 0, 1) := by decide +kernel
theorem dX9_sumOf_6 : decode cX9_sumOf 6 = .ok (.getfield 28, 3) := by decide +kernel
theorem dX9_sumOf_9 : decode cX9_sumOf 9 = .ok (.getfield 220, 3) := by decide +kernel
theorem dX9_sumOf_12 : decode cX9_sumOf 12 = .ok (.if_icmp .ge 21, 3) := by decide +kernel
theorem dX9_sumOf_15 : decode cX9_sumOf 15 = .ok (.iload_n 3, 1) := by decide +kernel
theorem dX9_sumOf_16 : decode cX9_sumOf 16 = .ok (.aload_n 1, 1) := by decide +kernel
theorem dX9_sumOf_17 : decode cX9_sumOf 17 = .ok (.arraylength, 1) := by decide +kernel
theorem dX9_sumOf_18 : decode cX9_sumOf 18 = .ok (.if_icmp .ge 15, 3) := by decide +kernel
theorem dX9_sumOf_21 : decode cX9_sumOf 21 = .ok (.iload_n 2, 1) := by decide +kernel
theorem dX9_sumOf_22 : decode cX9_sumOf 22 = .ok (.aload_n 1, 1) := by decide +kernel
theorem dX9_sumOf_23 : decode cX9_sumOf 23 = .ok (.iload_n 3, 1) := by decide +kernel
theorem dX9_sumOf_24 : decode cX9_sumOf 24 = .ok (.iaload, 1) := by decide +kernel
theorem dX9_sumOf_25 : decode cX9_sumOf 25 = .ok (.iadd, 1) := by decide +kernel
theorem dX9_sumOf_26 : decode cX9_sumOf 26 = .ok (.istore_n 2, 1) := by decide +kernel
theorem dX9_sumOf_27 : decode cX9_sumOf 27 = .ok (.iinc 3 1, 3) := by decide +kernel
theorem dX9_sumOf_30 : decode cX9_sumOf 30 = .ok (.goto (-26), 3) := by decide +kernel
theorem dX9_sumOf_33 : decode cX9_sumOf 33 = .ok (.iload_n 2, 1) := by decide +kernel
theorem dX9_sumOf_34 : decode cX9_sumOf 34 = .ok (.ireturn, 1) := by decide +kernel
def fX9_sumOf_b4 (n : Nat) : Nat → Nat → Nat → Int32 → Int32 → qH → Option (Int32 × qH)
  | 0, _, _, _, _, _ => none
  | w + 1, v0, v1, v2, v3, h =>
    (gR h v0 9 2).bind fun x1 =>
    (gI h x1 5 6).bind fun x3 =>
    if x3 ≤ v3 then
    (some (v2, h))
    else
    ((aN h v1).bind fun x6 =>
    if x6 ≤ v3 then
    (some (v2, h))
    else
    ((aI .int h v1 v3).bind fun x9 =>
    fX9_sumOf_b4 n w v0 v1 (v2 + x9) (v3 + 1) h))
set_option maxHeartbeats 4000000 in
set_option maxRecDepth 100000 in
theorem okX9_sumOf_b4 {l : Launch} {n : Nat} {r : Int32} {h' : qH} : ∀ (w : Nat) (v0 : Nat) (v1 : Nat) (v2 : Int32) (v3 : Int32) (h : qH), fX9_sumOf_b4 n w v0 v1 v2 v3 h = some (r, h') → q_W l 1 yX9_sumOf cX9_sumOf 4 (some .int) (some (.int r)) h' 4 [(0, .ref v0), (1, .ref v1), (2, .int v2), (3, .int v3)] [] h := by
  intro w
  induction w with
  | zero => intro v0 v1 v2 v3 h hyp; cases hyp
  | succ w ih =>
    intro v0 v1 v2 v3 h hyp
    unfold fX9_sumOf_b4 at hyp
    refine q_iload_n 3 rfl dX9_sumOf_4 ?_
    refine q_aload_n 0 rfl dX9_sumOf_5 ?_
    refine q_bind hyp (fun x1 e2 hyp => ?_)
    refine q_getR kF_X9_28 dX9_sumOf_6 e2 ?_
    refine q_bind hyp (fun x3 e4 hyp => ?_)
    refine q_getI kF_X9_220 dX9_sumOf_9 e4 ?_
    refine q_icmp_ge (tgt := 33) dX9_sumOf_12 (by decide) (fun c5 => ?_) (fun c5 => ?_)
    · have hyp := q_pos c5 hyp
      refine q_iload_n 2 rfl dX9_sumOf_33 ?_
      exact q_iretH rfl rfl dX9_sumOf_34 hyp
    · have hyp := q_neg c5 hyp
      refine q_iload_n 3 rfl dX9_sumOf_15 ?_
      refine q_aload_n 1 rfl dX9_sumOf_16 ?_
      refine q_bind hyp (fun x6 e7 hyp => ?_)
      refine q_alen dX9_sumOf_17 e7 ?_
      refine q_icmp_ge (tgt := 33) dX9_sumOf_18 (by decide) (fun c8 => ?_) (fun c8 => ?_)
      · have hyp := q_pos c8 hyp
        refine q_iload_n 2 rfl dX9_sumOf_33 ?_
        exact q_iretH rfl rfl dX9_sumOf_34 hyp
      · have hyp := q_neg c8 hyp
        refine q_iload_n 2 rfl dX9_sumOf_21 ?_
        refine q_aload_n 1 rfl dX9_sumOf_22 ?_
        refine q_iload_n 3 rfl dX9_sumOf_23 ?_
        refine q_bind hyp (fun x9 e10 hyp => ?_)
        refine q_iald dX9_sumOf_24 e10 ?_
        refine q_iadd dX9_sumOf_25 ?_
        refine q_istore_n (ls' := [(2, .int (v2 + x9)), (0, .ref v0), (1, .ref v1), (3, .int v3)]) (by decide) rfl dX9_sumOf_26 ?_
        refine q_iinc (ls' := [(3, .int (v3 + 1)), (2, .int (v2 + x9)), (0, .ref v0), (1, .ref v1)]) 3 rfl rfl (by decide) rfl dX9_sumOf_27 ?_
        refine q_goto (tgt := 4) dX9_sumOf_30 (by decide) ?_
        exact q_sub [2, 3, 1, 0] rfl (ih v0 v1 (v2 + x9) (v3 + 1) h hyp)
def fX9_sumOf (n : Nat) (v0 : Nat) (v1 : Nat) (h : qH) : Option (Int32 × qH) :=
  (isO h v0 9).bind fun _ =>
  fX9_sumOf_b4 n n v0 v1 0 0 h
theorem obX9_sumOf {n : Nat} {v0 : Nat} {v1 : Nat} {h : qH} {p : Int32 × qH} (hyp : fX9_sumOf n v0 v1 h = some p) : ∃ fs, h.1 v0 = some (.inr (9, fs)) := by
  unfold fX9_sumOf at hyp
  exact q_bind hyp (fun _ e _ => isO_some e)
set_option maxHeartbeats 4000000 in
set_option maxRecDepth 100000 in
theorem okX9_sumOf {l : Launch} {n : Nat} {v0 : Nat} {v1 : Nat} {h : qH} {p : Int32 × qH} (hyp : fX9_sumOf n v0 v1 h = some p) : q_M l 1 yX9_sumOf cX9_sumOf 4 (some .int) [.ref v0, .ref v1] h (some (.int p.1)) p.2 := by
  obtain ⟨r, h'⟩ := p
  unfold fX9_sumOf at hyp
  refine q_bind hyp (fun _ _ hyp => ?_)
  refine q_M.of (by decide) (Nat.le_of_ble_eq_true rfl) ?_
  refine q_to (ls' := [(0, .ref v0), (1, .ref v1)]) (st' := []) rfl rfl ?_
  refine q_iconst (x := 0) rfl dX9_sumOf_0 ?_
  refine q_istore_n (ls' := [(2, .int 0), (0, .ref v0), (1, .ref v1)]) (by decide) rfl dX9_sumOf_1 ?_
  refine q_iconst (x := 0) rfl dX9_sumOf_2 ?_
  refine q_istore_n (ls' := [(3, .int 0), (2, .int 0), (0, .ref v0), (1, .ref v1)]) (by decide) rfl dX9_sumOf_3 ?_
  exact q_sub [2, 3, 1, 0] rfl (okX9_sumOf_b4 _ v0 v1 0 0 h hyp)
