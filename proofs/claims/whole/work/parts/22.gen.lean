/-! Functions over the abstract heap, and that the machine computes them (written by gen.py). -/
theorem dX10_meantNow_0 : decode cX10_meantNow 0 = .ok (.iconst 0, 1) := by decide +kernel
theorem dX10_meantNow_1 : decode cX10_meantNow 1 = .ok (.istore_n 1, 1) := by decide +kernel
theorem dX10_meantNow_2 : decode cX10_meantNow 2 = .ok (.iconst 0, 1) := by decide +kernel
theorem dX10_meantNow_3 : decode cX10_meantNow 3 = .ok (.istore_n 2, 1) := by decide +kernel
theorem dX10_meantNow_4 : decode cX10_meantNow 4 = .ok (.iload_n 2, 1) := by decide +kernel
theorem dX10_meantNow_5 : decode cX10_meantNow 5 = .ok (.aload_n 0, 1) := by decide +kernel
theorem dX10_meantNow_6 : decode cX10_meantNow 6 = .ok (.getfield 13, 3) := by decide +kernel
theorem dX10_meantNow_9 : decode cX10_meantNow 9 = .ok (.iconst 0, 1) := by decide +kernel
theorem dX10_meantNow_10 : decode cX10_meantNow 10 = .ok (.iaload, 1) := by decide +kernel
theorem dX10_meantNow_11 : decode cX10_meantNow 11 = .ok (.if_icmp .ge 30, 3) := by decide +kernel
theorem dX10_meantNow_14 : decode cX10_meantNow 14 = .ok (.iload_n 1, 1) := by decide +kernel
theorem dX10_meantNow_15 : decode cX10_meantNow 15 = .ok (.aload_n 0, 1) := by decide +kernel
theorem dX10_meantNow_16 : decode cX10_meantNow 16 = .ok (.getfield 99, 3) := by decide +kernel
theorem dX10_meantNow_19 : decode cX10_meantNow 19 = .ok (.iconst 2, 1) := by decide +kernel
theorem dX10_meantNow_20 : decode cX10_meantNow 20 = .ok (.iload_n 2, 1) := by decide +kernel
theorem dX10_meantNow_21 : decode cX10_meantNow 21 = .ok (.iadd, 1) := by decide +kernel
theorem dX10_meantNow_22 : decode cX10_meantNow 22 = .ok (.iaload, 1) := by decide +kernel
theorem dX10_meantNow_23 : decode cX10_meantNow 23 = .ok (.ifCond .ne 9, 3) := by decide +kernel
theorem dX10_meantNow_26 : decode cX10_meantNow 26 = .ok (.iconst 1, 1) := by decide +kernel
theorem dX10_meantNow_27 : decode cX10_meantNow 27 = .ok (.iload_n 2, 1) := by decide +kernel
theorem dX10_meantNow_28 : decode cX10_meantNow 28 = .ok (.ishl, 1) := by decide +kernel
theorem dX10_meantNow_29 : decode cX10_meantNow 29 = .ok (.goto 4, 3) := by decide +kernel
theorem dX10_meantNow_32 : decode cX10_meantNow 32 = .ok (.iconst 0, 1) := by decide +kernel
theorem dX10_meantNow_33 : decode cX10_meantNow 33 = .ok (.ior, 1) := by decide +kernel
theorem dX10_meantNow_34 : decode cX10_meantNow 34 = .ok (.istore_n 1, 1) := by decide +kernel
theorem dX10_meantNow_35 : decode cX10_meantNow 35 = .ok (.iinc 2 1, 3) := by decide +kernel
theorem dX10_meantNow_38 : decode cX10_meantNow 38 = .ok (.goto (-34), 3) := by decide +kernel
theorem dX10_meantNow_41 : decode cX10_meantNow 41 = .ok (.iload_n 1, 1) := by decide +kernel
theorem dX10_meantNow_42 : decode cX10_meantNow 42 = .ok (.ireturn, 1) := by decide +kernel
def fX10_meantNow_b4 (n : Nat) : Nat → Nat → Int32 → Int32 → qH → Option (Int32 × qH)
  | 0, _, _, _, _ => none
  | w + 1, v0, v1, v2, h =>
    (gR h v0 10 10).bind fun x1 =>
    (aI .int h x1 0).bind fun x3 =>
    if x3 ≤ v2 then
    (some (v1, h))
    else
    ((gR h v0 10 41).bind fun x6 =>
    (aI .int h x6 (2 + v2)).bind fun x8 =>
    if x8 = 0 then
    (fX10_meantNow_b4 n w v0 (v1 ||| ((1 : Int32) <<< (v2 &&& 31))) (v2 + 1) h)
    else
    (fX10_meantNow_b4 n w v0 (v1 ||| 0) (v2 + 1) h))
set_option maxHeartbeats 4000000 in
set_option maxRecDepth 100000 in
theorem okX10_meantNow_b4 {l : Launch} {n : Nat} {r : Int32} {h' : qH} : ∀ (w : Nat) (v0 : Nat) (v1 : Int32) (v2 : Int32) (h : qH), fX10_meantNow_b4 n w v0 v1 v2 h = some (r, h') → q_W l 1 yX10_meantNow cX10_meantNow 3 (some .int) (some (.int r)) h' 4 [(0, .ref v0), (1, .int v1), (2, .int v2)] [] h := by
  intro w
  induction w with
  | zero => intro v0 v1 v2 h hyp; cases hyp
  | succ w ih =>
    intro v0 v1 v2 h hyp
    unfold fX10_meantNow_b4 at hyp
    refine q_iload_n 2 rfl dX10_meantNow_4 ?_
    refine q_aload_n 0 rfl dX10_meantNow_5 ?_
    refine q_bind hyp (fun x1 e2 hyp => ?_)
    refine q_getR kF_X10_13 dX10_meantNow_6 e2 ?_
    refine q_iconst (x := 0) rfl dX10_meantNow_9 ?_
    refine q_bind hyp (fun x3 e4 hyp => ?_)
    refine q_iald dX10_meantNow_10 e4 ?_
    refine q_icmp_ge (tgt := 41) dX10_meantNow_11 (by decide) (fun c5 => ?_) (fun c5 => ?_)
    · have hyp := q_pos c5 hyp
      refine q_iload_n 1 rfl dX10_meantNow_41 ?_
      exact q_iretH rfl rfl dX10_meantNow_42 hyp
    · have hyp := q_neg c5 hyp
      refine q_iload_n 1 rfl dX10_meantNow_14 ?_
      refine q_aload_n 0 rfl dX10_meantNow_15 ?_
      refine q_bind hyp (fun x6 e7 hyp => ?_)
      refine q_getR kF_X10_99 dX10_meantNow_16 e7 ?_
      refine q_iconst (x := 2) rfl dX10_meantNow_19 ?_
      refine q_iload_n 2 rfl dX10_meantNow_20 ?_
      refine q_iadd dX10_meantNow_21 ?_
      refine q_bind hyp (fun x8 e9 hyp => ?_)
      refine q_iald dX10_meantNow_22 e9 ?_
      refine q_if_ne (tgt := 32) dX10_meantNow_23 (by decide) (fun c10 => ?_) (fun c10 => ?_)
      · have hyp := q_neg c10 hyp
        refine q_iconst (x := 0) rfl dX10_meantNow_32 ?_
        refine q_ior dX10_meantNow_33 ?_
        refine q_istore_n (ls' := [(1, .int (v1 ||| 0)), (0, .ref v0), (2, .int v2)]) (by decide) rfl dX10_meantNow_34 ?_
        refine q_iinc (ls' := [(2, .int (v2 + 1)), (1, .int (v1 ||| 0)), (0, .ref v0)]) 2 rfl rfl (by decide) rfl dX10_meantNow_35 ?_
        refine q_goto (tgt := 4) dX10_meantNow_38 (by decide) ?_
        exact q_sub [2, 1, 0] rfl (ih v0 (v1 ||| 0) (v2 + 1) h hyp)
      · have hyp := q_pos c10 hyp
        refine q_iconst (x := 1) rfl dX10_meantNow_26 ?_
        refine q_iload_n 2 rfl dX10_meantNow_27 ?_
        refine q_ishl dX10_meantNow_28 ?_
        refine q_goto (tgt := 33) dX10_meantNow_29 (by decide) ?_
        refine q_ior dX10_meantNow_33 ?_
        refine q_istore_n (ls' := [(1, .int (v1 ||| ((1 : Int32) <<< (v2 &&& 31)))), (0, .ref v0), (2, .int v2)]) (by decide) rfl dX10_meantNow_34 ?_
        refine q_iinc (ls' := [(2, .int (v2 + 1)), (1, .int (v1 ||| ((1 : Int32) <<< (v2 &&& 31)))), (0, .ref v0)]) 2 rfl rfl (by decide) rfl dX10_meantNow_35 ?_
        refine q_goto (tgt := 4) dX10_meantNow_38 (by decide) ?_
        exact q_sub [2, 1, 0] rfl (ih v0 (v1 ||| ((1 : Int32) <<< (v2 &&& 31))) (v2 + 1) h hyp)
def fX10_meantNow (n : Nat) (v0 : Nat) (h : qH) : Option (Int32 × qH) :=
  (isO h v0 10).bind fun _ =>
  fX10_meantNow_b4 n n v0 0 0 h
theorem obX10_meantNow {n : Nat} {v0 : Nat} {h : qH} {p : Int32 × qH} (hyp : fX10_meantNow n v0 h = some p) : ∃ fs, h.1 v0 = some (.inr (10, fs)) := by
  unfold fX10_meantNow at hyp
  exact q_bind hyp (fun _ e _ => isO_some e)
set_option maxHeartbeats 4000000 in
set_option maxRecDepth 100000 in
theorem okX10_meantNow {l : Launch} {n : Nat} {v0 : Nat} {h : qH} {p : Int32 × qH} (hyp : fX10_meantNow n v0 h = some p) : q_M l 1 yX10_meantNow cX10_meantNow 3 (some .int) [.ref v0] h (some (.int p.1)) p.2 := by
  obtain ⟨r, h'⟩ := p
  unfold fX10_meantNow at hyp
  refine q_bind hyp (fun _ _ hyp => ?_)
  refine q_M.of (by decide) (Nat.le_of_ble_eq_true rfl) ?_
  refine q_to (ls' := [(0, .ref v0)]) (st' := []) rfl rfl ?_
  refine q_iconst (x := 0) rfl dX10_meantNow_0 ?_
  refine q_istore_n (ls' := [(1, .int 0), (0, .ref v0)]) (by decide) rfl dX10_meantNow_1 ?_
  refine q_iconst (x := 0) rfl dX10_meantNow_2 ?_
  refine q_istore_n (ls' := [(2, .int 0), (1, .int 0), (0, .ref v0)]) (by decide) rfl dX10_meantNow_3 ?_
  exact q_sub [2, 1, 0] rfl (okX10_meantNow_b4 _ v0 0 0 h hyp)
theorem dX10_rightBy_0 : decode cX10_rightBy 0 = .ok (.iload_n 1, 1) := by decide +kernel
theorem dX10_rightBy_1 : decode cX10_rightBy 1 = .ok (.istore_n 2, 1) := by decide +kernel
theorem dX10_rightBy_2 : decode cX10_rightBy 2 = .ok (.iconst 0, 1) := by decide +kernel
theorem dX10_rightBy_3 : decode cX10_rightBy 3 = .ok (.istore_n 3, 1) := by decide +kernel
theorem dX10_rightBy_4 : decode cX10_rightBy 4 = .ok (.iload_n 3, 1) := by decide +kernel
theorem dX10_rightBy_5 : decode cX10_rightBy 5 = .ok (.aload_n 0, 1) := by decide +kernel
theorem dX10_rightBy_6 : decode cX10_rightBy 6 = .ok (.getfield 13, 3) := by decide +kernel
theorem dX10_rightBy_9 : decode cX10_rightBy 9 = .ok (.iconst 0, 1) := by decide +kernel
theorem dX10_rightBy_10 : decode cX10_rightBy 10 = .ok (.iaload, 1) := by decide +kernel
theorem dX10_rightBy_11 : decode cX10_rightBy 11 = .ok (.if_icmp .ge 30, 3) := by decide +kernel
theorem dX10_rightBy_14 : decode cX10_rightBy 14 = .ok (.iload_n 2, 1) := by decide +kernel
theorem dX10_rightBy_15 : decode cX10_rightBy 15 = .ok (.aload_n 0, 1) := by decide +kernel
theorem dX10_rightBy_16 : decode cX10_rightBy 16 = .ok (.getfield 117, 3) := by decide +kernel
theorem dX10_rightBy_19 : decode cX10_rightBy 19 = .ok (.iload_n 3, 1) := by decide +kernel
theorem dX10_rightBy_20 : decode cX10_rightBy 20 = .ok (.iaload, 1) := by decide +kernel
theorem dX10_rightBy_21 : decode cX10_rightBy 21 = .ok (.iload_n 1, 1) := by decide +kernel
theorem dX10_rightBy_22 : decode cX10_rightBy 22 = .ok (.iand, 1) := by decide +kernel
theorem dX10_rightBy_23 : decode cX10_rightBy 23 = .ok (.ifCond .eq 9, 3) := by decide +kernel
theorem dX10_rightBy_26 : decode cX10_rightBy 26 = .ok (.iconst 1, 1) := by decide +kernel
theorem dX10_rightBy_27 : decode cX10_rightBy 27 = .ok (.iload_n 3, 1) := by decide +kernel
theorem dX10_rightBy_28 : decode cX10_rightBy 28 = .ok (.ishl, 1) := by decide +kernel
theorem dX10_rightBy_29 : decode cX10_rightBy 29 = .ok (.goto 4, 3) := by decide +kernel
theorem dX10_rightBy_32 : decode cX10_rightBy 32 = .ok (.iconst 0, 1) := by decide +kernel
theorem dX10_rightBy_33 : decode cX10_rightBy 33 = .ok (.ior, 1) := by decide +kernel
theorem dX10_rightBy_34 : decode cX10_rightBy 34 = .ok (.istore_n 2, 1) := by decide +kernel
theorem dX10_rightBy_35 : decode cX10_rightBy 35 = .ok (.iinc 3 1, 3) := by decide +kernel
theorem dX10_rightBy_38 : decode cX10_rightBy 38 = .ok (.goto (-34), 3) := by decide +kernel
theorem dX10_rightBy_41 : decode cX10_rightBy 41 = .ok (.iload_n 2, 1) := by decide +kernel
theorem dX10_rightBy_42 : decode cX10_rightBy 42 = .ok (.ireturn, 1) := by decide +kernel
def fX10_rightBy_b4 (n : Nat) : Nat → Nat → Int32 → Int32 → Int32 → qH → Option (Int32 × qH)
  | 0, _, _, _, _, _ => none
  | w + 1, v0, v1, v2, v3, h =>
    (gR h v0 10 10).bind fun x1 =>
    (aI .int h x1 0).bind fun x3 =>
    if x3 ≤ v3 then
    (some (v2, h))
    else
    ((gR h v0 10 48).bind fun x6 =>
    (aI .int h x6 v3).bind fun x8 =>
    if (x8 &&& v1) = 0 then
    (fX10_rightBy_b4 n w v0 v1 (v2 ||| 0) (v3 + 1) h)
    else
    (fX10_rightBy_b4 n w v0 v1 (v2 ||| ((1 : Int32) <<< (v3 &&& 31))) (v3 + 1) h))
set_option maxHeartbeats 4000000 in
set_option maxRecDepth 100000 in
theorem okX10_rightBy_b4 {l : Launch} {n : Nat} {r : Int32} {h' : qH} : ∀ (w : Nat) (v0 : Nat) (v1 : Int32) (v2 : Int32) (v3 : Int32) (h : qH), fX10_rightBy_b4 n w v0 v1 v2 v3 h = some (r, h') → q_W l 1 yX10_rightBy cX10_rightBy 4 (some .int) (some (.int r)) h' 4 [(0, .ref v0), (1, .int v1), (2, .int v2), (3, .int v3)] [] h := by
  intro w
  induction w with
  | zero => intro v0 v1 v2 v3 h hyp; cases hyp
  | succ w ih =>
    intro v0 v1 v2 v3 h hyp
    unfold fX10_rightBy_b4 at hyp
    refine q_iload_n 3 rfl dX10_rightBy_4 ?_
    refine q_aload_n 0 rfl dX10_rightBy_5 ?_
    refine q_bind hyp (fun x1 e2 hyp => ?_)
    refine q_getR kF_X10_13 dX10_rightBy_6 e2 ?_
    refine q_iconst (x := 0) rfl dX10_rightBy_9 ?_
    refine q_bind hyp (fun x3 e4 hyp => ?_)
    refine q_iald dX10_rightBy_10 e4 ?_
    refine q_icmp_ge (tgt := 41) dX10_rightBy_11 (by decide) (fun c5 => ?_) (fun c5 => ?_)
    · have hyp := q_pos c5 hyp
      refine q_iload_n 2 rfl dX10_rightBy_41 ?_
      exact q_iretH rfl rfl dX10_rightBy_42 hyp
    · have hyp := q_neg c5 hyp
      refine q_iload_n 2 rfl dX10_rightBy_14 ?_
      refine q_aload_n 0 rfl dX10_rightBy_15 ?_
      refine q_bind hyp (fun x6 e7 hyp => ?_)
      refine q_getR kF_X10_117 dX10_rightBy_16 e7 ?_
      refine q_iload_n 3 rfl dX10_rightBy_19 ?_
      refine q_bind hyp (fun x8 e9 hyp => ?_)
      refine q_iald dX10_rightBy_20 e9 ?_
      refine q_iload_n 1 rfl dX10_rightBy_21 ?_
      refine q_iand dX10_rightBy_22 ?_
      refine q_if_eq (tgt := 32) dX10_rightBy_23 (by decide) (fun c10 => ?_) (fun c10 => ?_)
      · have hyp := q_pos c10 hyp
        refine q_iconst (x := 0) rfl dX10_rightBy_32 ?_
        refine q_ior dX10_rightBy_33 ?_
        refine q_istore_n (ls' := [(2, .int (v2 ||| 0)), (0, .ref v0), (1, .int v1), (3, .int v3)]) (by decide) rfl dX10_rightBy_34 ?_
        refine q_iinc (ls' := [(3, .int (v3 + 1)), (2, .int (v2 ||| 0)), (0, .ref v0), (1, .int v1)]) 3 rfl rfl (by decide) rfl dX10_rightBy_35 ?_
        refine q_goto (tgt := 4) dX10_rightBy_38 (by decide) ?_
        exact q_sub [2, 3, 1, 0] rfl (ih v0 v1 (v2 ||| 0) (v3 + 1) h hyp)
      · have hyp := q_neg c10 hyp
        refine q_iconst (x := 1) rfl dX10_rightBy_26 ?_
        refine q_iload_n 3 rfl dX10_rightBy_27 ?_
        refine q_ishl dX10_rightBy_28 ?_
        refine q_goto (tgt := 33) dX10_rightBy_29 (by decide) ?_
        refine q_ior dX10_rightBy_33 ?_
        refine q_istore_n (ls' := [(2, .int (v2 ||| ((1 : Int32) <<< (v3 &&& 31)))), (0, .ref v0), (1, .int v1), (3, .int v3)]) (by decide) rfl dX10_rightBy_34 ?_
        refine q_iinc (ls' := [(3, .int (v3 + 1)), (2, .int (v2 ||| ((1 : Int32) <<< (v3 &&& 31)))), (0, .ref v0), (1, .int v1)]) 3 rfl rfl (by decide) rfl dX10_rightBy_35 ?_
        refine q_goto (tgt := 4) dX10_rightBy_38 (by decide) ?_
        exact q_sub [2, 3, 1, 0] rfl (ih v0 v1 (v2 ||| ((1 : Int32) <<< (v3 &&& 31))) (v3 + 1) h hyp)
def fX10_rightBy (n : Nat) (v0 : Nat) (v1 : Int32) (h : qH) : Option (Int32 × qH) :=
  (isO h v0 10).bind fun _ =>
  fX10_rightBy_b4 n n v0 v1 v1 0 h
theorem obX10_rightBy {n : Nat} {v0 : Nat} {v1 : Int32} {h : qH} {p : Int32 × qH} (hyp : fX10_rightBy n v0 v1 h = some p) : ∃ fs, h.1 v0 = some (.inr (10, fs)) := by
  unfold fX10_rightBy at hyp
  exact q_bind hyp (fun _ e _ => isO_some e)
set_option maxHeartbeats 4000000 in
set_option maxRecDepth 100000 in
theorem okX10_rightBy {l : Launch} {n : Nat} {v0 : Nat} {v1 : Int32} {h : qH} {p : Int32 × qH} (hyp : fX10_rightBy n v0 v1 h = some p) : q_M l 1 yX10_rightBy cX10_rightBy 4 (some .int) [.ref v0, .int v1] h (some (.int p.1)) p.2 := by
  obtain ⟨r, h'⟩ := p
  unfold fX10_rightBy at hyp
  refine q_bind hyp (fun _ _ hyp => ?_)
  refine q_M.of (by decide) (Nat.le_of_ble_eq_true rfl) ?_
  refine q_to (ls' := [(0, .ref v0), (1, .int v1)]) (st' := []) rfl rfl ?_
  refine q_iload_n 1 rfl dX10_rightBy_0 ?_
  refine q_istore_n (ls' := [(2, .int v1), (0, .ref v0), (1, .int v1)]) (by decide) rfl dX10_rightBy_1 ?_
  refine q_iconst (x := 0) rfl dX10_rightBy_2 ?_
  refine q_istore_n (ls' := [(3, .int 0), (2, .int v1), (0, .ref v0), (1, .int v1)]) (by decide) rfl dX10_rightBy_3 ?_
  exact q_sub [2, 3, 1, 0] rfl (okX10_rightBy_b4 _ v0 v1 v1 0 h hyp)
theorem dX10_rightAll_0 : decode cX10_rightAll 0 = .ok (.aload_n 0, 1) := by decide +kernel
theorem dX10_rightAll_1 : decode cX10_rightAll 1 = .ok (.invokevirtual 390, 3) := by decide +kernel
theorem dX10_rightAll_4 : decode cX10_rightAll 4 = .ok (.aload_n 0, 1) := by decide +kernel
theorem dX10_rightAll_5 : decode cX10_rightAll 5 = .ok (.invokevirtual 349, 3) := by decide +kernel
theorem dX10_rightAll_8 : decode cX10_rightAll 8 = .ok (.istore_n 1, 1) := by decide +kernel
theorem dX10_rightAll_9 : decode cX10_rightAll 9 = .ok (.ldc_w 383, 3) := by decide +kernel
theorem dX10_rightAll_12 : decode cX10_rightAll 12 = .ok (.istore_n 2, 1) := by decide +kernel
theorem dX10_rightAll_13 : decode cX10_rightAll 13 = .ok (.iconst 0, 1) := by decide +kernel
theorem dX10_rightAll_14 : decode cX10_rightAll 14 = .ok (.istore_n 3, 1) := by decide +kernel
theorem dX10_rightAll_15 : decode cX10_rightAll 15 = .ok (.iload_n 3, 1) := by decide +kernel
theorem dX10_rightAll_16 : decode cX10_rightAll 16 = .ok (.aload_n 0, 1) := by decide +kernel
theorem dX10_rightAll_17 : decode cX10_rightAll 17 = .ok (.invokevirtual 377, 3) := by decide +kernel
theorem dX10_rightAll_20 : decode cX10_rightAll 20 = .ok (.if_icmp .gt 36, 3) := by decide +kernel
theorem dX10_rightAll_23 : decode cX10_rightAll 23 = .ok (.aload_n 0, 1) := by decide +kernel
theorem dX10_rightAll_24 : decode cX10_rightAll 24 = .ok (.iload_n 3, 1) := by decide +kernel
theorem dX10_rightAll_25 : decode cX10_rightAll 25 = .ok (.iload_n 1, 1) := by decide +kernel
theorem dX10_rightAll_26 : decode cX10_rightAll 26 = .ok (.ior, 1) := by decide +kernel
theorem dX10_rightAll_27 : decode cX10_rightAll 27 = .ok (.invokevirtual 352, 3) := by decide +kernel
theorem dX10_rightAll_30 : decode cX10_rightAll 30 = .ok (.aload_n 0, 1) := by decide +kernel
theorem dX10_rightAll_31 : decode cX10_rightAll 31 = .ok (.invokevirtual 377, 3) := by decide +kernel
theorem dX10_rightAll_34 : decode cX10_rightAll 34 = .ok (.if_icmp .eq 6, 3) := by decide +kernel
theorem dX10_rightAll_37 : decode cX10_rightAll 37 = .ok (.goto 13, 3) := by decide +kernel
theorem dX10_rightAll_40 : decode cX10_rightAll 40 = .ok (.iload_n 2, 1) := by decide +kernel
theorem dX10_rightAll_41 : decode cX10_rightAll 41 = .ok (.aload_n 0, 1) := by decide +kernel
theorem dX10_rightAll_42 : decode cX10_rightAll 42 = .ok (.iload_n 3, 1) := by decide +kernel
theorem dX10_rightAll_43 : decode cX10_rightAll 43 = .ok (.invokevirtual 393, 3) := by decide +kernel
theorem dX10_rightAll_46 : decode cX10_rightAll 46 = .ok (.invokestatic 343, 3) := by decide +kernel
theorem dX10_rightAll_49 : decode cX10_rightAll 49 = .ok (.istore_n 2, 1) := by decide +kernel
theorem dX10_rightAll_50 : decode cX10_rightAll 50 = .ok (.iinc 3 1, 3) := by decide +kernel
theorem dX10_rightAll_53 : decode cX10_rightAll 53 = .ok (.goto (-38), 3) := by decide +kernel
theorem dX10_rightAll_56 : decode cX10_rightAll 56 = .ok (.iload_n 2, 1) := by decide +kernel
theorem dX10_rightAll_57 : decode cX10_rightAll 57 = .ok (.ldc_w 383, 3) := by decide +kernel
theorem dX10_rightAll_60 : decode cX10_rightAll 60 = .ok (.if_icmp .ne 7, 3) := by decide +kernel
theorem dX10_rightAll_63 : decode cX10_rightAll 63 = .ok (.iconst (-1), 1) := by decide +kernel
theorem dX10_rightAll_64 : decode cX10_rightAll 64 = .ok (.goto 4, 3) := by decide +kernel
theorem dX10_rightAll_67 : decode cX10_rightAll 67 = .ok (.iload_n 2, 1) := by decide +kernel
theorem dX10_rightAll_68 : decode cX10_rightAll 68 = .ok (.ireturn, 1) := by decide +kernel
def fX10_rightAll_b15 (n : Nat) : Nat → Nat → Int32 → Int32 → Int32 → qH → Option (Int32 × qH)
  | 0, _, _, _, _, _ => none
  | w + 1, v0, v1, v2, v3, h =>
    (fX10_every v0 h).bind fun p1 =>
    if p1.1 < v3 then
    (if v2 = 1000000 then
    (some ((-1), p1.2))
    else
    (some (v2, p1.2)))
    else
    ((fX10_rightBy n v0 (v3 ||| v1) p1.2).bind fun p4 =>
    (fX10_every v0 p4.2).bind fun p5 =>
    if p4.1 = p5.1 then
    ((fX10_costsOf n v0 v3 p5.2).bind fun p7 =>
    fX10_rightAll_b15 n w v0 v1 (if p7.1 < v2 then p7.1 else v2) (v3 + 1) p7.2)
    else
    (fX10_rightAll_b15 n w v0 v1 v2 (v3 + 1) p5.2))
set_option maxHeartbeats 4000000 in
set_option maxRecDepth 100000 in
theorem okX10_rightAll_b15 {l : Launch} {n : Nat} {r : Int32} {h' : qH} : ∀ (w : Nat) (v0 : Nat) (v1 : Int32) (v2 : Int32) (v3 : Int32) (h : qH), fX10_rightAll_b15 n w v0 v1 v2 v3 h = some (r, h') → q_W l 8 yX10_rightAll cX10_rightAll 4 (some .int) (some (.int r)) h' 15 [(0, .ref v0), (1, .int v1), (2, .int v2), (3, .int v3)] [] h := by
  intro w
  induction w with
  | zero => intro v0 v1 v2 v3 h hyp; cases hyp
  | succ w ih =>
    intro v0 v1 v2 v3 h hyp
    unfold fX10_rightAll_b15 at hyp
    refine q_iload_n 3 rfl dX10_rightAll_15 ?_
    refine q_aload_n 0 rfl dX10_rightAll_16 ?_
    refine q_bind hyp (fun p1 e11 hyp => ?_)
    refine q_callV (as := []) (st := [.int v3]) kY_X10_every kL_X10_377 (okX10_every (l := l) e11) (by decide) rfl (obX10_every e11) (Nat.le_of_ble_eq_true rfl) dX10_rightAll_17 ?_
    refine q_to (ls' := [(0, .ref v0), (1, .int v1), (2, .int v2), (3, .int v3)]) (st' := [.int p1.1, .int v3]) rfl rfl ?_
    refine q_icmp_gt (tgt := 56) dX10_rightAll_20 (by decide) (fun c2 => ?_) (fun c2 => ?_)
    · have hyp := q_pos c2 hyp
      refine q_iload_n 2 rfl dX10_rightAll_56 ?_
      refine q_ldcw kK_X10_383 dX10_rightAll_57 ?_
      refine q_icmp_ne (tgt := 67) dX10_rightAll_60 (by decide) (fun c3 => ?_) (fun c3 => ?_)
      · have hyp := q_neg c3 hyp
        refine q_iload_n 2 rfl dX10_rightAll_67 ?_
        exact q_iretH rfl rfl dX10_rightAll_68 hyp
      · have hyp := q_pos c3 hyp
        refine q_iconst (x := (-1)) rfl dX10_rightAll_63 ?_
        refine q_goto (tgt := 68) dX10_rightAll_64 (by decide) ?_
        exact q_iretH rfl rfl dX10_rightAll_68 hyp
    · have hyp := q_neg c2 hyp
      refine q_aload_n 0 rfl dX10_rightAll_23 ?_
      refine q_iload_n 3 rfl dX10_rightAll_24 ?_
      refine q_iload_n 1 rfl dX10_rightAll_25 ?_
      refine q_ior dX10_rightAll_26 ?_
      refine q_bind hyp (fun p4 e10 hyp => ?_)
      refine q_callV (as := [.int (v3 ||| v1)]) (st := []) kY_X10_rightBy kL_X10_352 (okX10_rightBy (l := l) e10) (by decide) rfl (obX10_rightBy e10) (Nat.le_of_ble_eq_true rfl) dX10_rightAll_27 ?_
      refine q_to (ls' := [(0, .ref v0), (1, .int v1), (2, .int v2), (3, .int v3)]) (st' := [.int p4.1]) rfl rfl ?_
      refine q_aload_n 0 rfl dX10_rightAll_30 ?_
      refine q_bind hyp (fun p5 e9 hyp => ?_)
      refine q_callV (as := []) (st := [.int p4.1]) kY_X10_every kL_X10_377 (okX10_every (l := l) e9) (by decide) rfl (obX10_every e9) (Nat.le_of_ble_eq_true rfl) dX10_rightAll_31 ?_
      refine q_to (ls' := [(0, .ref v0), (1, .int v1), (2, .int v2), (3, .int v3)]) (st' := [.int p5.1, .int p4.1]) rfl rfl ?_
      refine q_icmp_eq (tgt := 40) dX10_rightAll_34 (by decide) (fun c6 => ?_) (fun c6 => ?_)
      · have hyp := q_pos c6 hyp
        refine q_iload_n 2 rfl dX10_rightAll_40 ?_
        refine q_aload_n 0 rfl dX10_rightAll_41 ?_
        refine q_iload_n 3 rfl dX10_rightAll_42 ?_
        refine q_bind hyp (fun p7 e8 hyp => ?_)
        refine q_callV (as := [.int v3]) (st := [.int v2]) kY_X10_costsOf kL_X10_393 (okX10_costsOf (l := l) e8) (by decide) rfl (obX10_costsOf e8) (Nat.le_of_ble_eq_true rfl) dX10_rightAll_43 ?_
        refine q_to (ls' := [(0, .ref v0), (1, .int v1), (2, .int v2), (3, .int v3)]) (st' := [.int p7.1, .int v2]) rfl rfl ?_
        refine q_min kL_X10_343 kS_min kZ_math kD_min (by decide) (Nat.le_of_ble_eq_true rfl) dX10_rightAll_46 ?_
        refine q_istore_n (ls' := [(2, .int (if p7.1 < v2 then p7.1 else v2)), (0, .ref v0), (1, .int v1), (3, .int v3)]) (by decide) rfl dX10_rightAll_49 ?_
        refine q_iinc (ls' := [(3, .int (v3 + 1)), (2, .int (if p7.1 < v2 then p7.1 else v2)), (0, .ref v0), (1, .int v1)]) 3 rfl rfl (by decide) rfl dX10_rightAll_50 ?_
        refine q_goto (tgt := 15) dX10_rightAll_53 (by decide) ?_
        exact q_sub [2, 3, 1, 0] rfl (ih v0 v1 (if p7.1 < v2 then p7.1 else v2) (v3 + 1) p7.2 hyp)
      · have hyp := q_neg c6 hyp
        refine q_goto (tgt := 50) dX10_rightAll_37 (by decide) ?_
        refine q_iinc (ls' := [(3, .int (v3 + 1)), (0, .ref v0), (1, .int v1), (2, .int v2)]) 3 rfl rfl (by decide) rfl dX10_rightAll_50 ?_
        refine q_goto (tgt := 15) dX10_rightAll_53 (by decide) ?_
        exact q_sub [1, 2, 3, 0] rfl (ih v0 v1 v2 (v3 + 1) p5.2 hyp)
def fX10_rightAll (n : Nat) (v0 : Nat) (h : qH) : Option (Int32 × qH) :=
  (isO h v0 10).bind fun _ =>
  (fX10_laysCosts n v0 h).bind fun h1 =>
  (fX10_meantNow n v0 h1).bind fun p2 =>
  fX10_rightAll_b15 n n v0 p2.1 1000000 0 p2.2
theorem obX10_rightAll {n : Nat} {v0 : Nat} {h : qH} {p : Int32 × qH} (hyp : fX10_rightAll n v0 h = some p) : ∃ fs, h.1 v0 = some (.inr (10, fs)) := by
  unfold fX10_rightAll at hyp
  exact q_bind hyp (fun _ e _ => isO_some e)
set_option maxHeartbeats 4000000 in
set_option maxRecDepth 100000 in
theorem okX10_rightAll {l : Launch} {n : Nat} {v0 : Nat} {h : qH} {p : Int32 × qH} (hyp : fX10_rightAll n v0 h = some p) : q_M l 8 yX10_rightAll cX10_rightAll 4 (some .int) [.ref v0] h (some (.int p.1)) p.2 := by
  obtain ⟨r, h'⟩ := p
  unfold fX10_rightAll at hyp
  refine q_bind hyp (fun _ _ hyp => ?_)
  refine q_M.of (by decide) (Nat.le_of_ble_eq_true rfl) ?_
  refine q_to (ls' := [(0, .ref v0)]) (st' := []) rfl rfl ?_
  refine q_aload_n 0 rfl dX10_rightAll_0 ?_
  refine q_bind hyp (fun h1 e4 hyp => ?_)
  refine q_callV (as := []) (st := []) kY_X10_laysCosts kL_X10_390 (okX10_laysCosts (l := l) e4) (by decide) rfl (obX10_laysCosts e4) (Nat.le_of_ble_eq_true rfl) dX10_rightAll_1 ?_
  refine q_to (ls' := [(0, .ref v0)]) (st' := []) rfl rfl ?_
  refine q_aload_n 0 rfl dX10_rightAll_4 ?_
  refine q_bind hyp (fun p2 e3 hyp => ?_)
  refine q_callV (as := []) (st := []) kY_X10_meantNow kL_X10_349 (okX10_meantNow (l := l) e3) (by decide) rfl (obX10_meantNow e3) (Nat.le_of_ble_eq_true rfl) dX10_rightAll_5 ?_
  refine q_to (ls' := [(0, .ref v0)]) (st' := [.int p2.1]) rfl rfl ?_
  refine q_istore_n (ls' := [(1, .int p2.1), (0, .ref v0)]) (by decide) rfl dX10_rightAll_8 ?_
  refine q_ldcw kK_X10_383 dX10_rightAll_9 ?_
  refine q_istore_n (ls' := [(2, .int 1000000), (1, .int p2.1), (0, .ref v0)]) (by decide) rfl dX10_rightAll_12 ?_
  refine q_iconst (x := 0) rfl dX10_rightAll_13 ?_
  refine q_istore_n (ls' := [(3, .int 0), (2, .int 1000000), (1, .int p2.1), (0, .ref v0)]) (by decide) rfl dX10_rightAll_14 ?_
  exact q_sub [3, 2, 1, 0] rfl (okX10_rightAll_b15 _ v0 p2.1 1000000 0 p2.2 hyp)
theorem dX10_all_0 : decode cX10_all 0 = .ok (.aload_n 0, 1) := by decide +kernel
theorem dX10_all_1 : decode cX10_all 1 = .ok (.iconst 0, 1) := by decide +kernel
theorem dX10_all_2 : decode cX10_all 2 = .ok (.putfield 136, 3) := by decide +kernel
theorem dX10_all_5 : decode cX10_all 5 = .ok (.aload_n 0, 1) := by decide +kernel
theorem dX10_all_6 : decode cX10_all 6 = .ok (.invokevirtual 396, 3) := by decide +kernel
theorem dX10_all_9 : decode cX10_all 9 = .ok (.ireturn, 1) := by decide +kernel
def fX10_all (n : Nat) (v0 : Nat) (h : qH) : Option (Int32 × qH) :=
  (isO h v0 10).bind fun _ =>
  (pF h v0 10 0 (.int 0)).bind fun h1 =>
  (fX10_rightAll n v0 h1).bind fun p3 =>
  some (p3.1, p3.2)
theorem obX10_all {n : Nat} {v0 : Nat} {h : qH} {p : Int32 × qH} (hyp : fX10_all n v0 h = some p) : ∃ fs, h.1 v0 = some (.inr (10, fs)) := by
  unfold fX10_all at hyp
  exact q_bind hyp (fun _ e _ => isO_some e)
set_option maxHeartbeats 4000000 in
set_option maxRecDepth 100000 in
theorem okX10_all {l : Launch} {n : Nat} {v0 : Nat} {h : qH} {p : Int32 × qH} (hyp : fX10_all n v0 h = some p) : q_M l 9 yX10_all cX10_all 1 (some .int) [.ref v0] h (some (.int p.1)) p.2 := by
  obtain ⟨r, h'⟩ := p
  unfold fX10_all at hyp
  refine q_bind hyp (fun _ _ hyp => ?_)
  refine q_M.of (by decide) (Nat.le_of_ble_eq_true rfl) ?_
  refine q_to (ls' := [(0, .ref v0)]) (st' := []) rfl rfl ?_
  refine q_aload_n 0 rfl dX10_all_0 ?_
  refine q_iconst (x := 0) rfl dX10_all_1 ?_
  refine q_bind hyp (fun h1 e2 hyp => ?_)
  refine q_putF kF_X10_136 (fun _ => ⟨rfl, rfl⟩) dX10_all_2 e2 ?_
  refine q_aload_n 0 rfl dX10_all_5 ?_
  refine q_bind hyp (fun p3 e4 hyp => ?_)
  refine q_callV (as := []) (st := []) kY_X10_rightAll kL_X10_396 (okX10_rightAll (l := l) e4) (by decide) rfl (obX10_rightAll e4) (Nat.le_of_ble_eq_true rfl) dX10_all_6 ?_
  refine q_to (ls' := [(0, .ref v0)]) (st' := [.int p3.1]) rfl rfl ?_
  exact q_iretH rfl rfl dX10_all_9 hyp
theorem dX10_allOf_0 : decode cX10_allOf 0 = .ok (.iconst 0, 1) := by decide +kernel
theorem dX10_allOf_1 : decode cX10_allOf 1 = .ok (.istore_n 2, 1) := by decide +kernel
theorem dX10_allOf_2 : decode cX10_allOf 2 = .ok (.iconst 0, 1) := by decide +kernel
theorem dX10_allOf_3 : decode cX10_allOf 3 = .ok (.istore_n 3, 1) := by decide +kernel
theorem dX10_allOf_4 : decode cX10_allOf 4 = .ok (.iload_n 3, 1) := by decide +kernel
theorem dX10_allOf_5 : decode cX10_allOf 5 = .ok (.bipush 7, 2) := by decide +kernel
theorem dX10_allOf_7 : decode cX10_allOf 7 = .ok (.if_icmp .ge 20, 3) := by decide +kernel
theorem dX10_allOf_10 : decode cX10_allOf 10 = .ok (.iload_n 2, 1) := by decide +kernel
theorem dX10_allOf_11 : decode cX10_allOf 11 = .ok (.aload_n 0, 1) := by decide +kernel
theorem dX10_allOf_12 : decode cX10_allOf 12 = .ok (.getfield 99, 3) := by decide +kernel
theorem dX10_allOf_15 : decode cX10_allOf 15 = .ok (.iload_n 1, 1) := by decide +kernel
theorem dX10_allOf_16 : decode cX10_allOf 16 = .ok (.iload_n 3, 1) := by decide +kernel
theorem dX10_allOf_17 : decode cX10_allOf 17 = .ok (.iadd, 1) := by decide +kernel
theorem dX10_allOf_18 : decode cX10_allOf 18 = .ok (.iaload, 1) := by decide +kernel
theorem dX10_allOf_19 : decode cX10_allOf 19 = .ok (.iadd, 1) := by decide +kernel
theorem dX10_allOf_20 : decode cX10_allOf 20 = .ok (.istore_n 2, 1) := by decide +kernel
theorem dX10_allOf_21 : decode cX10_allOf 21 = .ok (.iinc 3 1, 3) := by decide +kernel
theorem dX10_allOf_24 : decode cX10_allOf 24 = .ok (.goto (-20), 3) := by decide +kernel
theorem dX10_allOf_27 : decode cX10_allOf 27 = .ok (.iload_n 2, 1) := by decide +kernel
theorem dX10_allOf_28 : decode cX10_allOf 28 = .ok (.ireturn, 1) := by decide +kernel
def fX10_allOf_b4 (n : Nat) : Nat → Nat → Int32 → Int32 → Int32 → qH → Option (Int32 × qH)
  | 0, _, _, _, _, _ => none
  | w + 1, v0, v1, v2, v3, h =>
    if 7 ≤ v3 then
    (some (v2, h))
    else
    ((gR h v0 10 41).bind fun x2 =>
    (aI .int h x2 (v1 + v3)).bind fun x4 =>
    fX10_allOf_b4 n w v0 v1 (v2 + x4) (v3 + 1) h)
set_option maxHeartbeats 4000000 in
set_option maxRecDepth 100000 in
theorem okX10_allOf_b4 {l : Launch} {n : Nat} {r : Int32} {h' : qH} : ∀ (w : Nat) (v0 : Nat) (v1 : Int32) (v2 : Int32) (v3 : Int32) (h : qH), fX10_allOf_b4 n w v0 v1 v2 v3 h = some (r, h') → q_W l 1 yX10_allOf cX10_allOf 4 (some .int) (some (.int r)) h' 4 [(0, .ref v0), (1, .int v1), (2, .int v2), (3, .int v3)] [] h := by
  intro w
  induction w with
  | zero => intro v0 v1 v2 v3 h hyp; cases hyp
  | succ w ih =>
    intro v0 v1 v2 v3 h hyp
    unfold fX10_allOf_b4 at hyp
    refine q_iload_n 3 rfl dX10_allOf_4 ?_
    refine q_bipush (x := 7) (by decide) dX10_allOf_5 ?_
    refine q_icmp_ge (tgt := 27) dX10_allOf_7 (by decide) (fun c1 => ?_) (fun c1 => ?_)
    · have hyp := q_pos c1 hyp
      refine q_iload_n 2 rfl dX10_allOf_27 ?_
      exact q_iretH rfl rfl dX10_allOf_28 hyp
    · have hyp := q_neg c1 hyp
      refine q_iload_n 2 rfl dX10_allOf_10 ?_
      refine q_aload_n 0 rfl dX10_allOf_11 ?_
      refine q_bind hyp (fun x2 e3 hyp => ?_)
      refine q_getR kF_X10_99 dX10_allOf_12 e3 ?_
      refine q_iload_n 1 rfl dX10_allOf_15 ?_
      refine q_iload_n 3 rfl dX10_allOf_16 ?_
      refine q_iadd dX10_allOf_17 ?_
      refine q_bind hyp (fun x4 e5 hyp => ?_)
      refine q_iald dX10_allOf_18 e5 ?_
      refine q_iadd dX10_allOf_19 ?_
      refine q_istore_n (ls' := [(2, .int (v2 + x4)), (0, .ref v0), (1, .int v1), (3, .int v3)]) (by decide) rfl dX10_allOf_20 ?_
      refine q_iinc (ls' := [(3, .int (v3 + 1)), (2, .int (v2 + x4)), (0, .ref v0), (1, .int v1)]) 3 rfl rfl (by decide) rfl dX10_allOf_21 ?_
      refine q_goto (tgt := 4) dX10_allOf_24 (by decide) ?_
      exact q_sub [2, 3, 1, 0] rfl (ih v0 v1 (v2 + x4) (v3 + 1) h hyp)
def fX10_allOf (n : Nat) (v0 : Nat) (v1 : Int32) (h : qH) : Option (Int32 × qH) :=
  (isO h v0 10).bind fun _ =>
  fX10_allOf_b4 n n v0 v1 0 0 h
theorem obX10_allOf {n : Nat} {v0 : Nat} {v1 : Int32} {h : qH} {p : Int32 × qH} (hyp : fX10_allOf n v0 v1 h = some p) : ∃ fs, h.1 v0 = some (.inr (10, fs)) := by
  unfold fX10_allOf at hyp
  exact q_bind hyp (fun _ e _ => isO_some e)
set_option maxHeartbeats 4000000 in
set_option maxRecDepth 100000 in
theorem okX10_allOf {l : Launch} {n : Nat} {v0 : Nat} {v1 : Int32} {h : qH} {p : Int32 × qH} (hyp : fX10_allOf n v0 v1 h = some p) : q_M l 1 yX10_allOf cX10_allOf 4 (some .int) [.ref v0, .int v1] h (some (.int p.1)) p.2 := by
  obtain ⟨r, h'⟩ := p
  unfold fX10_allOf at hyp
  refine q_bind hyp (fun _ _ hyp => ?_)
  refine q_M.of (by decide) (Nat.le_of_ble_eq_true rfl) ?_
  refine q_to (ls' := [(0, .ref v0), (1, .int v1)]) (st' := []) rfl rfl ?_
  refine q_iconst (x := 0) rfl dX10_allOf_0 ?_
  refine q_istore_n (ls' := [(2, .int 0), (0, .ref v0), (1, .int v1)]) (by decide) rfl dX10_allOf_1 ?_
  refine q_iconst (x := 0) rfl dX10_allOf_2 ?_
  refine q_istore_n (ls' := [(3, .int 0), (2, .int 0), (0, .ref v0), (1, .int v1)]) (by decide) rfl dX10_allOf_3 ?_
  exact q_sub [2, 3, 1, 0] rfl (okX10_allOf_b4 _ v0 v1 0 0 h hyp)
theorem dX10_bare_0 : decode cX10_bare 0 = .ok (.aload_n 0, 1) := by decide +kernel
theorem dX10_bare_1 : decode cX10_bare 1 = .ok (.iconst 0, 1) := by decide +kernel
theorem dX10_bare_2 : decode cX10_bare 2 = .ok (.putfield 136, 3) := by decide +kernel
theorem dX10_bare_5 : decode cX10_bare 5 = .ok (.iconst 0, 1) := by decide +kernel
theorem dX10_bare_6 : decode cX10_bare 6 = .ok (.istore_n 1, 1) := by decide +kernel
theorem dX10_bare_7 : decode cX10_bare 7 = .ok (.iconst 0, 1) := by decide +kernel
theorem dX10_bare_8 : decode cX10_bare 8 = .ok (.istore_n 2, 1) := by decide +kernel
theorem dX10_bare_9 : decode cX10_bare 9 = .ok (.iload_n 2, 1) := by decide +kernel
theorem dX10_bare_10 : decode cX10_bare 10 = .ok (.aload_n 0, 1) := by decide +kernel
theorem dX10_bare_11 : decode cX10_bare 11 = .ok (.getfield 13, 3) := by decide +kernel
theorem dX10_bare_14 : decode cX10_bare 14 = .ok (.iconst 0, 1) := by decide +kernel
theorem dX10_bare_15 : decode cX10_bare 15 = .ok (.iaload, 1) := by decide +kernel
theorem dX10_bare_16 : decode cX10_bare 16 = .ok (.if_icmp .ge 40, 3) := by decide +kernel
theorem dX10_bare_19 : decode cX10_bare 19 = .ok (.iload_n 1, 1) := by decide +kernel
theorem dX10_bare_20 : decode cX10_bare 20 = .ok (.aload_n 0, 1) := by decide +kernel
theorem dX10_bare_21 : decode cX10_bare 21 = .ok (.getfield 20, 3) := by decide +kernel
theorem dX10_bare_24 : decode cX10_bare 24 = .ok (.iload_n 2, 1) := by decide +kernel
theorem dX10_bare_25 : decode cX10_bare 25 = .ok (.iaload, 1) := by decide +kernel
theorem dX10_bare_26 : decode cX10_bare 26 = .ok (.iconst 3, 1) := by decide +kernel
theorem dX10_bare_27 : decode cX10_bare 27 = .ok (.if_icmp .ne 20, 3) := by decide +kernel
theorem dX10_bare_30 : decode cX10_bare 30 = .ok (.aload_n 0, 1) := by decide +kernel
theorem dX10_bare_31 : decode cX10_bare 31 = .ok (.getfield 99, 3) := by decide +kernel
theorem dX10_bare_34 : decode cX10_bare 34 = .ok (.iconst 2, 1) := by decide +kernel
theorem dX10_bare_35 : decode cX10_bare 35 = .ok (.iload_n 2, 1) := by decide +kernel
theorem dX10_bare_36 : decode cX10_bare 36 = .ok (.iadd, 1) := by decide +kernel
theorem dX10_bare_37 : decode cX10_bare 37 = .ok (.iaload, 1) := by decide +kernel
theorem dX10_bare_38 : decode cX10_bare 38 = .ok (.ifCond .le 9, 3) := by decide +kernel
theorem dX10_bare_41 : decode cX10_bare 41 = .ok (.iconst 1, 1) := by decide +kernel
theorem dX10_bare_42 : decode cX10_bare 42 = .ok (.iload_n 2, 1) := by decide +kernel
theorem dX10_bare_43 : decode cX10_bare 43 = .ok (.ishl, 1) := by decide +kernel
theorem dX10_bare_44 : decode cX10_bare 44 = .ok (.goto 4, 3) := by decide +kernel
theorem dX10_bare_47 : decode cX10_bare 47 = .ok (.iconst 0, 1) := by decide +kernel
theorem dX10_bare_48 : decode cX10_bare 48 = .ok (.ior, 1) := by decide +kernel
theorem dX10_bare_49 : decode cX10_bare 49 = .ok (.istore_n 1, 1) := by decide +kernel
theorem dX10_bare_50 : decode cX10_bare 50 = .ok (.iinc 2 1, 3) := by decide +kernel
theorem dX10_bare_53 : decode cX10_bare 53 = .ok (.goto (-44), 3) := by decide +kernel
theorem dX10_bare_56 : decode cX10_bare 56 = .ok (.iload_n 1, 1) := by decide +kernel
theorem dX10_bare_57 : decode cX10_bare 57 = .ok (.ireturn, 1) := by decide +kernel
def fX10_bare_b9 (n : Nat) : Nat → Nat → Int32 → Int32 → qH → Option (Int32 × qH)
  | 0, _, _, _, _ => none
  | w + 1, v0, v1, v2, h =>
    (gR h v0 10 10).bind fun x1 =>
    (aI .int h x1 0).bind fun x3 =>
    if x3 ≤ v2 then
    (some (v1, h))
    else
    ((gR h v0 10 12).bind fun x6 =>
    (aI .int h x6 v2).bind fun x8 =>
    if x8 = 3 then
    ((gR h v0 10 41).bind fun x11 =>
    (aI .int h x11 (2 + v2)).bind fun x13 =>
    if x13 ≤ 0 then
    (fX10_bare_b9 n w v0 (v1 ||| 0) (v2 + 1) h)
    else
    (fX10_bare_b9 n w v0 (v1 ||| ((1 : Int32) <<< (v2 &&& 31))) (v2 + 1) h))
    else
    (fX10_bare_b9 n w v0 (v1 ||| 0) (v2 + 1) h))
set_option maxHeartbeats 4000000 in
set_option maxRecDepth 100000 in
theorem okX10_bare_b9 {l : Launch} {n : Nat} {r : Int32} {h' : qH} : ∀ (w : Nat) (v0 : Nat) (v1 : Int32) (v2 : Int32) (h : qH), fX10_bare_b9 n w v0 v1 v2 h = some (r, h') → q_W l 1 yX10_bare cX10_bare 3 (some .int) (some (.int r)) h' 9 [(0, .ref v0), (1, .int v1), (2, .int v2)] [] h := by
  intro w
  induction w with
  | zero => intro v0 v1 v2 h hyp; cases hyp
  | succ w ih =>
    intro v0 v1 v2 h hyp
    unfold fX10_bare_b9 at hyp
    refine q_iload_n 2 rfl dX10_bare_9 ?_
    refine q_aload_n 0 rfl dX10_bare_10 ?_
    refine q_bind hyp (fun x1 e2 hyp => ?_)
    refine q_getR kF_X10_13 dX10_bare_11 e2 ?_
    refine q_iconst (x := 0) rfl dX10_bare_14 ?_
    refine q_bind hyp (fun x3 e4 hyp => ?_)
    refine q_iald dX10_bare_15 e4 ?_
    refine q_icmp_ge (tgt := 56) dX10_bare_16 (by decide) (fun c5 => ?_) (fun c5 => ?_)
    · have hyp := q_pos c5 hyp
      refine q_iload_n 1 rfl dX10_bare_56 ?_
      exact q_iretH rfl rfl dX10_bare_57 hyp
    · have hyp := q_neg c5 hyp
      refine q_iload_n 1 rfl dX10_bare_19 ?_
      refine q_aload_n 0 rfl dX10_bare_20 ?_
      refine q_bind hyp (fun x6 e7 hyp => ?_)
      refine q_getR kF_X10_20 dX10_bare_21 e7 ?_
      refine q_iload_n 2 rfl dX10_bare_24 ?_
      refine q_bind hyp (fun x8 e9 hyp => ?_)
      refine q_iald dX10_bare_25 e9 ?_
      refine q_iconst (x := 3) rfl dX10_bare_26 ?_
      refine q_icmp_ne (tgt := 47) dX10_bare_27 (by decide) (fun c10 => ?_) (fun c10 => ?_)
      · have hyp := q_neg c10 hyp
        refine q_iconst (x := 0) rfl dX10_bare_47 ?_
        refine q_ior dX10_bare_48 ?_
        refine q_istore_n (ls' := [(1, .int (v1 ||| 0)), (0, .ref v0), (2, .int v2)]) (by decide) rfl dX10_bare_49 ?_
        refine q_iinc (ls' := [(2, .int (v2 + 1)), (1, .int (v1 ||| 0)), (0, .ref v0)]) 2 rfl rfl (by decide) rfl dX10_bare_50 ?_
        refine q_goto (tgt := 9) dX10_bare_53 (by decide) ?_
        exact q_sub [2, 1, 0] rfl (ih v0 (v1 ||| 0) (v2 + 1) h hyp)
      · have hyp := q_pos c10 hyp
        refine q_aload_n 0 rfl dX10_bare_30 ?_
        refine q_bind hyp (fun x11 e12 hyp => ?_)
        refine q_getR kF_X10_99 dX10_bare_31 e12 ?_
        refine q_iconst (x := 2) rfl dX10_bare_34 ?_
        refine q_iload_n 2 rfl dX10_bare_35 ?_
        refine q_iadd dX10_bare_36 ?_
        refine q_bind hyp (fun x13 e14 hyp => ?_)
        refine q_iald dX10_bare_37 e14 ?_
        refine q_if_le (tgt := 47) dX10_bare_38 (by decide) (fun c15 => ?_) (fun c15 => ?_)
        · have hyp := q_pos c15 hyp
          refine q_iconst (x := 0) rfl dX10_bare_47 ?_
          refine q_ior dX10_bare_48 ?_
          refine q_istore_n (ls' := [(1, .int (v1 ||| 0)), (0, .ref v0), (2, .int v2)]) (by decide) rfl dX10_bare_49 ?_
          refine q_iinc (ls' := [(2, .int (v2 + 1)), (1, .int (v1 ||| 0)), (0, .ref v0)]) 2 rfl rfl (by decide) rfl dX10_bare_50 ?_
          refine q_goto (tgt := 9) dX10_bare_53 (by decide) ?_
          exact q_sub [2, 1, 0] rfl (ih v0 (v1 ||| 0) (v2 + 1) h hyp)
        · have hyp := q_neg c15 hyp
          refine q_iconst (x := 1) rfl dX10_bare_41 ?_
          refine q_iload_n 2 rfl dX10_bare_42 ?_
          refine q_ishl dX10_bare_43 ?_
          refine q_goto (tgt := 48) dX10_bare_44 (by decide) ?_
          refine q_ior dX10_bare_48 ?_
          refine q_istore_n (ls' := [(1, .int (v1 ||| ((1 : Int32) <<< (v2 &&& 31)))), (0, .ref v0), (2, .int v2)]) (by decide) rfl dX10_bare_49 ?_
          refine q_iinc (ls' := [(2, .int (v2 + 1)), (1, .int (v1 ||| ((1 : Int32) <<< (v2 &&& 31)))), (0, .ref v0)]) 2 rfl rfl (by decide) rfl dX10_bare_50 ?_
          refine q_goto (tgt := 9) dX10_bare_53 (by decide) ?_
          exact q_sub [2, 1, 0] rfl (ih v0 (v1 ||| ((1 : Int32) <<< (v2 &&& 31))) (v2 + 1) h hyp)
def fX10_bare (n : Nat) (v0 : Nat) (h : qH) : Option (Int32 × qH) :=
  (isO h v0 10).bind fun _ =>
  (pF h v0 10 0 (.int 0)).bind fun h1 =>
  fX10_bare_b9 n n v0 0 0 h1
theorem obX10_bare {n : Nat} {v0 : Nat} {h : qH} {p : Int32 × qH} (hyp : fX10_bare n v0 h = some p) : ∃ fs, h.1 v0 = some (.inr (10, fs)) := by
  unfold fX10_bare at hyp
  exact q_bind hyp (fun _ e _ => isO_some e)
set_option maxHeartbeats 4000000 in
set_option maxRecDepth 100000 in
theorem okX10_bare {l : Launch} {n : Nat} {v0 : Nat} {h : qH} {p : Int32 × qH} (hyp : fX10_bare n v0 h = some p) : q_M l 1 yX10_bare cX10_bare 3 (some .int) [.ref v0] h (some (.int p.1)) p.2 := by
  obtain ⟨r, h'⟩ := p
  unfold fX10_bare at hyp
  refine q_bind hyp (fun _ _ hyp => ?_)
  refine q_M.of (by decide) (Nat.le_of_ble_eq_true rfl) ?_
  refine q_to (ls' := [(0, .ref v0)]) (st' := []) rfl rfl ?_
  refine q_aload_n 0 rfl dX10_bare_0 ?_
  refine q_iconst (x := 0) rfl dX10_bare_1 ?_
  refine q_bind hyp (fun h1 e2 hyp => ?_)
  refine q_putF kF_X10_136 (fun _ => ⟨rfl, rfl⟩) dX10_bare_2 e2 ?_
  refine q_iconst (x := 0) rfl dX10_bare_5 ?_
  refine q_istore_n (ls' := [(1, .int 0), (0, .ref v0)]) (by decide) rfl dX10_bare_6 ?_
  refine q_iconst (x := 0) rfl dX10_bare_7 ?_
  refine q_istore_n (ls' := [(2, .int 0), (1, .int 0), (0, .ref v0)]) (by decide) rfl dX10_bare_8 ?_
  exact q_sub [2, 1, 0] rfl (okX10_bare_b9 _ v0 0 0 h1 hyp)
theorem dX10_signAt_0 : decode cX10_signAt 0 = .ok (.iload_n 1, 1) := by decide +kernel
theorem dX10_signAt_1 : decode cX10_signAt 1 = .ok (.aload_n 0, 1) := by decide +kernel
theorem dX10_signAt_2 : decode cX10_signAt 2 = .ok (.getfield 145, 3) := by decide +kernel
theorem dX10_signAt_5 : decode cX10_signAt 5 = .ok (.if_icmp .ge 12, 3) := by decide +kernel
theorem dX10_signAt_8 : decode cX10_signAt 8 = .ok (.aload_n 0, 1) := by decide +kernel
theorem dX10_signAt_9 : decode cX10_signAt 9 = .ok (.getfield 7, 3) := by decide +kernel
theorem dX10_signAt_12 : decode cX10_signAt 12 = .ok (.iload_n 1, 1) := by decide +kernel
theorem dX10_signAt_13 : decode cX10_signAt 13 = .ok (.iaload, 1) := by decide +kernel
theorem dX10_signAt_14 : decode cX10_signAt 14 = .ok (.goto 4, 3) := by decide +kernel
theorem dX10_signAt_17 : decode cX10_signAt 17 = .ok (.iconst 0, 1) := by decide +kernel
theorem dX10_signAt_18 : decode cX10_signAt 18 = .ok (.ireturn, 1) := by decide +kernel
def fX10_signAt (v0 : Nat) (v1 : Int32) (h : qH) : Option (Int32 × qH) :=
  (isO h v0 10).bind fun _ =>
  (gI h v0 10 3).bind fun x1 =>
  if x1 ≤ v1 then
  (some (0, h))
  else
  ((gR h v0 10 2).bind fun x4 =>
  (aI .int h x4 v1).bind fun x6 =>
  some (x6, h))
theorem obX10_signAt {v0 : Nat} {v1 : Int32} {h : qH} {p : Int32 × qH} (hyp : fX10_signAt v0 v1 h = some p) : ∃ fs, h.1 v0 = some (.inr (10, fs)) := by
  unfold fX10_signAt at hyp
  exact q_bind hyp (fun _ e _ => isO_some e)
set_option maxHeartbeats 4000000 in
set_option maxRecDepth 100000 in
theorem okX10_signAt {l : Launch} {v0 : Nat} {v1 : Int32} {h : qH} {p : Int32 × qH} (hyp : fX10_signAt v0 v1 h = some p) : q_M l 1 yX10_signAt cX10_signAt 2 (some .int) [.ref v0, .int v1] h (some (.int p.1)) p.2 := by
  obtain ⟨r, h'⟩ := p
  unfold fX10_signAt at hyp
  refine q_bind hyp (fun _ _ hyp => ?_)
  refine q_M.of (by decide) (Nat.le_of_ble_eq_true rfl) ?_
  refine q_to (ls' := [(0, .ref v0), (1, .int v1)]) (st' := []) rfl rfl ?_
  refine q_iload_n 1 rfl dX10_signAt_0 ?_
  refine q_aload_n 0 rfl dX10_signAt_1 ?_
  refine q_bind hyp (fun x1 e2 hyp => ?_)
  refine q_getI kF_X10_145 dX10_signAt_2 e2 ?_
  refine q_icmp_ge (tgt := 17) dX10_signAt_5 (by decide) (fun c3 => ?_) (fun c3 => ?_)
  · have hyp := q_pos c3 hyp
    refine q_iconst (x := 0) rfl dX10_signAt_17 ?_
    exact q_iretH rfl rfl dX10_signAt_18 hyp
  · have hyp := q_neg c3 hyp
    refine q_aload_n 0 rfl dX10_signAt_8 ?_
    refine q_bind hyp (fun x4 e5 hyp => ?_)
    refine q_getR kF_X10_7 dX10_signAt_9 e5 ?_
    refine q_iload_n 1 rfl dX10_signAt_12 ?_
    refine q_bind hyp (fun x6 e7 hyp => ?_)
    refine q_iald dX10_signAt_13 e7 ?_
    refine q_goto (tgt := 18) dX10_signAt_14 (by decide) ?_
    exact q_iretH rfl rfl dX10_signAt_18 hyp
theorem dX10_nextToken_0 : decode cX10_nextToken 0 = .ok (.aload_n 0, 1) := by decide +kernel
theorem dX10_nextToken_1 : decode cX10_nextToken 1 = .ok (.getfield 148, 3) := by decide +kernel
theorem dX10_nextToken_4 : decode cX10_nextToken 4 = .ok (.aload_n 0, 1) := by decide +kernel
theorem dX10_nextToken_5 : decode cX10_nextToken 5 = .ok (.getfield 145, 3) := by decide +kernel
theorem dX10_nextToken_8 : decode cX10_nextToken 8 = .ok (.if_icmp .ge 44, 3) := by decide +kernel
theorem dX10_nextToken_11 : decode cX10_nextToken 11 = .ok (.aload_n 0, 1) := by decide +kernel
theorem dX10_nextToken_12 : decode cX10_nextToken 12 = .ok (.getfield 7, 3) := by decide +kernel
theorem dX10_nextToken_15 : decode cX10_nextToken 15 = .ok (.aload_n 0, 1) := by decide +kernel
theorem dX10_nextToken_16 : decode cX10_nextToken 16 = .ok (.getfield 148, 3) := by decide +kernel
theorem dX10_nextToken_19 : decode cX10_nextToken 19 = .ok (.iaload, 1) := by decide +kernel
theorem dX10_nextToken_20 : decode cX10_nextToken 20 = .ok (.bipush 32, 2) := by decide +kernel
theorem dX10_nextToken_22 : decode cX10_nextToken 22 = .ok (.if_icmp .eq 17, 3) := by decide +kernel
theorem dX10_nextToken_25 : decode cX10_nextToken 25 = .ok (.aload_n 0, 1) := by decide +kernel
theorem dX10_nextToken_26 : decode cX10_nextToken 26 = .ok (.getfield 7, 3) := by decide +kernel
theorem dX10_nextToken_29 : decode cX10_nextToken 29 = .ok (.aload_n 0, 1) := by decide +kernel
theorem dX10_nextToken_30 : decode cX10_nextToken 30 = .ok (.getfield 148, 3) := by decide +kernel
theorem dX10_nextToken_33 : decode cX10_nextToken 33 = .ok (.iaload, 1) := by decide +kernel
theorem dX10_nextToken_34 : decode cX10_nextToken 34 = .ok (.bipush 10, 2) := by decide +kernel
theorem dX10_nextToken_36 : decode cX10_nextToken 36 = .ok (.if_icmp .ne 16, 3) := by decide +kernel
theorem dX10_nextToken_39 : decode cX10_nextToken 39 = .ok (.aload_n 0, 1) := by decide +kernel
theorem dX10_nextToken_40 : decode cX10_nextToken 40 = .ok (.dup, 1) := by decide +kernel
theorem dX10_nextToken_41 : decode cX10_nextToken 41 = .ok (.getfield 148, 3) := by decide +kernel
theorem dX10_nextToken_44 : decode cX10_nextToken 44 = .ok (.iconst 1, 1) := by decide +kernel
theorem dX10_nextToken_45 : decode cX10_nextToken 45 = .ok (.iadd, 1) := by decide +kernel
theorem dX10_nextToken_46 : decode cX10_nextToken 46 = .ok (.putfield 148, 3) := by decide +kernel
theorem dX10_nextToken_49 : decode cX10_nextToken 49 = .ok (.goto (-49), 3) := by decide +kernel
theorem dX10_nextToken_52 : decode cX10_nextToken 52 = .ok (.aload_n 0, 1) := by decide +kernel
theorem dX10_nextToken_53 : decode cX10_nextToken 53 = .ok (.aload_n 0, 1) := by decide +kernel
theorem dX10_nextToken_54 : decode cX10_nextToken 54 = .ok (.getfield 148, 3) := by decide +kernel
theorem dX10_nextToken_57 : decode cX10_nextToken 57 = .ok (.putfield 151, 3) := by decide +kernel
theorem dX10_nextToken_60 : decode cX10_nextToken 60 = .ok (.aload_n 0, 1) := by decide +kernel
theorem dX10_nextToken_61 : decode cX10_nextToken 61 = .ok (.lconst 0, 1) := by decide +kernel
theorem dX10_nextToken_62 : decode cX10_nextToken 62 = .ok (.putfield 154, 3) := by decide +kernel
theorem dX10_nextToken_65 : decode cX10_nextToken 65 = .ok (.aload_n 0, 1) := by decide +kernel
theorem dX10_nextToken_66 : decode cX10_nextToken 66 = .ok (.iconst 0, 1) := by decide +kernel
theorem dX10_nextToken_67 : decode cX10_nextToken 67 = .ok (.putfield 158, 3) := by decide +kernel
theorem dX10_nextToken_70 : decode cX10_nextToken 70 = .ok (.aload_n 0, 1) := by decide +kernel
theorem dX10_nextToken_71 : decode cX10_nextToken 71 = .ok (.getfield 148, 3) := by decide +kernel
theorem dX10_nextToken_74 : decode cX10_nextToken 74 = .ok (.aload_n 0, 1) := by decide +kernel
theorem dX10_nextToken_75 : decode cX10_nextToken 75 = .ok (.getfield 145, 3) := by decide +kernel
theorem dX10_nextToken_78 : decode cX10_nextToken 78 = .ok (.if_icmp .ne 9, 3) := by decide +kernel
theorem dX10_nextToken_81 : decode cX10_nextToken 81 = .ok (.aload_n 0, 1) := by decide +kernel
theorem dX10_nextToken_82 : decode cX10_nextToken 82 = .ok (.iconst 0, 1) := by decide +kernel
theorem dX10_nextToken_83 : decode cX10_nextToken 83 = .ok (.putfield 161, 3) := by decide +kernel
theorem dX10_nextToken_86 : decode cX10_nextToken 86 = .ok (.return_, 1) := by decide +kernel
theorem dX10_nextToken_87 : decode cX10_nextToken 87 = .ok (.aload_n 0, 1) := by decide +kernel
theorem dX10_nextToken_88 : decode cX10_nextToken 88 = .ok (.getfield 7, 3) := by decide +kernel
theorem dX10_nextToken_91 : decode cX10_nextToken 91 = .ok (.aload_n 0, 1) := by decide +kernel
theorem dX10_nextToken_92 : decode cX10_nextToken 92 = .ok (.getfield 148, 3) := by decide +kernel
theorem dX10_nextToken_95 : decode cX10_nextToken 95 = .ok (.iaload, 1) := by decide +kernel
theorem dX10_nextToken_96 : decode cX10_nextToken 96 = .ok (.istore_n 1, 1) := by decide +kernel
theorem dX10_nextToken_97 : decode cX10_nextToken 97 = .ok (.iload_n 1, 1) := by decide +kernel
theorem dX10_nextToken_98 : decode cX10_nextToken 98 = .ok (.bipush 97, 2) := by decide +kernel
theorem dX10_nextToken_100 : decode cX10_nextToken 100 = .ok (.if_icmp .lt 112, 3) := by decide +kernel
theorem dX10_nextToken_103 : decode cX10_nextToken 103 = .ok (.iload_n 1, 1) := by decide +kernel
theorem dX10_nextToken_104 : decode cX10_nextToken 104 = .ok (.bipush 122, 2) := by decide +kernel
theorem dX10_nextToken_106 : decode cX10_nextToken 106 = .ok (.if_icmp .gt 106, 3) := by decide +kernel
theorem dX10_nextToken_109 : decode cX10_nextToken 109 = .ok (.aload_n 0, 1) := by decide +kernel
theorem dX10_nextToken_110 : decode cX10_nextToken 110 = .ok (.aload_n 0, 1) := by decide +kernel
theorem dX10_nextToken_111 : decode cX10_nextToken 111 = .ok (.getfield 148, 3) := by decide +kernel
theorem dX10_nextToken_114 : decode cX10_nextToken 114 = .ok (.invokevirtual 164, 3) := by decide +kernel
theorem dX10_nextToken_117 : decode cX10_nextToken 117 = .ok (.bipush 97, 2) := by decide +kernel
theorem dX10_nextToken_119 : decode cX10_nextToken 119 = .ok (.if_icmp .lt 69, 3) := by decide +kernel
theorem dX10_nextToken_122 : decode cX10_nextToken 122 = .ok (.aload_n 0, 1) := by decide +kernel
theorem dX10_nextToken_123 : decode cX10_nextToken 123 = .ok (.aload_n 0, 1) := by decide +kernel
theorem dX10_nextToken_124 : decode cX10_nextToken 124 = .ok (.getfield 148, 3) := by decide +kernel
theorem dX10_nextToken_127 : decode cX10_nextToken 127 = .ok (.invokevirtual 164, 3) := by decide +kernel
theorem dX10_nextToken_130 : decode cX10_nextToken 130 = .ok (.bipush 122, 2) := by decide +kernel
theorem dX10_nextToken_132 : decode cX10_nextToken 132 = .ok (.if_icmp .gt 56, 3) := by decide +kernel
theorem dX10_nextToken_135 : decode cX10_nextToken 135 = .ok (.aload_n 0, 1) := by decide +kernel
theorem dX10_nextToken_136 : decode cX10_nextToken 136 = .ok (.getfield 148, 3) := by decide +kernel
theorem dX10_nextToken_139 : decode cX10_nextToken 139 = .ok (.aload_n 0, 1) := by decide +kernel
theorem dX10_nextToken_140 : decode cX10_nextToken 140 = .ok (.getfield 151, 3) := by decide +kernel
theorem dX10_nextToken_143 : decode cX10_nextToken 143 = .ok (.isub, 1) := by decide +kernel
theorem dX10_nextToken_144 : decode cX10_nextToken 144 = .ok (.bipush 8, 2) := by decide +kernel
theorem dX10_nextToken_146 : decode cX10_nextToken 146 = .ok (.if_icmp .ge 29, 3) := by decide +kernel
theorem dX10_nextToken_149 : decode cX10_nextToken 149 = .ok (.aload_n 0, 1) := by decide +kernel
theorem dX10_nextToken_150 : decode cX10_nextToken 150 = .ok (.aload_n 0, 1) := by decide +kernel
theorem dX10_nextToken_151 : decode cX10_nextToken 151 = .ok (.getfield 154, 3) := by decide +kernel
theorem dX10_nextToken_154 : decode cX10_nextToken 154 = .ok (.ldc2_w 168, 3) := by decide +kernel
theorem dX10_nextToken_157 : decode cX10_nextToken 157 = .ok (.lmul, 1) := by decide +kernel
theorem dX10_nextToken_158 : decode cX10_nextToken 158 = .ok (.aload_n 0, 1) := by decide +kernel
theorem dX10_nextToken_159 : decode cX10_nextToken 159 = .ok (.aload_n 0, 1) := by decide +kernel
theorem dX10_nextToken_160 : decode cX10_nextToken 160 = .ok (.getfield 148, 3) := by decide +kernel
theorem dX10_nextToken_163 : decode cX10_nextToken 163 = .ok (.invokevirtual 164, 3) := by decide +kernel
theorem dX10_nextToken_166 : decode cX10_nextToken 166 = .ok (.i2l, 1) := by decide +kernel
theorem dX10_nextToken_167 : decode cX10_nextToken 167 = .ok (.ladd, 1) := by decide +kernel
theorem dX10_nextToken_168 : decode cX10_nextToken 168 = .ok (.ldc2_w 170, 3) := by decide +kernel
theorem dX10_nextToken_171 : decode cX10_nextToken 171 = .ok (.lsub, 1) := by decide +kernel
theorem dX10_nextToken_172 : decode cX10_nextToken 172 = .ok (.putfield 154, 3) := by decide +kernel
theorem dX10_nextToken_175 : decode cX10_nextToken 175 = .ok (.aload_n 0, 1) := by decide +kernel
theorem dX10_nextToken_176 : decode cX10_nextToken 176 = .ok (.dup, 1) := by decide +kernel
theorem dX10_nextToken_177 : decode cX10_nextToken 177 = .ok (.getfield 148, 3) := by decide +kernel
theorem dX10_nextToken_180 : decode cX10_nextToken 180 = .ok (.iconst 1, 1) := by decide +kernel
theorem dX10_nextToken_181 : decode cX10_nextToken 181 = .ok (.iadd, 1) := by decide +kernel
theorem dX10_nextToken_182 : decode cX10_nextToken 182 = .ok (.putfield 148, 3) := by decide +kernel
theorem dX10_nextToken_185 : decode cX10_nextToken 185 = .ok (.goto (-76), 3) := by decide +kernel
theorem dX10_nextToken_188 : decode cX10_nextToken 188 = .ok (.aload_n 0, 1) := by decide +kernel
theorem dX10_nextToken_189 : decode cX10_nextToken 189 = .ok (.aload_n 0, 1) := by decide +kernel
theorem dX10_nextToken_190 : decode cX10_nextToken 190 = .ok (.getfield 148, 3) := by decide +kernel
theorem dX10_nextToken_193 : decode cX10_nextToken 193 = .ok (.aload_n 0, 1) := by decide +kernel
theorem dX10_nextToken_194 : decode cX10_nextToken 194 = .ok (.getfield 151, 3) := by decide +kernel
theorem dX10_nextToken_197 : decode cX10_nextToken 197 = .ok (.isub, 1) := by decide +kernel
theorem dX10_nextToken_198 : decode cX10_nextToken 198 = .ok (.bipush 8, 2) := by decide +kernel
theorem dX10_nextToken_200 : decode cX10_nextToken 200 = .ok (.if_icmp .le 7, 3) := by decide +kernel
theorem dX10_nextToken_203 : decode cX10_nextToken 203 = .ok (.iconst 4, 1) := by decide +kernel
theorem dX10_nextToken_204 : decode cX10_nextToken 204 = .ok (.goto 4, 3) := by decide +kernel
theorem dX10_nextToken_207 : decode cX10_nextToken 207 = .ok (.iconst 1, 1) := by decide +kernel
theorem dX10_nextToken_208 : decode cX10_nextToken 208 = .ok (.putfield 161, 3) := by decide +kernel
theorem dX10_nextToken_211 : decode cX10_nextToken 211 = .ok (.return_, 1) := by decide +kernel
theorem dX10_nextToken_212 : decode cX10_nextToken 212 = .ok (.iload_n 1, 1) := by decide +kernel
theorem dX10_nextToken_213 : decode cX10_nextToken 213 = .ok (.bipush 48, 2) := by decide +kernel
theorem dX10_nextToken_215 : decode cX10_nextToken 215 = .ok (.if_icmp .lt 107, 3) := by decide +kernel
theorem dX10_nextToken_218 : decode cX10_nextToken 218 = .ok (.iload_n 1, 1) := by decide +kernel
theorem dX10_nextToken_219 : decode cX10_nextToken 219 = .ok (.bipush 57, 2) := by decide +kernel
theorem dX10_nextToken_221 : decode cX10_nextToken 221 = .ok (.if_icmp .gt 101, 3) := by decide +kernel
theorem dX10_nextToken_224 : decode cX10_nextToken 224 = .ok (.aload_n 0, 1) := by decide +kernel
theorem dX10_nextToken_225 : decode cX10_nextToken 225 = .ok (.aload_n 0, 1) := by decide +kernel
theorem dX10_nextToken_226 : decode cX10_nextToken 226 = .ok (.getfield 148, 3) := by decide +kernel
theorem dX10_nextToken_229 : decode cX10_nextToken 229 = .ok (.invokevirtual 164, 3) := by decide +kernel
theorem dX10_nextToken_232 : decode cX10_nextToken 232 = .ok (.bipush 48, 2) := by decide +kernel
theorem dX10_nextToken_234 : decode cX10_nextToken 234 = .ok (.if_icmp .lt 65, 3) := by decide +kernel
theorem dX10_nextToken_237 : decode cX10_nextToken 237 = .ok (.aload_n 0, 1) := by decide +kernel
theorem dX10_nextToken_238 : decode cX10_nextToken 238 = .ok (.aload_n 0, 1) := by decide +kernel
theorem dX10_nextToken_239 : decode cX10_nextToken 239 = .ok (.getfield 148, 3) := by decide +kernel
theorem dX10_nextToken_242 : decode cX10_nextToken 242 = .ok (.invokevirtual 164, 3) := by decide +kernel
theorem dX10_nextToken_245 : decode cX10_nextToken 245 = .ok (.bipush 57, 2) := by decide +kernel
theorem dX10_nextToken_247 : decode cX10_nextToken 247 = .ok (.if_icmp .gt 52, 3) := by decide +kernel
theorem dX10_nextToken_250 : decode cX10_nextToken 250 = .ok (.aload_n 0, 1) := by decide +kernel
theorem dX10_nextToken_251 : decode cX10_nextToken 251 = .ok (.getfield 148, 3) := by decide +kernel
theorem dX10_nextToken_254 : decode cX10_nextToken 254 = .ok (.aload_n 0, 1) := by decide +kernel
theorem dX10_nextToken_255 : decode cX10_nextToken 255 = .ok (.getfield 151, 3) := by decide +kernel
theorem dX10_nextToken_258 : decode cX10_nextToken 258 = .ok (.isub, 1) := by decide +kernel
theorem dX10_nextToken_259 : decode cX10_nextToken 259 = .ok (.iconst 4, 1) := by decide +kernel
theorem dX10_nextToken_260 : decode cX10_nextToken 260 = .ok (.if_icmp .ge 26, 3) := by decide +kernel
theorem dX10_nextToken_263 : decode cX10_nextToken 263 = .ok (.aload_n 0, 1) := by decide +kernel
theorem dX10_nextToken_264 : decode cX10_nextToken 264 = .ok (.aload_n 0, 1) := by decide +kernel
theorem dX10_nextToken_265 : decode cX10_nextToken 265 = .ok (.getfield 158, 3) := by decide +kernel
theorem dX10_nextToken_268 : decode cX10_nextToken 268 = .ok (.bipush 10, 2) := by decide +kernel
theorem dX10_nextToken_270 : decode cX10_nextToken 270 = .ok (.imul, 1) := by decide +kernel
theorem dX10_nextToken_271 : decode cX10_nextToken 271 = .ok (.aload_n 0, 1) := by decide +kernel
theorem dX10_nextToken_272 : decode cX10_nextToken 272 = .ok (.aload_n 0, 1) := by decide +kernel
theorem dX10_nextToken_273 : decode cX10_nextToken 273 = .ok (.getfield 148, 3) := by decide +kernel
theorem dX10_nextToken_276 : decode cX10_nextToken 276 = .ok (.invokevirtual 164, 3) := by decide +kernel
theorem dX10_nextToken_279 : decode cX10_nextToken 279 = .ok (.iadd, 1) := by decide +kernel
theorem dX10_nextToken_280 : decode cX10_nextToken 280 = .ok (.bipush 48, 2) := by decide +kernel
theorem dX10_nextToken_282 : decode cX10_nextToken 282 = .ok (.isub, 1) := by decide +kernel
theorem dX10_nextToken_283 : decode cX10_nextToken 283 = .ok (.putfield 158, 3) := by decide +kernel
theorem dX10_nextToken_286 : decode cX10_nextToken 286 = .ok (.aload_n 0, 1) := by decide +kernel
theorem dX10_nextToken_287 : decode cX10_nextToken 287 = .ok (.dup, 1) := by decide +kernel
theorem dX10_nextToken_288 : decode cX10_nextToken 288 = .ok (.getfield 148, 3) := by decide +kernel
theorem dX10_nextToken_291 : decode cX10_nextToken 291 = .ok (.iconst 1, 1) := by decide +kernel
theorem dX10_nextToken_292 : decode cX10_nextToken 292 = .ok (.iadd, 1) := by decide +kernel
theorem dX10_nextToken_293 : decode cX10_nextToken 293 = .ok (.putfield 148, 3) := by decide +kernel
theorem dX10_nextToken_296 : decode cX10_nextToken 296 = .ok (.goto (-72), 3) := by decide +kernel
theorem dX10_nextToken_299 : decode cX10_nextToken 299 = .ok (.aload_n 0, 1) := by decide +kernel
theorem dX10_nextToken_300 : decode cX10_nextToken 300 = .ok (.aload_n 0, 1) := by decide +kernel
theorem dX10_nextToken_301 : decode cX10_nextToken 301 = .ok (.getfield 148, 3) := by decide +kernel
theorem dX10_nextToken_304 : decode cX10_nextToken 304 = .ok (.aload_n 0, 1) := by decide +kernel
theorem dX10_nextToken_305 : decode cX10_nextToken 305 = .ok (.getfield 151, 3) := by decide +kernel
theorem dX10_nextToken_308 : decode cX10_nextToken 308 = .ok (.isub, 1) := by decide +kernel
theorem dX10_nextToken_309 : decode cX10_nextToken 309 = .ok (.iconst 4, 1) := by decide +kernel
theorem dX10_nextToken_310 : decode cX10_nextToken 310 = .ok (.if_icmp .le 7, 3) := by decide +kernel
theorem dX10_nextToken_313 : decode cX10_nextToken 313 = .ok (.iconst 4, 1) := by decide +kernel
theorem dX10_nextToken_314 : decode cX10_nextToken 314 = .ok (.goto 4, 3) := by decide +kernel
theorem dX10_nextToken_317 : decode cX10_nextToken 317 = .ok (.iconst 2, 1) := by decide +kernel
theorem dX10_nextToken_318 : decode cX10_nextToken 318 = .ok (.putfield 161, 3) := by decide +kernel
theorem dX10_nextToken_321 : decode cX10_nextToken 321 = .ok (.return_, 1) := by decide +kernel
theorem dX10_nextToken_322 : decode cX10_nextToken 322 = .ok (.aload_n 0, 1) := by decide +kernel
theorem dX10_nextToken_323 : decode cX10_nextToken 323 = .ok (.dup, 1) := by decide +kernel
theorem dX10_nextToken_324 : decode cX10_nextToken 324 = .ok (.getfield 148, 3) := by decide +kernel
theorem dX10_nextToken_327 : decode cX10_nextToken 327 = .ok (.iconst 1, 1) := by decide +kernel
theorem dX10_nextToken_328 : decode cX10_nextToken 328 = .ok (.iadd, 1) := by decide +kernel
theorem dX10_nextToken_329 : decode cX10_nextToken 329 = .ok (.putfield 148, 3) := by decide +kernel
theorem dX10_nextToken_332 : decode cX10_nextToken 332 = .ok (.aload_n 0, 1) := by decide +kernel
theorem dX10_nextToken_333 : decode cX10_nextToken 333 = .ok (.iload_n 1, 1) := by decide +kernel
theorem dX10_nextToken_334 : decode cX10_nextToken 334 = .ok (.bipush 40, 2) := by decide +kernel
theorem dX10_nextToken_336 : decode cX10_nextToken 336 = .ok (.if_icmp .lt 9, 3) := by decide +kernel
theorem dX10_nextToken_339 : decode cX10_nextToken 339 = .ok (.iload_n 1, 1) := by decide +kernel
theorem dX10_nextToken_340 : decode cX10_nextToken 340 = .ok (.bipush 43, 2) := by decide +kernel
theorem dX10_nextToken_342 : decode cX10_nextToken 342 = .ok (.if_icmp .le 21, 3) := by decide +kernel
theorem dX10_nextToken_345 : decode cX10_nextToken 345 = .ok (.iload_n 1, 1) := by decide +kernel
theorem dX10_nextToken_346 : decode cX10_nextToken 346 = .ok (.bipush 45, 2) := by decide +kernel
theorem dX10_nextToken_348 : decode cX10_nextToken 348 = .ok (.if_icmp .eq 15, 3) := by decide +kernel
theorem dX10_nextToken_351 : decode cX10_nextToken 351 = .ok (.iload_n 1, 1) := by decide +kernel
theorem dX10_nextToken_352 : decode cX10_nextToken 352 = .ok (.bipush 59, 2) := by decide +kernel
theorem dX10_nextToken_354 : decode cX10_nextToken 354 = .ok (.if_icmp .lt 13, 3) := by decide +kernel
theorem dX10_nextToken_357 : decode cX10_nextToken 357 = .ok (.iload_n 1, 1) := by decide +kernel
theorem dX10_nextToken_358 : decode cX10_nextToken 358 = .ok (.bipush 61, 2) := by decide +kernel
theorem dX10_nextToken_360 : decode cX10_nextToken 360 = .ok (.if_icmp .gt 7, 3) := by decide +kernel
theorem dX10_nextToken_363 : decode cX10_nextToken 363 = .ok (.iconst 3, 1) := by decide +kernel
theorem dX10_nextToken_364 : decode cX10_nextToken 364 = .ok (.goto 4, 3) := by decide +kernel
theorem dX10_nextToken_367 : decode cX10_nextToken 367 = .ok (.iconst 4, 1) := by decide +kernel
theorem dX10_nextToken_368 : decode cX10_nextToken 368 = .ok (.putfield 161, 3) := by decide +kernel
theorem dX10_nextToken_371 : decode cX10_nextToken 371 = .ok (.return_, 1) := by decide +kernel
def fX10_nextToken_b368 (n : Nat) (s0 : Int32) (s1 : Nat) (h : qH) : Option (qH) :=
  (pF h s1 10 6 (.int s0)).bind fun h1 =>
  some h1
set_option maxHeartbeats 4000000 in
set_option maxRecDepth 100000 in
theorem okX10_nextToken_b368 {l : Launch} {n : Nat} {s0 : Int32} {s1 : Nat} {h : qH} {h' : qH} (hyp : fX10_nextToken_b368 n s0 s1 h = some h') : q_W l 2 yX10_nextToken cX10_nextToken 2 none none h' 368 [] [.int s0, .ref s1] h := by
  unfold fX10_nextToken_b368 at hyp
  refine q_bind hyp (fun h1 e2 hyp => ?_)
  refine q_putF kF_X10_161 (fun _ => ⟨rfl, rfl⟩) dX10_nextToken_368 e2 ?_
  exact q_vretH rfl dX10_nextToken_371 hyp
def fX10_nextToken_b367 (n : Nat) (s0 : Nat) (h : qH) : Option (qH) :=
  fX10_nextToken_b368 n 4 s0 h
set_option maxHeartbeats 4000000 in
set_option maxRecDepth 100000 in
theorem okX10_nextToken_b367 {l : Launch} {n : Nat} {s0 : Nat} {h : qH} {h' : qH} (hyp : fX10_nextToken_b367 n s0 h = some h') : q_W l 2 yX10_nextToken cX10_nextToken 2 none none h' 367 [] [.ref s0] h := by
  unfold fX10_nextToken_b367 at hyp
  refine q_iconst (x := 4) rfl dX10_nextToken_367 ?_
  exact q_sub [] rfl (okX10_nextToken_b368 hyp)
def fX10_nextToken_b363 (n : Nat) (s0 : Nat) (h : qH) : Option (qH) :=
  fX10_nextToken_b368 n 3 s0 h
set_option maxHeartbeats 4000000 in
set_option maxRecDepth 100000 in
theorem okX10_nextToken_b363 {l : Launch} {n : Nat} {s0 : Nat} {h : qH} {h' : qH} (hyp : fX10_nextToken_b363 n s0 h = some h') : q_W l 2 yX10_nextToken cX10_nextToken 2 none none h' 363 [] [.ref s0] h := by
  unfold fX10_nextToken_b363 at hyp
  refine q_iconst (x := 3) rfl dX10_nextToken_363 ?_
  refine q_goto (tgt := 368) dX10_nextToken_364 (by decide) ?_
  exact q_sub [] rfl (okX10_nextToken_b368 hyp)
def fX10_nextToken_b345 (n : Nat) (v1 : Int32) (s0 : Nat) (h : qH) : Option (qH) :=
  if v1 = 45 then
  (fX10_nextToken_b363 n s0 h)
  else
  (if v1 < 59 then
  (fX10_nextToken_b367 n s0 h)
  else
  (if 61 < v1 then
  (fX10_nextToken_b367 n s0 h)
  else
  (fX10_nextToken_b363 n s0 h)))
set_option maxHeartbeats 4000000 in
set_option maxRecDepth 100000 in
theorem okX10_nextToken_b345 {l : Launch} {n : Nat} {v1 : Int32} {s0 : Nat} {h : qH} {h' : qH} (hyp : fX10_nextToken_b345 n v1 s0 h = some h') : q_W l 2 yX10_nextToken cX10_nextToken 2 none none h' 345 [(1, .int v1)] [.ref s0] h := by
  unfold fX10_nextToken_b345 at hyp
  refine q_iload_n 0 rfl dX10_nextToken_345 ?_
  refine q_bipush (x := 45) (by decide) dX10_nextToken_346 ?_
  refine q_icmp_eq (tgt := 363) dX10_nextToken_348 (by decide) (fun c1 => ?_) (fun c1 => ?_)
  · have hyp := q_pos c1 hyp
    exact q_sub [] rfl (okX10_nextToken_b363 hyp)
  · have hyp := q_neg c1 hyp
    refine q_iload_n 0 rfl dX10_nextToken_351 ?_
    refine q_bipush (x := 59) (by decide) dX10_nextToken_352 ?_
    refine q_icmp_lt (tgt := 367) dX10_nextToken_354 (by decide) (fun c2 => ?_) (fun c2 => ?_)
    · have hyp := q_pos c2 hyp
      exact q_sub [] rfl (okX10_nextToken_b367 hyp)
    · have hyp := q_neg c2 hyp
      refine q_iload_n 0 rfl dX10_nextToken_357 ?_
      refine q_bipush (x := 61) (by decide) dX10_nextToken_358 ?_
      refine q_icmp_gt (tgt := 367) dX10_nextToken_360 (by decide) (fun c3 => ?_) (fun c3 => ?_)
      · have hyp := q_pos c3 hyp
        exact q_sub [] rfl (okX10_nextToken_b367 hyp)
      · have hyp := q_neg c3 hyp
        exact q_sub [] rfl (okX10_nextToken_b363 hyp)
def fX10_nextToken_b322 (n : Nat) (v0 : Nat) (v1 : Int32) (h : qH) : Option (qH) :=
  (gI h v0 10 4).bind fun x1 =>
  (pF h v0 10 4 (.int (x1 + 1))).bind fun h3 =>
  if v1 < 40 then
  (fX10_nextToken_b345 n v1 v0 h3)
  else
  (if v1 ≤ 43 then
  (fX10_nextToken_b363 n v0 h3)
  else
  (fX10_nextToken_b345 n v1 v0 h3))
set_option maxHeartbeats 4000000 in
set_option maxRecDepth 100000 in
theorem okX10_nextToken_b322 {l : Launch} {n : Nat} {v0 : Nat} {v1 : Int32} {h : qH} {h' : qH} (hyp : fX10_nextToken_b322 n v0 v1 h = some h') : q_W l 2 yX10_nextToken cX10_nextToken 2 none none h' 322 [(0, .ref v0), (1, .int v1)] [] h := by
  unfold fX10_nextToken_b322 at hyp
  refine q_aload_n 0 rfl dX10_nextToken_322 ?_
  refine q_dup rfl dX10_nextToken_323 ?_
  refine q_bind hyp (fun x1 e2 hyp => ?_)
  refine q_getI kF_X10_148 dX10_nextToken_324 e2 ?_
  refine q_iconst (x := 1) rfl dX10_nextToken_327 ?_
  refine q_iadd dX10_nextToken_328 ?_
  refine q_bind hyp (fun h3 e4 hyp => ?_)
  refine q_putF kF_X10_148 (fun _ => ⟨rfl, rfl⟩) dX10_nextToken_329 e4 ?_
  refine q_aload_n 0 rfl dX10_nextToken_332 ?_
  refine q_iload_n 1 rfl dX10_nextToken_333 ?_
  refine q_bipush (x := 40) (by decide) dX10_nextToken_334 ?_
  refine q_icmp_lt (tgt := 345) dX10_nextToken_336 (by decide) (fun c5 => ?_) (fun c5 => ?_)
  · have hyp := q_pos c5 hyp
    exact q_sub [1] rfl (okX10_nextToken_b345 hyp)
  · have hyp := q_neg c5 hyp
    refine q_iload_n 1 rfl dX10_nextToken_339 ?_
    refine q_bipush (x := 43) (by decide) dX10_nextToken_340 ?_
    refine q_icmp_le (tgt := 363) dX10_nextToken_342 (by decide) (fun c6 => ?_) (fun c6 => ?_)
    · have hyp := q_pos c6 hyp
      exact q_sub [] rfl (okX10_nextToken_b363 hyp)
    · have hyp := q_neg c6 hyp
      exact q_sub [1] rfl (okX10_nextToken_b345 hyp)
def fX10_nextToken_b318 (n : Nat) (s0 : Int32) (s1 : Nat) (h : qH) : Option (qH) :=
  (pF h s1 10 6 (.int s0)).bind fun h1 =>
  some h1
set_option maxHeartbeats 4000000 in
set_option maxRecDepth 100000 in
theorem okX10_nextToken_b318 {l : Launch} {n : Nat} {s0 : Int32} {s1 : Nat} {h : qH} {h' : qH} (hyp : fX10_nextToken_b318 n s0 s1 h = some h') : q_W l 2 yX10_nextToken cX10_nextToken 2 none none h' 318 [] [.int s0, .ref s1] h := by
  unfold fX10_nextToken_b318 at hyp
  refine q_bind hyp (fun h1 e2 hyp => ?_)
  refine q_putF kF_X10_161 (fun _ => ⟨rfl, rfl⟩) dX10_nextToken_318 e2 ?_
  exact q_vretH rfl dX10_nextToken_321 hyp
def fX10_nextToken_b299 (n : Nat) (v0 : Nat) (h : qH) : Option (qH) :=
  (gI h v0 10 4).bind fun x1 =>
  (gI h v0 10 5).bind fun x3 =>
  if (x1 - x3) ≤ 4 then
  (fX10_nextToken_b318 n 2 v0 h)
  else
  (fX10_nextToken_b318 n 4 v0 h)
set_option maxHeartbeats 4000000 in
set_option maxRecDepth 100000 in
theorem okX10_nextToken_b299 {l : Launch} {n : Nat} {v0 : Nat} {h : qH} {h' : qH} (hyp : fX10_nextToken_b299 n v0 h = some h') : q_W l 2 yX10_nextToken cX10_nextToken 2 none none h' 299 [(0, .ref v0)] [] h := by
  unfold fX10_nextToken_b299 at hyp
  refine q_aload_n 0 rfl dX10_nextToken_299 ?_
  refine q_aload_n 0 rfl dX10_nextToken_300 ?_
  refine q_bind hyp (fun x1 e2 hyp => ?_)
  refine q_getI kF_X10_148 dX10_nextToken_301 e2 ?_
  refine q_aload_n 0 rfl dX10_nextToken_304 ?_
  refine q_bind hyp (fun x3 e4 hyp => ?_)
  refine q_getI kF_X10_151 dX10_nextToken_305 e4 ?_
  refine q_isub dX10_nextToken_308 ?_
  refine q_iconst (x := 4) rfl dX10_nextToken_309 ?_
  refine q_icmp_le (tgt := 317) dX10_nextToken_310 (by decide) (fun c5 => ?_) (fun c5 => ?_)
  · have hyp := q_pos c5 hyp
    refine q_iconst (x := 2) rfl dX10_nextToken_317 ?_
    exact q_sub [] rfl (okX10_nextToken_b318 hyp)
  · have hyp := q_neg c5 hyp
    refine q_iconst (x := 4) rfl dX10_nextToken_313 ?_
    refine q_goto (tgt := 318) dX10_nextToken_314 (by decide) ?_
    exact q_sub [] rfl (okX10_nextToken_b318 hyp)
def fX10_nextToken_b286 (n : Nat) (K224 : Nat → qH → Option (qH)) (v0 : Nat) (h : qH) : Option (qH) :=
  (gI h v0 10 4).bind fun x1 =>
  (pF h v0 10 4 (.int (x1 + 1))).bind fun h3 =>
  K224 v0 h3
set_option maxHeartbeats 4000000 in
set_option maxRecDepth 100000 in
theorem okX10_nextToken_b286 {l : Launch} {n : Nat} {K224 : Nat → qH → Option (qH)} {v0 : Nat} {h : qH} {h' : qH} (hK224 : ∀ (v0 : Nat) (h : qH), K224 v0 h = some h' → q_W l 2 yX10_nextToken cX10_nextToken 2 none none h' 224 [(0, .ref v0)] [] h) (hyp : fX10_nextToken_b286 n K224 v0 h = some h') : q_W l 2 yX10_nextToken cX10_nextToken 2 none none h' 286 [(0, .ref v0)] [] h := by
  unfold fX10_nextToken_b286 at hyp
  refine q_aload_n 0 rfl dX10_nextToken_286 ?_
  refine q_dup rfl dX10_nextToken_287 ?_
  refine q_bind hyp (fun x1 e2 hyp => ?_)
  refine q_getI kF_X10_148 dX10_nextToken_288 e2 ?_
  refine q_iconst (x := 1) rfl dX10_nextToken_291 ?_
  refine q_iadd dX10_nextToken_292 ?_
  refine q_bind hyp (fun h3 e4 hyp => ?_)
  refine q_putF kF_X10_148 (fun _ => ⟨rfl, rfl⟩) dX10_nextToken_293 e4 ?_
  refine q_goto (tgt := 224) dX10_nextToken_296 (by decide) ?_
  exact q_sub [0] rfl (hK224 v0 h3 hyp)
def fX10_nextToken_b224 (n : Nat) : Nat → Nat → qH → Option (qH)
  | 0, _, _ => none
  | w + 1, v0, h =>
    (gI h v0 10 4).bind fun x1 =>
    (fX10_signAt v0 x1 h).bind fun p3 =>
    if p3.1 < 48 then
    (fX10_nextToken_b299 n v0 p3.2)
    else
    ((gI p3.2 v0 10 4).bind fun x5 =>
    (fX10_signAt v0 x5 p3.2).bind fun p7 =>
    if 57 < p7.1 then
    (fX10_nextToken_b299 n v0 p7.2)
    else
    ((gI p7.2 v0 10 4).bind fun x9 =>
    (gI p7.2 v0 10 5).bind fun x11 =>
    if 4 ≤ (x9 - x11) then
    (fX10_nextToken_b286 n (fX10_nextToken_b224 n w) v0 p7.2)
    else
    ((gI p7.2 v0 10 8).bind fun x14 =>
    (gI p7.2 v0 10 4).bind fun x16 =>
    (fX10_signAt v0 x16 p7.2).bind fun p18 =>
    (pF p18.2 v0 10 8 (.int (((x14 * 10) + p18.1) - 48))).bind fun h19 =>
    fX10_nextToken_b286 n (fX10_nextToken_b224 n w) v0 h19)))
set_option maxHeartbeats 4000000 in
set_option maxRecDepth 100000 in
theorem okX10_nextToken_b224 {l : Launch} {n : Nat} {h' : qH} : ∀ (w : Nat) (v0 : Nat) (h : qH), fX10_nextToken_b224 n w v0 h = some h' → q_W l 2 yX10_nextToken cX10_nextToken 2 none none h' 224 [(0, .ref v0)] [] h := by
  intro w
  induction w with
  | zero => intro v0 h hyp; cases hyp
  | succ w ih =>
    intro v0 h hyp
    unfold fX10_nextToken_b224 at hyp
    refine q_aload_n 0 rfl dX10_nextToken_224 ?_
    refine q_aload_n 0 rfl dX10_nextToken_225 ?_
    refine q_bind hyp (fun x1 e2 hyp => ?_)
    refine q_getI kF_X10_148 dX10_nextToken_226 e2 ?_
    refine q_bind hyp (fun p3 e23 hyp => ?_)
    refine q_callV (as := [.int x1]) (st := []) kY_X10_signAt kL_X10_164 (okX10_signAt (l := l) e23) (by decide) rfl (obX10_signAt e23) (Nat.le_of_ble_eq_true rfl) dX10_nextToken_229 ?_
    refine q_to (ls' := [(0, .ref v0)]) (st' := [.int p3.1]) rfl rfl ?_
    refine q_bipush (x := 48) (by decide) dX10_nextToken_232 ?_
    refine q_icmp_lt (tgt := 299) dX10_nextToken_234 (by decide) (fun c4 => ?_) (fun c4 => ?_)
    · have hyp := q_pos c4 hyp
      exact q_sub [0] rfl (okX10_nextToken_b299 hyp)
    · have hyp := q_neg c4 hyp
      refine q_aload_n 0 rfl dX10_nextToken_237 ?_
      refine q_aload_n 0 rfl dX10_nextToken_238 ?_
      refine q_bind hyp (fun x5 e6 hyp => ?_)
      refine q_getI kF_X10_148 dX10_nextToken_239 e6 ?_
      refine q_bind hyp (fun p7 e22 hyp => ?_)
      refine q_callV (as := [.int x5]) (st := []) kY_X10_signAt kL_X10_164 (okX10_signAt (l := l) e22) (by decide) rfl (obX10_signAt e22) (Nat.le_of_ble_eq_true rfl) dX10_nextToken_242 ?_
      refine q_to (ls' := [(0, .ref v0)]) (st' := [.int p7.1]) rfl rfl ?_
      refine q_bipush (x := 57) (by decide) dX10_nextToken_245 ?_
      refine q_icmp_gt (tgt := 299) dX10_nextToken_247 (by decide) (fun c8 => ?_) (fun c8 => ?_)
      · have hyp := q_pos c8 hyp
        exact q_sub [0] rfl (okX10_nextToken_b299 hyp)
      · have hyp := q_neg c8 hyp
        refine q_aload_n 0 rfl dX10_nextToken_250 ?_
        refine q_bind hyp (fun x9 e10 hyp => ?_)
        refine q_getI kF_X10_148 dX10_nextToken_251 e10 ?_
        refine q_aload_n 0 rfl dX10_nextToken_254 ?_
        refine q_bind hyp (fun x11 e12 hyp => ?_)
        refine q_getI kF_X10_151 dX10_nextToken_255 e12 ?_
        refine q_isub dX10_nextToken_258 ?_
        refine q_iconst (x := 4) rfl dX10_nextToken_259 ?_
        refine q_icmp_ge (tgt := 286) dX10_nextToken_260 (by decide) (fun c13 => ?_) (fun c13 => ?_)
        · have hyp := q_pos c13 hyp
          exact q_sub [0] rfl (okX10_nextToken_b286 ih hyp)
        · have hyp := q_neg c13 hyp
          refine q_aload_n 0 rfl dX10_nextToken_263 ?_
          refine q_aload_n 0 rfl dX10_nextToken_264 ?_
          refine q_bind hyp (fun x14 e15 hyp => ?_)
          refine q_getI kF_X10_158 dX10_nextToken_265 e15 ?_
          refine q_bipush (x := 10) (by decide) dX10_nextToken_268 ?_
          refine q_imul dX10_nextToken_270 ?_
          refine q_aload_n 0 rfl dX10_nextToken_271 ?_
          refine q_aload_n 0 rfl dX10_nextToken_272 ?_
          refine q_bind hyp (fun x16 e17 hyp => ?_)
          refine q_getI kF_X10_148 dX10_nextToken_273 e17 ?_
          refine q_bind hyp (fun p18 e21 hyp => ?_)
          refine q_callV (as := [.int x16]) (st := [.int (x14 * 10), .ref v0]) kY_X10_signAt kL_X10_164 (okX10_signAt (l := l) e21) (by decide) rfl (obX10_signAt e21) (Nat.le_of_ble_eq_true rfl) dX10_nextToken_276 ?_
          refine q_to (ls' := [(0, .ref v0)]) (st' := [.int p18.1, .int (x14 * 10), .ref v0]) rfl rfl ?_
          refine q_iadd dX10_nextToken_279 ?_
          refine q_bipush (x := 48) (by decide) dX10_nextToken_280 ?_
          refine q_isub dX10_nextToken_282 ?_
          refine q_bind hyp (fun h19 e20 hyp => ?_)
          refine q_putF kF_X10_158 (fun _ => ⟨rfl, rfl⟩) dX10_nextToken_283 e20 ?_
          exact q_sub [0] rfl (okX10_nextToken_b286 ih hyp)
def fX10_nextToken_b212 (n : Nat) (v0 : Nat) (v1 : Int32) (h : qH) : Option (qH) :=
  if v1 < 48 then
  (fX10_nextToken_b322 n v0 v1 h)
  else
  (if 57 < v1 then
  (fX10_nextToken_b322 n v0 v1 h)
  else
  (fX10_nextToken_b224 n n v0 h))
set_option maxHeartbeats 4000000 in
set_option maxRecDepth 100000 in
theorem okX10_nextToken_b212 {l : Launch} {n : Nat} {v0 : Nat} {v1 : Int32} {h : qH} {h' : qH} (hyp : fX10_nextToken_b212 n v0 v1 h = some h') : q_W l 2 yX10_nextToken cX10_nextToken 2 none none h' 212 [(0, .ref v0), (1, .int v1)] [] h := by
  unfold fX10_nextToken_b212 at hyp
  refine q_iload_n 1 rfl dX10_nextToken_212 ?_
  refine q_bipush (x := 48) (by decide) dX10_nextToken_213 ?_
  refine q_icmp_lt (tgt := 322) dX10_nextToken_215 (by decide) (fun c1 => ?_) (fun c1 => ?_)
  · have hyp := q_pos c1 hyp
    exact q_sub [0, 1] rfl (okX10_nextToken_b322 hyp)
  · have hyp := q_neg c1 hyp
    refine q_iload_n 1 rfl dX10_nextToken_218 ?_
    refine q_bipush (x := 57) (by decide) dX10_nextToken_219 ?_
    refine q_icmp_gt (tgt := 322) dX10_nextToken_221 (by decide) (fun c2 => ?_) (fun c2 => ?_)
    · have hyp := q_pos c2 hyp
      exact q_sub [0, 1] rfl (okX10_nextToken_b322 hyp)
    · have hyp := q_neg c2 hyp
      exact q_sub [0] rfl (okX10_nextToken_b224 _ v0 h hyp)
def fX10_nextToken_b208 (n : Nat) (s0 : Int32) (s1 : Nat) (h : qH) : Option (qH) :=
  (pF h s1 10 6 (.int s0)).bind fun h1 =>
  some h1
set_option maxHeartbeats 4000000 in
set_option maxRecDepth 100000 in
theorem okX10_nextToken_b208 {l : Launch} {n : Nat} {s0 : Int32} {s1 : Nat} {h : qH} {h' : qH} (hyp : fX10_nextToken_b208 n s0 s1 h = some h') : q_W l 2 yX10_nextToken cX10_nextToken 2 none none h' 208 [] [.int s0, .ref s1] h := by
  unfold fX10_nextToken_b208 at hyp
  refine q_bind hyp (fun h1 e2 hyp => ?_)
  refine q_putF kF_X10_161 (fun _ => ⟨rfl, rfl⟩) dX10_nextToken_208 e2 ?_
  exact q_vretH rfl dX10_nextToken_211 hyp
def fX10_nextToken_b188 (n : Nat) (v0 : Nat) (h : qH) : Option (qH) :=
  (gI h v0 10 4).bind fun x1 =>
  (gI h v0 10 5).bind fun x3 =>
  if (x1 - x3) ≤ 8 then
  (fX10_nextToken_b208 n 1 v0 h)
  else
  (fX10_nextToken_b208 n 4 v0 h)
set_option maxHeartbeats 4000000 in
set_option maxRecDepth 100000 in
theorem okX10_nextToken_b188 {l : Launch} {n : Nat} {v0 : Nat} {h : qH} {h' : qH} (hyp : fX10_nextToken_b188 n v0 h = some h') : q_W l 2 yX10_nextToken cX10_nextToken 2 none none h' 188 [(0, .ref v0)] [] h := by
  unfold fX10_nextToken_b188 at hyp
  refine q_aload_n 0 rfl dX10_nextToken_188 ?_
  refine q_aload_n 0 rfl dX10_nextToken_189 ?_
  refine q_bind hyp (fun x1 e2 hyp => ?_)
  refine q_getI kF_X10_148 dX10_nextToken_190 e2 ?_
  refine q_aload_n 0 rfl dX10_nextToken_193 ?_
  refine q_bind hyp (fun x3 e4 hyp => ?_)
  refine q_getI kF_X10_151 dX10_nextToken_194 e4 ?_
  refine q_isub dX10_nextToken_197 ?_
  refine q_bipush (x := 8) (by decide) dX10_nextToken_198 ?_
  refine q_icmp_le (tgt := 207) dX10_nextToken_200 (by decide) (fun c5 => ?_) (fun c5 => ?_)
  · have hyp := q_pos c5 hyp
    refine q_iconst (x := 1) rfl dX10_nextToken_207 ?_
    exact q_sub [] rfl (okX10_nextToken_b208 hyp)
  · have hyp := q_neg c5 hyp
    refine q_iconst (x := 4) rfl dX10_nextToken_203 ?_
    refine q_goto (tgt := 208) dX10_nextToken_204 (by decide) ?_
    exact q_sub [] rfl (okX10_nextToken_b208 hyp)
def fX10_nextToken_b175 (n : Nat) (K109 : Nat → qH → Option (qH)) (v0 : Nat) (h : qH) : Option (qH) :=
  (gI h v0 10 4).bind fun x1 =>
  (pF h v0 10 4 (.int (x1 + 1))).bind fun h3 =>
  K109 v0 h3
set_option maxHeartbeats 4000000 in
set_option maxRecDepth 100000 in
theorem okX10_nextToken_b175 {l : Launch} {n : Nat} {K109 : Nat → qH → Option (qH)} {v0 : Nat} {h : qH} {h' : qH} (hK109 : ∀ (v0 : Nat) (h : qH), K109 v0 h = some h' → q_W l 2 yX10_nextToken cX10_nextToken 2 none none h' 109 [(0, .ref v0)] [] h) (hyp : fX10_nextToken_b175 n K109 v0 h = some h') : q_W l 2 yX10_nextToken cX10_nextToken 2 none none h' 175 [(0, .ref v0)] [] h := by
  unfold fX10_nextToken_b175 at hyp
  refine q_aload_n 0 rfl dX10_nextToken_175 ?_
  refine q_dup rfl dX10_nextToken_176 ?_
  refine q_bind hyp (fun x1 e2 hyp => ?_)
  refine q_getI kF_X10_148 dX10_nextToken_177 e2 ?_
  refine q_iconst (x := 1) rfl dX10_nextToken_180 ?_
  refine q_iadd dX10_nextToken_181 ?_
  refine q_bind hyp (fun h3 e4 hyp => ?_)
  refine q_putF kF_X10_148 (fun _ => ⟨rfl, rfl⟩) dX10_nextToken_182 e4 ?_
  refine q_goto (tgt := 109) dX10_nextToken_185 (by decide) ?_
  exact q_sub [0] rfl (hK109 v0 h3 hyp)
def fX10_nextToken_b109 (n : Nat) : Nat → Nat → qH → Option (qH)
  | 0, _, _ => none
  | w + 1, v0, h =>
    (gI h v0 10 4).bind fun x1 =>
    (fX10_signAt v0 x1 h).bind fun p3 =>
    if p3.1 < 97 then
    (fX10_nextToken_b188 n v0 p3.2)
    else
    ((gI p3.2 v0 10 4).bind fun x5 =>
    (fX10_signAt v0 x5 p3.2).bind fun p7 =>
    if 122 < p7.1 then
    (fX10_nextToken_b188 n v0 p7.2)
    else
    ((gI p7.2 v0 10 4).bind fun x9 =>
    (gI p7.2 v0 10 5).bind fun x11 =>
    if 8 ≤ (x9 - x11) then
    (fX10_nextToken_b175 n (fX10_nextToken_b109 n w) v0 p7.2)
    else
    ((gL p7.2 v0 10 7).bind fun x14 =>
    (gI p7.2 v0 10 4).bind fun x16 =>
    (fX10_signAt v0 x16 p7.2).bind fun p18 =>
    (pF p18.2 v0 10 7 (.long (((x14 * 27) + p18.1.toInt64) - 96))).bind fun h19 =>
    fX10_nextToken_b175 n (fX10_nextToken_b109 n w) v0 h19)))
set_option maxHeartbeats 4000000 in
set_option maxRecDepth 100000 in
theorem okX10_nextToken_b109 {l : Launch} {n : Nat} {h' : qH} : ∀ (w : Nat) (v0 : Nat) (h : qH), fX10_nextToken_b109 n w v0 h = some h' → q_W l 2 yX10_nextToken cX10_nextToken 2 none none h' 109 [(0, .ref v0)] [] h := by
  intro w
  induction w with
  | zero => intro v0 h hyp; cases hyp
  | succ w ih =>
    intro v0 h hyp
    unfold fX10_nextToken_b109 at hyp
    refine q_aload_n 0 rfl dX10_nextToken_109 ?_
    refine q_aload_n 0 rfl dX10_nextToken_110 ?_
    refine q_bind hyp (fun x1 e2 hyp => ?_)
    refine q_getI kF_X10_148 dX10_nextToken_111 e2 ?_
    refine q_bind hyp (fun p3 e23 hyp => ?_)
    refine q_callV (as := [.int x1]) (st := []) kY_X10_signAt kL_X10_164 (okX10_signAt (l := l) e23) (by decide) rfl (obX10_signAt e23) (Nat.le_of_ble_eq_true rfl) dX10_nextToken_114 ?_
    refine q_to (ls' := [(0, .ref v0)]) (st' := [.int p3.1]) rfl rfl ?_
    refine q_bipush (x := 97) (by decide) dX10_nextToken_117 ?_
    refine q_icmp_lt (tgt := 188) dX10_nextToken_119 (by decide) (fun c4 => ?_) (fun c4 => ?_)
    · have hyp := q_pos c4 hyp
      exact q_sub [0] rfl (okX10_nextToken_b188 hyp)
    · have hyp := q_neg c4 hyp
      refine q_aload_n 0 rfl dX10_nextToken_122 ?_
      refine q_aload_n 0 rfl dX10_nextToken_123 ?_
      refine q_bind hyp (fun x5 e6 hyp => ?_)
      refine q_getI kF_X10_148 dX10_nextToken_124 e6 ?_
      refine q_bind hyp (fun p7 e22 hyp => ?_)
      refine q_callV (as := [.int x5]) (st := []) kY_X10_signAt kL_X10_164 (okX10_signAt (l := l) e22) (by decide) rfl (obX10_signAt e22) (Nat.le_of_ble_eq_true rfl) dX10_nextToken_127 ?_
      refine q_to (ls' := [(0, .ref v0)]) (st' := [.int p7.1]) rfl rfl ?_
      refine q_bipush (x := 122) (by decide) dX10_nextToken_130 ?_
      refine q_icmp_gt (tgt := 188) dX10_nextToken_132 (by decide) (fun c8 => ?_) (fun c8 => ?_)
      · have hyp := q_pos c8 hyp
        exact q_sub [0] rfl (okX10_nextToken_b188 hyp)
      · have hyp := q_neg c8 hyp
        refine q_aload_n 0 rfl dX10_nextToken_135 ?_
        refine q_bind hyp (fun x9 e10 hyp => ?_)
        refine q_getI kF_X10_148 dX10_nextToken_136 e10 ?_
        refine q_aload_n 0 rfl dX10_nextToken_139 ?_
        refine q_bind hyp (fun x11 e12 hyp => ?_)
        refine q_getI kF_X10_151 dX10_nextToken_140 e12 ?_
        refine q_isub dX10_nextToken_143 ?_
        refine q_bipush (x := 8) (by decide) dX10_nextToken_144 ?_
        refine q_icmp_ge (tgt := 175) dX10_nextToken_146 (by decide) (fun c13 => ?_) (fun c13 => ?_)
        · have hyp := q_pos c13 hyp
          exact q_sub [0] rfl (okX10_nextToken_b175 ih hyp)
        · have hyp := q_neg c13 hyp
          refine q_aload_n 0 rfl dX10_nextToken_149 ?_
          refine q_aload_n 0 rfl dX10_nextToken_150 ?_
          refine q_bind hyp (fun x14 e15 hyp => ?_)
          refine q_getL kF_X10_154 dX10_nextToken_151 e15 ?_
          refine q_ldc2 kK_X10_168 dX10_nextToken_154 ?_
          refine q_lmul dX10_nextToken_157 ?_
          refine q_aload_n 0 rfl dX10_nextToken_158 ?_
          refine q_aload_n 0 rfl dX10_nextToken_159 ?_
          refine q_bind hyp (fun x16 e17 hyp => ?_)
          refine q_getI kF_X10_148 dX10_nextToken_160 e17 ?_
          refine q_bind hyp (fun p18 e21 hyp => ?_)
          refine q_callV (as := [.int x16]) (st := [.long (x14 * 27), .ref v0]) kY_X10_signAt kL_X10_164 (okX10_signAt (l := l) e21) (by decide) rfl (obX10_signAt e21) (Nat.le_of_ble_eq_true rfl) dX10_nextToken_163 ?_
          refine q_to (ls' := [(0, .ref v0)]) (st' := [.int p18.1, .long (x14 * 27), .ref v0]) rfl rfl ?_
          refine q_i2l dX10_nextToken_166 ?_
          refine q_ladd dX10_nextToken_167 ?_
          refine q_ldc2 kK_X10_170 dX10_nextToken_168 ?_
          refine q_lsub dX10_nextToken_171 ?_
          refine q_bind hyp (fun h19 e20 hyp => ?_)
          refine q_putF kF_X10_154 (fun _ => ⟨rfl, rfl⟩) dX10_nextToken_172 e20 ?_
          exact q_sub [0] rfl (okX10_nextToken_b175 ih hyp)
def fX10_nextToken_b52 (n : Nat) (v0 : Nat) (h : qH) : Option (qH) :=
  (gI h v0 10 4).bind fun x1 =>
  (pF h v0 10 5 (.int x1)).bind fun h3 =>
  (pF h3 v0 10 7 (.long 0)).bind fun h5 =>
  (pF h5 v0 10 8 (.int 0)).bind fun h7 =>
  (gI h7 v0 10 4).bind fun x9 =>
  (gI h7 v0 10 3).bind fun x11 =>
  if x9 = x11 then
  ((pF h7 v0 10 6 (.int 0)).bind fun h22 =>
  some h22)
  else
  ((gR h7 v0 10 2).bind fun x14 =>
  (gI h7 v0 10 4).bind fun x16 =>
  (aI .int h7 x14 x16).bind fun x18 =>
  if x18 < 97 then
  (fX10_nextToken_b212 n v0 x18 h7)
  else
  (if 122 < x18 then
  (fX10_nextToken_b212 n v0 x18 h7)
  else
  (fX10_nextToken_b109 n n v0 h7)))
set_option maxHeartbeats 4000000 in
set_option maxRecDepth 100000 in
theorem okX10_nextToken_b52 {l : Launch} {n : Nat} {v0 : Nat} {h : qH} {h' : qH} (hyp : fX10_nextToken_b52 n v0 h = some h') : q_W l 2 yX10_nextToken cX10_nextToken 2 none none h' 52 [(0, .ref v0)] [] h := by
  unfold fX10_nextToken_b52 at hyp
  refine q_aload_n 0 rfl dX10_nextToken_52 ?_
  refine q_aload_n 0 rfl dX10_nextToken_53 ?_
  refine q_bind hyp (fun x1 e2 hyp => ?_)
  refine q_getI kF_X10_148 dX10_nextToken_54 e2 ?_
  refine q_bind hyp (fun h3 e4 hyp => ?_)
  refine q_putF kF_X10_151 (fun _ => ⟨rfl, rfl⟩) dX10_nextToken_57 e4 ?_
  refine q_aload_n 0 rfl dX10_nextToken_60 ?_
  refine q_lconst (x := 0) rfl dX10_nextToken_61 ?_
  refine q_bind hyp (fun h5 e6 hyp => ?_)
  refine q_putF kF_X10_154 (fun _ => ⟨rfl, rfl⟩) dX10_nextToken_62 e6 ?_
  refine q_aload_n 0 rfl dX10_nextToken_65 ?_
  refine q_iconst (x := 0) rfl dX10_nextToken_66 ?_
  refine q_bind hyp (fun h7 e8 hyp => ?_)
  refine q_putF kF_X10_158 (fun _ => ⟨rfl, rfl⟩) dX10_nextToken_67 e8 ?_
  refine q_aload_n 0 rfl dX10_nextToken_70 ?_
  refine q_bind hyp (fun x9 e10 hyp => ?_)
  refine q_getI kF_X10_148 dX10_nextToken_71 e10 ?_
  refine q_aload_n 0 rfl dX10_nextToken_74 ?_
  refine q_bind hyp (fun x11 e12 hyp => ?_)
  refine q_getI kF_X10_145 dX10_nextToken_75 e12 ?_
  refine q_icmp_ne (tgt := 87) dX10_nextToken_78 (by decide) (fun c13 => ?_) (fun c13 => ?_)
  · have hyp := q_neg c13 hyp
    refine q_aload_n 0 rfl dX10_nextToken_87 ?_
    refine q_bind hyp (fun x14 e15 hyp => ?_)
    refine q_getR kF_X10_7 dX10_nextToken_88 e15 ?_
    refine q_aload_n 0 rfl dX10_nextToken_91 ?_
    refine q_bind hyp (fun x16 e17 hyp => ?_)
    refine q_getI kF_X10_148 dX10_nextToken_92 e17 ?_
    refine q_bind hyp (fun x18 e19 hyp => ?_)
    refine q_iald dX10_nextToken_95 e19 ?_
    refine q_istore_n (ls' := [(1, .int x18), (0, .ref v0)]) (by decide) rfl dX10_nextToken_96 ?_
    refine q_iload_n 0 rfl dX10_nextToken_97 ?_
    refine q_bipush (x := 97) (by decide) dX10_nextToken_98 ?_
    refine q_icmp_lt (tgt := 212) dX10_nextToken_100 (by decide) (fun c20 => ?_) (fun c20 => ?_)
    · have hyp := q_pos c20 hyp
      exact q_sub [1, 0] rfl (okX10_nextToken_b212 hyp)
    · have hyp := q_neg c20 hyp
      refine q_iload_n 0 rfl dX10_nextToken_103 ?_
      refine q_bipush (x := 122) (by decide) dX10_nextToken_104 ?_
      refine q_icmp_gt (tgt := 212) dX10_nextToken_106 (by decide) (fun c21 => ?_) (fun c21 => ?_)
      · have hyp := q_pos c21 hyp
        exact q_sub [1, 0] rfl (okX10_nextToken_b212 hyp)
      · have hyp := q_neg c21 hyp
        exact q_sub [1] rfl (okX10_nextToken_b109 _ v0 h7 hyp)
  · have hyp := q_pos c13 hyp
    refine q_aload_n 0 rfl dX10_nextToken_81 ?_
    refine q_iconst (x := 0) rfl dX10_nextToken_82 ?_
    refine q_bind hyp (fun h22 e23 hyp => ?_)
    refine q_putF kF_X10_161 (fun _ => ⟨rfl, rfl⟩) dX10_nextToken_83 e23 ?_
    exact q_vretH rfl dX10_nextToken_86 hyp
def fX10_nextToken_b39 (n : Nat) (K0 : Nat → qH → Option (qH)) (v0 : Nat) (h : qH) : Option (qH) :=
  (gI h v0 10 4).bind fun x1 =>
  (pF h v0 10 4 (.int (x1 + 1))).bind fun h3 =>
  K0 v0 h3
set_option maxHeartbeats 4000000 in
set_option maxRecDepth 100000 in
theorem okX10_nextToken_b39 {l : Launch} {n : Nat} {K0 : Nat → qH → Option (qH)} {v0 : Nat} {h : qH} {h' : qH} (hK0 : ∀ (v0 : Nat) (h : qH), K0 v0 h = some h' → q_W l 2 yX10_nextToken cX10_nextToken 2 none none h' 0 [(0, .ref v0)] [] h) (hyp : fX10_nextToken_b39 n K0 v0 h = some h') : q_W l 2 yX10_nextToken cX10_nextToken 2 none none h' 39 [(0, .ref v0)] [] h := by
  unfold fX10_nextToken_b39 at hyp
  refine q_aload_n 0 rfl dX10_nextToken_39 ?_
  refine q_dup rfl dX10_nextToken_40 ?_
  refine q_bind hyp (fun x1 e2 hyp => ?_)
  refine q_getI kF_X10_148 dX10_nextToken_41 e2 ?_
  refine q_iconst (x := 1) rfl dX10_nextToken_44 ?_
  refine q_iadd dX10_nextToken_45 ?_
  refine q_bind hyp (fun h3 e4 hyp => ?_)
  refine q_putF kF_X10_148 (fun _ => ⟨rfl, rfl⟩) dX10_nextToken_46 e4 ?_
  refine q_goto (tgt := 0) dX10_nextToken_49 (by decide) ?_
  exact q_sub [0] rfl (hK0 v0 h3 hyp)
def fX10_nextToken_b0 (n : Nat) : Nat → Nat → qH → Option (qH)
  | 0, _, _ => none
  | w + 1, v0, h =>
    (gI h v0 10 4).bind fun x1 =>
    (gI h v0 10 3).bind fun x3 =>
    if x3 ≤ x1 then
    (fX10_nextToken_b52 n v0 h)
    else
    ((gR h v0 10 2).bind fun x6 =>
    (gI h v0 10 4).bind fun x8 =>
    (aI .int h x6 x8).bind fun x10 =>
    if x10 = 32 then
    (fX10_nextToken_b39 n (fX10_nextToken_b0 n w) v0 h)
    else
    ((gR h v0 10 2).bind fun x13 =>
    (gI h v0 10 4).bind fun x15 =>
    (aI .int h x13 x15).bind fun x17 =>
    if x17 = 10 then
    (fX10_nextToken_b39 n (fX10_nextToken_b0 n w) v0 h)
    else
    (fX10_nextToken_b52 n v0 h)))
set_option maxHeartbeats 4000000 in
set_option maxRecDepth 100000 in
theorem okX10_nextToken_b0 {l : Launch} {n : Nat} {h' : qH} : ∀ (w : Nat) (v0 : Nat) (h : qH), fX10_nextToken_b0 n w v0 h = some h' → q_W l 2 yX10_nextToken cX10_nextToken 2 none none h' 0 [(0, .ref v0)] [] h := by
  intro w
  induction w with
  | zero => intro v0 h hyp; cases hyp
  | succ w ih =>
    intro v0 h hyp
    unfold fX10_nextToken_b0 at hyp
    refine q_aload_n 0 rfl dX10_nextToken_0 ?_
    refine q_bind hyp (fun x1 e2 hyp => ?_)
    refine q_getI kF_X10_148 dX10_nextToken_1 e2 ?_
    refine q_aload_n 0 rfl dX10_nextToken_4 ?_
    refine q_bind hyp (fun x3 e4 hyp => ?_)
    refine q_getI kF_X10_145 dX10_nextToken_5 e4 ?_
    refine q_icmp_ge (tgt := 52) dX10_nextToken_8 (by decide) (fun c5 => ?_) (fun c5 => ?_)
    · have hyp := q_pos c5 hyp
      exact q_sub [0] rfl (okX10_nextToken_b52 hyp)
    · have hyp := q_neg c5 hyp
      refine q_aload_n 0 rfl dX10_nextToken_11 ?_
      refine q_bind hyp (fun x6 e7 hyp => ?_)
      refine q_getR kF_X10_7 dX10_nextToken_12 e7 ?_
      refine q_aload_n 0 rfl dX10_nextToken_15 ?_
      refine q_bind hyp (fun x8 e9 hyp => ?_)
      refine q_getI kF_X10_148 dX10_nextToken_16 e9 ?_
      refine q_bind hyp (fun x10 e11 hyp => ?_)
      refine q_iald dX10_nextToken_19 e11 ?_
      refine q_bipush (x := 32) (by decide) dX10_nextToken_20 ?_
      refine q_icmp_eq (tgt := 39) dX10_nextToken_22 (by decide) (fun c12 => ?_) (fun c12 => ?_)
      · have hyp := q_pos c12 hyp
        exact q_sub [0] rfl (okX10_nextToken_b39 ih hyp)
      · have hyp := q_neg c12 hyp
        refine q_aload_n 0 rfl dX10_nextToken_25 ?_
        refine q_bind hyp (fun x13 e14 hyp => ?_)
        refine q_getR kF_X10_7 dX10_nextToken_26 e14 ?_
        refine q_aload_n 0 rfl dX10_nextToken_29 ?_
        refine q_bind hyp (fun x15 e16 hyp => ?_)
        refine q_getI kF_X10_148 dX10_nextToken_30 e16 ?_
        refine q_bind hyp (fun x17 e18 hyp => ?_)
        refine q_iald dX10_nextToken_33 e18 ?_
        refine q_bipush (x := 10) (by decide) dX10_nextToken_34 ?_
        refine q_icmp_ne (tgt := 52) dX10_nextToken_36 (by decide) (fun c19 => ?_) (fun c19 => ?_)
        · have hyp := q_neg c19 hyp
          exact q_sub [0] rfl (okX10_nextToken_b52 hyp)
        · have hyp := q_pos c19 hyp
          exact q_sub [0] rfl (okX10_nextToken_b39 ih hyp)
def fX10_nextToken (n : Nat) (v0 : Nat) (h : qH) : Option (qH) :=
  (isO h v0 10).bind fun _ =>
  fX10_nextToken_b0 n n v0 h
theorem obX10_nextToken {n : Nat} {v0 : Nat} {h : qH} {p : qH} (hyp : fX10_nextToken n v0 h = some p) : ∃ fs, h.1 v0 = some (.inr (10, fs)) := by
  unfold fX10_nextToken at hyp
  exact q_bind hyp (fun _ e _ => isO_some e)
set_option maxHeartbeats 4000000 in
set_option maxRecDepth 100000 in
theorem okX10_nextToken {l : Launch} {n : Nat} {v0 : Nat} {h : qH} {h' : qH} (hyp : fX10_nextToken n v0 h = some h') : q_M l 2 yX10_nextToken cX10_nextToken 2 none [.ref v0] h none h' := by
  unfold fX10_nextToken at hyp
  refine q_bind hyp (fun _ _ hyp => ?_)
  refine q_M.of (by decide) (Nat.le_of_ble_eq_true rfl) ?_
  refine q_to (ls' := [(0, .ref v0)]) (st' := []) rfl rfl ?_
  exact q_sub [0] rfl (okX10_nextToken_b0 _ v0 h hyp)
theorem dX10_begins_0 : decode cX10_begins 0 = .ok (.aload_n 0, 1) := by decide +kernel
theorem dX10_begins_1 : decode cX10_begins 1 = .ok (.aload_n 0, 1) := by decide +kernel
theorem dX10_begins_2 : decode cX10_begins 2 = .ok (.getfield 142, 3) := by decide +kernel
theorem dX10_begins_5 : decode cX10_begins 5 = .ok (.putfield 145, 3) := by decide +kernel
theorem dX10_begins_8 : decode cX10_begins 8 = .ok (.aload_n 0, 1) := by decide +kernel
theorem dX10_begins_9 : decode cX10_begins 9 = .ok (.iconst 0, 1) := by decide +kernel
theorem dX10_begins_10 : decode cX10_begins 10 = .ok (.putfield 142, 3) := by decide +kernel
theorem dX10_begins_13 : decode cX10_begins 13 = .ok (.aload_n 0, 1) := by decide +kernel
theorem dX10_begins_14 : decode cX10_begins 14 = .ok (.iconst 0, 1) := by decide +kernel
theorem dX10_begins_15 : decode cX10_begins 15 = .ok (.putfield 148, 3) := by decide +kernel
theorem dX10_begins_18 : decode cX10_begins 18 = .ok (.aload_n 0, 1) := by decide +kernel
theorem dX10_begins_19 : decode cX10_begins 19 = .ok (.invokevirtual 206, 3) := by decide +kernel
theorem dX10_begins_22 : decode cX10_begins 22 = .ok (.return_, 1) := by decide +kernel
def fX10_begins (n : Nat) (v0 : Nat) (h : qH) : Option (qH) :=
  (isO h v0 10).bind fun _ =>
  (gI h v0 10 1).bind fun x1 =>
  (pF h v0 10 3 (.int x1)).bind fun h3 =>
  (pF h3 v0 10 1 (.int 0)).bind fun h5 =>
  (pF h5 v0 10 4 (.int 0)).bind fun h7 =>
  (fX10_nextToken n v0 h7).bind fun h9 =>
  some h9
theorem obX10_begins {n : Nat} {v0 : Nat} {h : qH} {p : qH} (hyp : fX10_begins n v0 h = some p) : ∃ fs, h.1 v0 = some (.inr (10, fs)) := by
  unfold fX10_begins at hyp
  exact q_bind hyp (fun _ e _ => isO_some e)
set_option maxHeartbeats 4000000 in
set_option maxRecDepth 100000 in
theorem okX10_begins {l : Launch} {n : Nat} {v0 : Nat} {h : qH} {h' : qH} (hyp : fX10_begins n v0 h = some h') : q_M l 3 yX10_begins cX10_begins 1 none [.ref v0] h none h' := by
  unfold fX10_begins at hyp
  refine q_bind hyp (fun _ _ hyp => ?_)
  refine q_M.of (by decide) (Nat.le_of_ble_eq_true rfl) ?_
  refine q_to (ls' := [(0, .ref v0)]) (st' := []) rfl rfl ?_
  refine q_aload_n 0 rfl dX10_begins_0 ?_
  refine q_aload_n 0 rfl dX10_begins_1 ?_
  refine q_bind hyp (fun x1 e2 hyp => ?_)
  refine q_getI kF_X10_142 dX10_begins_2 e2 ?_
  refine q_bind hyp (fun h3 e4 hyp => ?_)
  refine q_putF kF_X10_145 (fun _ => ⟨rfl, rfl⟩) dX10_begins_5 e4 ?_
  refine q_aload_n 0 rfl dX10_begins_8 ?_
  refine q_iconst (x := 0) rfl dX10_begins_9 ?_
  refine q_bind hyp (fun h5 e6 hyp => ?_)
  refine q_putF kF_X10_142 (fun _ => ⟨rfl, rfl⟩) dX10_begins_10 e6 ?_
  refine q_aload_n 0 rfl dX10_begins_13 ?_
  refine q_iconst (x := 0) rfl dX10_begins_14 ?_
  refine q_bind hyp (fun h7 e8 hyp => ?_)
  refine q_putF kF_X10_148 (fun _ => ⟨rfl, rfl⟩) dX10_begins_15 e8 ?_
  refine q_aload_n 0 rfl dX10_begins_18 ?_
  refine q_bind hyp (fun h9 e10 hyp => ?_)
  refine q_callV (as := []) (st := []) kY_X10_nextToken kL_X10_206 (okX10_nextToken (l := l) e10) (by decide) rfl (obX10_nextToken e10) (Nat.le_of_ble_eq_true rfl) dX10_begins_19 ?_
  refine q_to (ls' := [(0, .ref v0)]) (st' := []) rfl rfl ?_
  exact q_vretH rfl dX10_begins_22 hyp
theorem dX10_bits_0 : decode cX10_bits 0 = .ok (.iconst 0, 1) := by decide +kernel
theorem dX10_bits_1 : decode cX10_bits 1 = .ok (.istore_n 1, 1) := by decide +kernel
theorem dX10_bits_2 : decode cX10_bits 2 = .ok (.iconst 0, 1) := by decide +kernel
theorem dX10_bits_3 : decode cX10_bits 3 = .ok (.istore_n 2, 1) := by decide +kernel
theorem dX10_bits_4 : decode cX10_bits 4 = .ok (.iload_n 2, 1) := by decide +kernel
theorem dX10_bits_5 : decode cX10_bits 5 = .ok (.bipush 7, 2) := by decide +kernel
theorem dX10_bits_7 : decode cX10_bits 7 = .ok (.if_icmp .ge 17, 3) := by decide +kernel
theorem dX10_bits_10 : decode cX10_bits 10 = .ok (.iload_n 1, 1) := by decide +kernel
theorem dX10_bits_11 : decode cX10_bits 11 = .ok (.iload_n 0, 1) := by decide +kernel
theorem dX10_bits_12 : decode cX10_bits 12 = .ok (.iload_n 2, 1) := by decide +kernel
theorem dX10_bits_13 : decode cX10_bits 13 = .ok (.ishr, 1) := by decide +kernel
theorem dX10_bits_14 : decode cX10_bits 14 = .ok (.iconst 1, 1) := by decide +kernel
theorem dX10_bits_15 : decode cX10_bits 15 = .ok (.iand, 1) := by decide +kernel
theorem dX10_bits_16 : decode cX10_bits 16 = .ok (.iadd, 1) := by decide +kernel
theorem dX10_bits_17 : decode cX10_bits 17 = .ok (.istore_n 1, 1) := by decide +kernel
theorem dX10_bits_18 : decode cX10_bits 18 = .ok (.iinc 2 1, 3) := by decide +kernel
theorem dX10_bits_21 : decode cX10_bits 21 = .ok (.goto (-17), 3) := by decide +kernel
theorem dX10_bits_24 : decode cX10_bits 24 = .ok (.iload_n 1, 1) := by decide +kernel
theorem dX10_bits_25 : decode cX10_bits 25 = .ok (.ireturn, 1) := by decide +kernel
def fX10_bits_b4 (n : Nat) : Nat → Int32 → Int32 → Int32 → qH → Option (Int32 × qH)
  | 0, _, _, _, _ => none
  | w + 1, v0, v1, v2, h =>
    if 7 ≤ v2 then
    (some (v1, h))
    else
    (fX10_bits_b4 n w v0 (v1 + ((v0 >>> (v2 &&& 31)) &&& 1)) (v2 + 1) h)
set_option maxHeartbeats 4000000 in
set_option maxRecDepth 100000 in
theorem okX10_bits_b4 {l : Launch} {n : Nat} {r : Int32} {h' : qH} : ∀ (w : Nat) (v0 : Int32) (v1 : Int32) (v2 : Int32) (h : qH), fX10_bits_b4 n w v0 v1 v2 h = some (r, h') → q_W l 1 yX10_bits cX10_bits 3 (some .int) (some (.int r)) h' 4 [(0, .int v0), (1, .int v1), (2, .int v2)] [] h := by
  intro w
  induction w with
  | zero => intro v0 v1 v2 h hyp; cases hyp
  | succ w ih =>
    intro v0 v1 v2 h hyp
    unfold fX10_bits_b4 at hyp
    refine q_iload_n 2 rfl dX10_bits_4 ?_
    refine q_bipush (x := 7) (by decide) dX10_bits_5 ?_
    refine q_icmp_ge (tgt := 24) dX10_bits_7 (by decide) (fun c1 => ?_) (fun c1 => ?_)
    · have hyp := q_pos c1 hyp
      refine q_iload_n 1 rfl dX10_bits_24 ?_
      exact q_iretH rfl rfl dX10_bits_25 hyp
    · have hyp := q_neg c1 hyp
      refine q_iload_n 1 rfl dX10_bits_10 ?_
      refine q_iload_n 0 rfl dX10_bits_11 ?_
      refine q_iload_n 2 rfl dX10_bits_12 ?_
      refine q_ishr dX10_bits_13 ?_
      refine q_iconst (x := 1) rfl dX10_bits_14 ?_
      refine q_iand dX10_bits_15 ?_
      refine q_iadd dX10_bits_16 ?_
      refine q_istore_n (ls' := [(1, .int (v1 + ((v0 >>> (v2 &&& 31)) &&& 1))), (0, .int v0), (2, .int v2)]) (by decide) rfl dX10_bits_17 ?_
      refine q_iinc (ls' := [(2, .int (v2 + 1)), (1, .int (v1 + ((v0 >>> (v2 &&& 31)) &&& 1))), (0, .int v0)]) 2 rfl rfl (by decide) rfl dX10_bits_18 ?_
      refine q_goto (tgt := 4) dX10_bits_21 (by decide) ?_
      exact q_sub [2, 1, 0] rfl (ih v0 (v1 + ((v0 >>> (v2 &&& 31)) &&& 1)) (v2 + 1) h hyp)
def fX10_bits (n : Nat) (v0 : Int32) (h : qH) : Option (Int32 × qH) :=
  fX10_bits_b4 n n v0 0 0 h
set_option maxHeartbeats 4000000 in
set_option maxRecDepth 100000 in
theorem okX10_bits {l : Launch} {n : Nat} {v0 : Int32} {h : qH} {p : Int32 × qH} (hyp : fX10_bits n v0 h = some p) : q_M l 1 yX10_bits cX10_bits 3 (some .int) [.int v0] h (some (.int p.1)) p.2 := by
  obtain ⟨r, h'⟩ := p
  unfold fX10_bits at hyp
  refine q_M.of (by decide) (Nat.le_of_ble_eq_true rfl) ?_
  refine q_to (ls' := [(0, .int v0)]) (st' := []) rfl rfl ?_
  refine q_iconst (x := 0) rfl dX10_bits_0 ?_
  refine q_istore_n (ls' := [(1, .int 0), (0, .int v0)]) (by decide) rfl dX10_bits_1 ?_
  refine q_iconst (x := 0) rfl dX10_bits_2 ?_
  refine q_istore_n (ls' := [(2, .int 0), (1, .int 0), (0, .int v0)]) (by decide) rfl dX10_bits_3 ?_
  exact q_sub [2, 1, 0] rfl (okX10_bits_b4 _ v0 0 0 h hyp)
theorem dX10_byYears_0 : decode cX10_byYears 0 = .ok (.iconst 0, 1) := by decide +kernel
theorem dX10_byYears_1 : decode cX10_byYears 1 = .ok (.istore_n 2, 1) := by decide +kernel
theorem dX10_byYears_2 : decode cX10_byYears 2 = .ok (.iload_n 2, 1) := by decide +kernel
theorem dX10_byYears_3 : decode cX10_byYears 3 = .ok (.aload_n 0, 1) := by decide +kernel
theorem dX10_byYears_4 : decode cX10_byYears 4 = .ok (.getfield 13, 3) := by decide +kernel
theorem dX10_byYears_7 : decode cX10_byYears 7 = .ok (.iconst 0, 1) := by decide +kernel
theorem dX10_byYears_8 : decode cX10_byYears 8 = .ok (.iaload, 1) := by decide +kernel
theorem dX10_byYears_9 : decode cX10_byYears 9 = .ok (.if_icmp .ge 84, 3) := by decide +kernel
theorem dX10_byYears_12 : decode cX10_byYears 12 = .ok (.iconst 0, 1) := by decide +kernel
theorem dX10_byYears_13 : decode cX10_byYears 13 = .ok (.istore_n 3, 1) := by decide +kernel
theorem dX10_byYears_14 : decode cX10_byYears 14 = .ok (.iconst 0, 1) := by decide +kernel
theorem dX10_byYears_15 : decode cX10_byYears 15 = .ok (.istore 4, 2) := by decide +kernel
theorem dX10_byYears_17 : decode cX10_byYears 17 = .ok (.iload 4, 2) := by decide +kernel
theorem dX10_byYears_19 : decode cX10_byYears 19 = .ok (.aload_n 0, 1) := by decide +kernel
theorem dX10_byYears_20 : decode cX10_byYears 20 = .ok (.getfield 13, 3) := by decide +kernel
theorem dX10_byYears_23 : decode cX10_byYears 23 = .ok (.iconst 0, 1) := by decide +kernel
theorem dX10_byYears_24 : decode cX10_byYears 24 = .ok (.iaload, 1) := by decide +kernel
theorem dX10_byYears_25 : decode cX10_byYears 25 = .ok (.if_icmp .ge 55, 3) := by decide +kernel
theorem dX10_byYears_28 : decode cX10_byYears 28 = .ok (.iload_n 3, 1) := by decide +kernel
theorem dX10_byYears_29 : decode cX10_byYears 29 = .ok (.aload_n 0, 1) := by decide +kernel
theorem dX10_byYears_30 : decode cX10_byYears 30 = .ok (.getfield 23, 3) := by decide +kernel
theorem dX10_byYears_33 : decode cX10_byYears 33 = .ok (.iload 4, 2) := by decide +kernel
theorem dX10_byYears_35 : decode cX10_byYears 35 = .ok (.iaload, 1) := by decide +kernel
theorem dX10_byYears_36 : decode cX10_byYears 36 = .ok (.aload_n 0, 1) := by decide +kernel
theorem dX10_byYears_37 : decode cX10_byYears 37 = .ok (.getfield 23, 3) := by decide +kernel
theorem dX10_byYears_40 : decode cX10_byYears 40 = .ok (.iload_n 2, 1) := by decide +kernel
theorem dX10_byYears_41 : decode cX10_byYears 41 = .ok (.iaload, 1) := by decide +kernel
theorem dX10_byYears_42 : decode cX10_byYears 42 = .ok (.if_icmp .lt 25, 3) := by decide +kernel
theorem dX10_byYears_45 : decode cX10_byYears 45 = .ok (.aload_n 0, 1) := by decide +kernel
theorem dX10_byYears_46 : decode cX10_byYears 46 = .ok (.getfield 23, 3) := by decide +kernel
theorem dX10_byYears_49 : decode cX10_byYears 49 = .ok (.iload 4, 2) := by decide +kernel
theorem dX10_byYears_51 : decode cX10_byYears 51 = .ok (.iaload, 1) := by decide +kernel
theorem dX10_byYears_52 : decode cX10_byYears 52 = .ok (.aload_n 0, 1) := by decide +kernel
theorem dX10_byYears_53 : decode cX10_byYears 53 = .ok (.getfield 23, 3) := by decide +kernel
theorem dX10_byYears_56 : decode cX10_byYears 56 = .ok (.iload_n 2, 1) := by decide +kernel
theorem dX10_byYears_57 : decode cX10_byYears 57 = .ok (.iaload, 1) := by decide +kernel
theorem dX10_byYears_58 : decode cX10_byYears 58 = .ok (.if_icmp .ne 13, 3) := by decide +kernel
theorem dX10_byYears_61 : decode cX10_byYears 61 = .ok (.iload 4, 2) := by decide +kernel
theorem dX10_byYears_63 : decode cX10_byYears 63 = .ok (.iload_n 2, 1) := by decide +kernel
theorem dX10_byYears_64 : decode cX10_byYears 64 = .ok (.if_icmp .ge 7, 3) := by decide +kernel
theorem dX10_byYears_67 : decode cX10_byYears 67 = .ok (.iconst 1, 1) := by decide +kernel
theorem dX10_byYears_68 : decode cX10_byYears 68 = .ok (.goto 4, 3) := by decide +kernel
theorem dX10_byYears_71 : decode cX10_byYears 71 = .ok (.iconst 0, 1) := by decide +kernel
theorem dX10_byYears_72 : decode cX10_byYears 72 = .ok (.iadd, 1) := by decide +kernel
theorem dX10_byYears_73 : decode cX10_byYears 73 = .ok (.istore_n 3, 1) := by decide +kernel
theorem dX10_byYears_74 : decode cX10_byYears 74 = .ok (.iinc 4 1, 3) := by decide +kernel
theorem dX10_byYears_77 : decode cX10_byYears 77 = .ok (.goto (-60), 3) := by decide +kernel
theorem dX10_byYears_80 : decode cX10_byYears 80 = .ok (.iload_n 3, 1) := by decide +kernel
theorem dX10_byYears_81 : decode cX10_byYears 81 = .ok (.iload_n 1, 1) := by decide +kernel
theorem dX10_byYears_82 : decode cX10_byYears 82 = .ok (.if_icmp .ne 5, 3) := by decide +kernel
theorem dX10_byYears_85 : decode cX10_byYears 85 = .ok (.iload_n 2, 1) := by decide +kernel
theorem dX10_byYears_86 : decode cX10_byYears 86 = .ok (.ireturn, 1) := by decide +kernel
theorem dX10_byYears_87 : decode cX10_byYears 87 = .ok (.iinc 2 1, 3) := by decide +kernel
theorem dX10_byYears_90 : decode cX10_byYears 90 = .ok (.goto (-88), 3) := by decide +kernel
theorem dX10_byYears_93 : decode cX10_byYears 93 = .ok (.iconst (-1), 1) := by decide +kernel
theorem dX10_byYears_94 : decode cX10_byYears 94 = .ok (.ireturn, 1) := by decide +kernel
def fX10_byYears_b67 (n : Nat) (K17 : Nat → Int32 → Int32 → Int32 → Int32 → qH → Option (Int32 × qH)) (v0 : Nat) (v1 : Int32) (v2 : Int32) (v4 : Int32) (s0 : Int32) (h : qH) : Option (Int32 × qH) :=
  K17 v0 v1 v2 (s0 + 1) (v4 + 1) h
set_option maxHeartbeats 4000000 in
set_option maxRecDepth 100000 in
theorem okX10_byYears_b67 {l : Launch} {n : Nat} {K17 : Nat → Int32 → Int32 → Int32 → Int32 → qH → Option (Int32 × qH)} {v0 : Nat} {v1 : Int32} {v2 : Int32} {v4 : Int32} {s0 : Int32} {h : qH} {r : Int32} {h' : qH} (hK17 : ∀ (v0 : Nat) (v1 : Int32) (v2 : Int32) (v3 : Int32) (v4 : Int32) (h : qH), K17 v0 v1 v2 v3 v4 h = some (r, h') → q_W l 1 yX10_byYears cX10_byYears 5 (some .int) (some (.int r)) h' 17 [(0, .ref v0), (1, .int v1), (2, .int v2), (3, .int v3), (4, .int v4)] [] h) (hyp : fX10_byYears_b67 n K17 v0 v1 v2 v4 s0 h = some (r, h')) : q_W l 1 yX10_byYears cX10_byYears 5 (some .int) (some (.int r)) h' 67 [(0, .ref v0), (1, .int v1), (2, .int v2), (4, .int v4)] [.int s0] h := by
  unfold fX10_byYears_b67 at hyp
  refine q_iconst (x := 1) rfl dX10_byYears_67 ?_
  refine q_goto (tgt := 72) dX10_byYears_68 (by decide) ?_
  refine q_iadd dX10_byYears_72 ?_
  refine q_istore_n (ls' := [(3, .int (s0 + 1)), (0, .ref v0), (1, .int v1), (2, .int v2), (4, .int v4)]) (by decide) rfl dX10_byYears_73 ?_
  refine q_iinc (ls' := [(4, .int (v4 + 1)), (3, .int (s0 + 1)), (0, .ref v0), (1, .int v1), (2, .int v2)]) 4 rfl rfl (by decide) rfl dX10_byYears_74 ?_
  refine q_goto (tgt := 17) dX10_byYears_77 (by decide) ?_
  exact q_sub [2, 3, 4, 1, 0] rfl (hK17 v0 v1 v2 (s0 + 1) (v4 + 1) h hyp)
def fX10_byYears_b17 (n : Nat) (K2 : Nat → Int32 → Int32 → qH → Option (Int32 × qH)) : Nat → Nat → Int32 → Int32 → Int32 → Int32 → qH → Option (Int32 × qH)
  | 0, _, _, _, _, _, _ => none
  | w + 1, v0, v1, v2, v3, v4, h =>
    (gR h v0 10 10).bind fun x1 =>
    (aI .int h x1 0).bind fun x3 =>
    if x3 ≤ v4 then
    (if v3 = v1 then
    (some (v2, h))
    else
    (K2 v0 v1 (v2 + 1) h))
    else
    ((gR h v0 10 13).bind fun x7 =>
    (aI .int h x7 v4).bind fun x9 =>
    (gR h v0 10 13).bind fun x11 =>
    (aI .int h x11 v2).bind fun x13 =>
    if x9 < x13 then
    (fX10_byYears_b67 n (fX10_byYears_b17 n K2 w) v0 v1 v2 v4 v3 h)
    else
    ((gR h v0 10 13).bind fun x16 =>
    (aI .int h x16 v4).bind fun x18 =>
    (gR h v0 10 13).bind fun x20 =>
    (aI .int h x20 v2).bind fun x22 =>
    if x18 = x22 then
    (if v2 ≤ v4 then
    (fX10_byYears_b17 n K2 w v0 v1 v2 (v3 + 0) (v4 + 1) h)
    else
    (fX10_byYears_b67 n (fX10_byYears_b17 n K2 w) v0 v1 v2 v4 v3 h))
    else
    (fX10_byYears_b17 n K2 w v0 v1 v2 (v3 + 0) (v4 + 1) h)))
set_option maxHeartbeats 4000000 in
set_option maxRecDepth 100000 in
theorem okX10_byYears_b17 {l : Launch} {n : Nat} {K2 : Nat → Int32 → Int32 → qH → Option (Int32 × qH)} {r : Int32} {h' : qH} (hK2 : ∀ (v0 : Nat) (v1 : Int32) (v2 : Int32) (h : qH), K2 v0 v1 v2 h = some (r, h') → q_W l 1 yX10_byYears cX10_byYears 5 (some .int) (some (.int r)) h' 2 [(0, .ref v0), (1, .int v1), (2, .int v2)] [] h) : ∀ (w : Nat) (v0 : Nat) (v1 : Int32) (v2 : Int32) (v3 : Int32) (v4 : Int32) (h : qH), fX10_byYears_b17 n K2 w v0 v1 v2 v3 v4 h = some (r, h') → q_W l 1 yX10_byYears cX10_byYears 5 (some .int) (some (.int r)) h' 17 [(0, .ref v0), (1, .int v1), (2, .int v2), (3, .int v3), (4, .int v4)] [] h := by
  intro w
  induction w with
  | zero => intro v0 v1 v2 v3 v4 h hyp; cases hyp
  | succ w ih =>
    intro v0 v1 v2 v3 v4 h hyp
    unfold fX10_byYears_b17 at hyp
    refine q_iload 4 rfl dX10_byYears_17 ?_
    refine q_aload_n 0 rfl dX10_byYears_19 ?_
    refine q_bind hyp (fun x1 e2 hyp => ?_)
    refine q_getR kF_X10_13 dX10_byYears_20 e2 ?_
    refine q_iconst (x := 0) rfl dX10_byYears_23 ?_
    refine q_bind hyp (fun x3 e4 hyp => ?_)
    refine q_iald dX10_byYears_24 e4 ?_
    refine q_icmp_ge (tgt := 80) dX10_byYears_25 (by decide) (fun c5 => ?_) (fun c5 => ?_)
    · have hyp := q_pos c5 hyp
      refine q_iload_n 3 rfl dX10_byYears_80 ?_
      refine q_iload_n 1 rfl dX10_byYears_81 ?_
      refine q_icmp_ne (tgt := 87) dX10_byYears_82 (by decide) (fun c6 => ?_) (fun c6 => ?_)
      · have hyp := q_neg c6 hyp
        refine q_iinc (ls' := [(2, .int (v2 + 1)), (0, .ref v0), (1, .int v1), (3, .int v3), (4, .int v4)]) 2 rfl rfl (by decide) rfl dX10_byYears_87 ?_
        refine q_goto (tgt := 2) dX10_byYears_90 (by decide) ?_
        exact q_sub [1, 2, 0] rfl (hK2 v0 v1 (v2 + 1) h hyp)
      · have hyp := q_pos c6 hyp
        refine q_iload_n 2 rfl dX10_byYears_85 ?_
        exact q_iretH rfl rfl dX10_byYears_86 hyp
    · have hyp := q_neg c5 hyp
      refine q_iload_n 3 rfl dX10_byYears_28 ?_
      refine q_aload_n 0 rfl dX10_byYears_29 ?_
      refine q_bind hyp (fun x7 e8 hyp => ?_)
      refine q_getR kF_X10_23 dX10_byYears_30 e8 ?_
      refine q_iload 4 rfl dX10_byYears_33 ?_
      refine q_bind hyp (fun x9 e10 hyp => ?_)
      refine q_iald dX10_byYears_35 e10 ?_
      refine q_aload_n 0 rfl dX10_byYears_36 ?_
      refine q_bind hyp (fun x11 e12 hyp => ?_)
      refine q_getR kF_X10_23 dX10_byYears_37 e12 ?_
      refine q_iload_n 2 rfl dX10_byYears_40 ?_
      refine q_bind hyp (fun x13 e14 hyp => ?_)
      refine q_iald dX10_byYears_41 e14 ?_
      refine q_icmp_lt (tgt := 67) dX10_byYears_42 (by decide) (fun c15 => ?_) (fun c15 => ?_)
      · have hyp := q_pos c15 hyp
        exact q_sub [0, 1, 2, 4] rfl (okX10_byYears_b67 ih hyp)
      · have hyp := q_neg c15 hyp
        refine q_aload_n 0 rfl dX10_byYears_45 ?_
        refine q_bind hyp (fun x16 e17 hyp => ?_)
        refine q_getR kF_X10_23 dX10_byYears_46 e17 ?_
        refine q_iload 4 rfl dX10_byYears_49 ?_
        refine q_bind hyp (fun x18 e19 hyp => ?_)
        refine q_iald dX10_byYears_51 e19 ?_
        refine q_aload_n 0 rfl dX10_byYears_52 ?_
        refine q_bind hyp (fun x20 e21 hyp => ?_)
        refine q_getR kF_X10_23 dX10_byYears_53 e21 ?_
        refine q_iload_n 2 rfl dX10_byYears_56 ?_
        refine q_bind hyp (fun x22 e23 hyp => ?_)
        refine q_iald dX10_byYears_57 e23 ?_
        refine q_icmp_ne (tgt := 71) dX10_byYears_58 (by decide) (fun c24 => ?_) (fun c24 => ?_)
        · have hyp := q_neg c24 hyp
          refine q_iconst (x := 0) rfl dX10_byYears_71 ?_
          refine q_iadd dX10_byYears_72 ?_
          refine q_istore_n (ls' := [(3, .int (v3 + 0)), (0, .ref v0), (1, .int v1), (2, .int v2), (4, .int v4)]) (by decide) rfl dX10_byYears_73 ?_
          refine q_iinc (ls' := [(4, .int (v4 + 1)), (3, .int (v3 + 0)), (0, .ref v0), (1, .int v1), (2, .int v2)]) 4 rfl rfl (by decide) rfl dX10_byYears_74 ?_
          refine q_goto (tgt := 17) dX10_byYears_77 (by decide) ?_
          exact q_sub [2, 3, 4, 1, 0] rfl (ih v0 v1 v2 (v3 + 0) (v4 + 1) h hyp)
        · have hyp := q_pos c24 hyp
          refine q_iload 4 rfl dX10_byYears_61 ?_
          refine q_iload_n 2 rfl dX10_byYears_63 ?_
          refine q_icmp_ge (tgt := 71) dX10_byYears_64 (by decide) (fun c25 => ?_) (fun c25 => ?_)
          · have hyp := q_pos c25 hyp
            refine q_iconst (x := 0) rfl dX10_byYears_71 ?_
            refine q_iadd dX10_byYears_72 ?_
            refine q_istore_n (ls' := [(3, .int (v3 + 0)), (0, .ref v0), (1, .int v1), (2, .int v2), (4, .int v4)]) (by decide) rfl dX10_byYears_73 ?_
            refine q_iinc (ls' := [(4, .int (v4 + 1)), (3, .int (v3 + 0)), (0, .ref v0), (1, .int v1), (2, .int v2)]) 4 rfl rfl (by decide) rfl dX10_byYears_74 ?_
            refine q_goto (tgt := 17) dX10_byYears_77 (by decide) ?_
            exact q_sub [2, 3, 4, 1, 0] rfl (ih v0 v1 v2 (v3 + 0) (v4 + 1) h hyp)
          · have hyp := q_neg c25 hyp
            exact q_sub [0, 1, 2, 4] rfl (okX10_byYears_b67 ih hyp)
def fX10_byYears_b2 (n : Nat) : Nat → Nat → Int32 → Int32 → qH → Option (Int32 × qH)
  | 0, _, _, _, _ => none
  | w + 1, v0, v1, v2, h =>
    (gR h v0 10 10).bind fun x1 =>
    (aI .int h x1 0).bind fun x3 =>
    if x3 ≤ v2 then
    (some ((-1), h))
    else
    (fX10_byYears_b17 n (fX10_byYears_b2 n w) n v0 v1 v2 0 0 h)
set_option maxHeartbeats 4000000 in
set_option maxRecDepth 100000 in
theorem okX10_byYears_b2 {l : Launch} {n : Nat} {r : Int32} {h' : qH} : ∀ (w : Nat) (v0 : Nat) (v1 : Int32) (v2 : Int32) (h : qH), fX10_byYears_b2 n w v0 v1 v2 h = some (r, h') → q_W l 1 yX10_byYears cX10_byYears 5 (some .int) (some (.int r)) h' 2 [(0, .ref v0), (1, .int v1), (2, .int v2)] [] h := by
  intro w
  induction w with
  | zero => intro v0 v1 v2 h hyp; cases hyp
  | succ w ih =>
    intro v0 v1 v2 h hyp
    unfold fX10_byYears_b2 at hyp
    refine q_iload_n 2 rfl dX10_byYears_2 ?_
    refine q_aload_n 0 rfl dX10_byYears_3 ?_
    refine q_bind hyp (fun x1 e2 hyp => ?_)
    refine q_getR kF_X10_13 dX10_byYears_4 e2 ?_
    refine q_iconst (x := 0) rfl dX10_byYears_7 ?_
    refine q_bind hyp (fun x3 e4 hyp => ?_)
    refine q_iald dX10_byYears_8 e4 ?_
    refine q_icmp_ge (tgt := 93) dX10_byYears_9 (by decide) (fun c5 => ?_) (fun c5 => ?_)
    · have hyp := q_pos c5 hyp
      refine q_iconst (x := (-1)) rfl dX10_byYears_93 ?_
      exact q_iretH rfl rfl dX10_byYears_94 hyp
    · have hyp := q_neg c5 hyp
      refine q_iconst (x := 0) rfl dX10_byYears_12 ?_
      refine q_istore_n (ls' := [(3, .int 0), (0, .ref v0), (1, .int v1), (2, .int v2)]) (by decide) rfl dX10_byYears_13 ?_
      refine q_iconst (x := 0) rfl dX10_byYears_14 ?_
      refine q_istore (ls' := [(4, .int 0), (3, .int 0), (0, .ref v0), (1, .int v1), (2, .int v2)]) (by decide) rfl dX10_byYears_15 ?_
      exact q_sub [2, 3, 4, 1, 0] rfl (okX10_byYears_b17 ih _ v0 v1 v2 0 0 h hyp)
def fX10_byYears (n : Nat) (v0 : Nat) (v1 : Int32) (h : qH) : Option (Int32 × qH) :=
  (isO h v0 10).bind fun _ =>
  fX10_byYears_b2 n n v0 v1 0 h
theorem obX10_byYears {n : Nat} {v0 : Nat} {v1 : Int32} {h : qH} {p : Int32 × qH} (hyp : fX10_byYears n v0 v1 h = some p) : ∃ fs, h.1 v0 = some (.inr (10, fs)) := by
  unfold fX10_byYears at hyp
  exact q_bind hyp (fun _ e _ => isO_some e)
set_option maxHeartbeats 4000000 in
set_option maxRecDepth 100000 in
theorem okX10_byYears {l : Launch} {n : Nat} {v0 : Nat} {v1 : Int32} {h : qH} {p : Int32 × qH} (hyp : fX10_byYears n v0 v1 h = some p) : q_M l 1 yX10_byYears cX10_byYears 5 (some .int) [.ref v0, .int v1] h (some (.int p.1)) p.2 := by
  obtain ⟨r, h'⟩ := p
  unfold fX10_byYears at hyp
  refine q_bind hyp (fun _ _ hyp => ?_)
  refine q_M.of (by decide) (Nat.le_of_ble_eq_true rfl) ?_
  refine q_to (ls' := [(0, .ref v0), (1, .int v1)]) (st' := []) rfl rfl ?_
  refine q_iconst (x := 0) rfl dX10_byYears_0 ?_
  refine q_istore_n (ls' := [(2, .int 0), (0, .ref v0), (1, .int v1)]) (by decide) rfl dX10_byYears_1 ?_
  exact q_sub [1, 2, 0] rfl (okX10_byYears_b2 _ v0 v1 0 h hyp)
