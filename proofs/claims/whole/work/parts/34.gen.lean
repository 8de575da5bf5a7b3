/-! Functions over the abstract heap, and that the machine computes them (written by gen.py). -/
theorem dX5_storyFrom_0 : decode cX5_storyFrom 0 = .ok (.iconst 0, 1) := by decide +kernel
theorem dX5_storyFrom_1 : decode cX5_storyFrom 1 = .ok (.istore_n 3, 1) := by decide +kernel
theorem dX5_storyFrom_2 : decode cX5_storyFrom 2 = .ok (.iconst 0, 1) := by decide +kernel
theorem dX5_storyFrom_3 : decode cX5_storyFrom 3 = .ok (.istore 4, 2) := by decide +kernel
theorem dX5_storyFrom_5 : decode cX5_storyFrom 5 = .ok (.iload 4, 2) := by decide +kernel
theorem dX5_storyFrom_7 : decode cX5_storyFrom 7 = .ok (.aload_n 0, 1) := by decide +kernel
theorem dX5_storyFrom_8 : decode cX5_storyFrom 8 = .ok (.getfield 35, 3) := by decide +kernel
theorem dX5_storyFrom_11 : decode cX5_storyFrom 11 = .ok (.if_icmp .ge 44, 3) := by decide +kernel
theorem dX5_storyFrom_14 : decode cX5_storyFrom 14 = .ok (.iload_n 2, 1) := by decide +kernel
theorem dX5_storyFrom_15 : decode cX5_storyFrom 15 = .ok (.bipush 7, 2) := by decide +kernel
theorem dX5_storyFrom_17 : decode cX5_storyFrom 17 = .ok (.if_icmp .ge 38, 3) := by decide +kernel
theorem dX5_storyFrom_20 : decode cX5_storyFrom 20 = .ok (.aload_n 0, 1) := by decide +kernel
theorem dX5_storyFrom_21 : decode cX5_storyFrom 21 = .ok (.getfield 25, 3) := by decide +kernel
theorem dX5_storyFrom_24 : decode cX5_storyFrom 24 = .ok (.iload_n 1, 1) := by decide +kernel
theorem dX5_storyFrom_25 : decode cX5_storyFrom 25 = .ok (.iaload, 1) := by decide +kernel
theorem dX5_storyFrom_26 : decode cX5_storyFrom 26 = .ok (.iload 4, 2) := by decide +kernel
theorem dX5_storyFrom_28 : decode cX5_storyFrom 28 = .ok (.invokestatic 71, 3) := by decide +kernel
theorem dX5_storyFrom_31 : decode cX5_storyFrom 31 = .ok (.iconst 1, 1) := by decide +kernel
theorem dX5_storyFrom_32 : decode cX5_storyFrom 32 = .ok (.if_icmp .ne 17, 3) := by decide +kernel
theorem dX5_storyFrom_35 : decode cX5_storyFrom 35 = .ok (.iload_n 3, 1) := by decide +kernel
theorem dX5_storyFrom_36 : decode cX5_storyFrom 36 = .ok (.aload_n 0, 1) := by decide +kernel
theorem dX5_storyFrom_37 : decode cX5_storyFrom 37 = .ok (.iload 4, 2) := by decide +kernel
theorem dX5_storyFrom_39 : decode cX5_storyFrom 39 = .ok (.iload_n 2, 1) := by decide +kernel
theorem dX5_storyFrom_40 : decode cX5_storyFrom 40 = .ok (.iconst 1, 1) := by decide +kernel
theorem dX5_storyFrom_41 : decode cX5_storyFrom 41 = .ok (.iadd, 1) := by decide +kernel
theorem dX5_storyFrom_42 : decode cX5_storyFrom 42 = .ok (.invokevirtual 86, 3) := by decide +kernel
theorem dX5_storyFrom_45 : decode cX5_storyFrom 45 = .ok (.invokestatic 68, 3) := by decide +kernel
theorem dX5_storyFrom_48 : decode cX5_storyFrom 48 = .ok (.istore_n 3, 1) := by decide +kernel
theorem dX5_storyFrom_49 : decode cX5_storyFrom 49 = .ok (.iinc 4 1, 3) := by decide +kernel
theorem dX5_storyFrom_52 : decode cX5_storyFrom 52 = .ok (.goto (-47), 3) := by decide +kernel
theorem dX5_storyFrom_55 : decode cX5_storyFrom 55 = .ok (.iload_n 3, 1) := by decide +kernel
theorem dX5_storyFrom_56 : decode cX5_storyFrom 56 = .ok (.iconst 1, 1) := by decide +kernel
theorem dX5_storyFrom_57 : decode cX5_storyFrom 57 = .ok (.iadd, 1) := by decide +kernel
theorem dX5_storyFrom_58 : decode cX5_storyFrom 58 = .ok (.ireturn, 1) := by decide +kernel
def fX5_storyFrom_b5 (RX5_storyFrom : Nat → Int32 → Int32 → qH → Option (Int32 × qH)) (n : Nat) : Nat → Nat → Int32 → Int32 → Int32 → Int32 → qH → Option (Int32 × qH)
  | 0, _, _, _, _, _, _ => none
  | w + 1, v0, v1, v2, v3, v4, h =>
    (gI h v0 5 6).bind fun x1 =>
    if x1 ≤ v4 then
    (some (v3 + 1, h))
    else
    (if 7 ≤ v2 then
    (some (v3 + 1, h))
    else
    ((gR h v0 5 4).bind fun x5 =>
    (aI .int h x5 v1).bind fun x7 =>
    (fX9_bit x7 v4 h).bind fun p9 =>
    if p9.1 = 1 then
    ((RX5_storyFrom v0 v4 (v2 + 1) p9.2).bind fun p11 =>
    fX5_storyFrom_b5 RX5_storyFrom n w v0 v1 v2 (if v3 < p11.1 then p11.1 else v3) (v4 + 1) p11.2)
    else
    (fX5_storyFrom_b5 RX5_storyFrom n w v0 v1 v2 v3 (v4 + 1) p9.2)))
set_option maxHeartbeats 4000000 in
set_option maxRecDepth 100000 in
theorem okX5_storyFrom_b5 {l : Launch} {RX5_storyFrom : Nat → Int32 → Int32 → qH → Option (Int32 × qH)} {dR0 d : Nat} {n : Nat} {r : Int32} {h' : qH} (hRX5_storyFrom : ∀ {v0 : Nat} {v1 : Int32} {v2 : Int32} {h : qH} {p : Int32 × qH}, RX5_storyFrom v0 v1 v2 h = some p → q_M l dR0 yX5_storyFrom cX5_storyFrom 5 (some .int) [.ref v0, .int v1, .int v2] h (some (.int p.1)) p.2 ∧ ∃ fs, h.1 v0 = some (.inr (5, fs))) (hd1_0 : dR0 + 1 ≤ d) (hd2 : 2 ≤ d) : ∀ (w : Nat) (v0 : Nat) (v1 : Int32) (v2 : Int32) (v3 : Int32) (v4 : Int32) (h : qH), fX5_storyFrom_b5 RX5_storyFrom n w v0 v1 v2 v3 v4 h = some (r, h') → q_W l d yX5_storyFrom cX5_storyFrom 5 (some .int) (some (.int r)) h' 5 [(0, .ref v0), (1, .int v1), (2, .int v2), (3, .int v3), (4, .int v4)] [] h := by
  intro w
  induction w with
  | zero => intro v0 v1 v2 v3 v4 h hyp; cases hyp
  | succ w ih =>
    intro v0 v1 v2 v3 v4 h hyp
    unfold fX5_storyFrom_b5 at hyp
    refine q_iload 4 rfl dX5_storyFrom_5 ?_
    refine q_aload_n 0 rfl dX5_storyFrom_7 ?_
    refine q_bind hyp (fun x1 e2 hyp => ?_)
    refine q_getI kF_X5_35 dX5_storyFrom_8 e2 ?_
    refine q_icmp_ge (tgt := 55) dX5_storyFrom_11 (by decide) (fun c3 => ?_) (fun c3 => ?_)
    · have hyp := q_pos c3 hyp
      refine q_iload_n 3 rfl dX5_storyFrom_55 ?_
      refine q_iconst (x := 1) rfl dX5_storyFrom_56 ?_
      refine q_iadd dX5_storyFrom_57 ?_
      exact q_iretH rfl rfl dX5_storyFrom_58 hyp
    · have hyp := q_neg c3 hyp
      refine q_iload_n 2 rfl dX5_storyFrom_14 ?_
      refine q_bipush (x := 7) (by decide) dX5_storyFrom_15 ?_
      refine q_icmp_ge (tgt := 55) dX5_storyFrom_17 (by decide) (fun c4 => ?_) (fun c4 => ?_)
      · have hyp := q_pos c4 hyp
        refine q_iload_n 3 rfl dX5_storyFrom_55 ?_
        refine q_iconst (x := 1) rfl dX5_storyFrom_56 ?_
        refine q_iadd dX5_storyFrom_57 ?_
        exact q_iretH rfl rfl dX5_storyFrom_58 hyp
      · have hyp := q_neg c4 hyp
        refine q_aload_n 0 rfl dX5_storyFrom_20 ?_
        refine q_bind hyp (fun x5 e6 hyp => ?_)
        refine q_getR kF_X5_25 dX5_storyFrom_21 e6 ?_
        refine q_iload_n 1 rfl dX5_storyFrom_24 ?_
        refine q_bind hyp (fun x7 e8 hyp => ?_)
        refine q_iald dX5_storyFrom_25 e8 ?_
        refine q_iload 4 rfl dX5_storyFrom_26 ?_
        refine q_bind hyp (fun p9 e13 hyp => ?_)
        refine q_callS (as := [.int x7, .int v4]) (st := []) kY_X9_bit kS_X9_bit kL_X5_71 (okX9_bit (l := l) e13) (Nat.le_trans (by decide) hd2) rfl (Nat.le_of_ble_eq_true rfl) dX5_storyFrom_28 ?_
        refine q_to (ls' := [(0, .ref v0), (1, .int v1), (2, .int v2), (3, .int v3), (4, .int v4)]) (st' := [.int p9.1]) rfl rfl ?_
        refine q_iconst (x := 1) rfl dX5_storyFrom_31 ?_
        refine q_icmp_ne (tgt := 49) dX5_storyFrom_32 (by decide) (fun c10 => ?_) (fun c10 => ?_)
        · have hyp := q_neg c10 hyp
          refine q_iinc (ls' := [(4, .int (v4 + 1)), (0, .ref v0), (1, .int v1), (2, .int v2), (3, .int v3)]) 4 rfl rfl (by decide) rfl dX5_storyFrom_49 ?_
          refine q_goto (tgt := 5) dX5_storyFrom_52 (by decide) ?_
          exact q_sub [1, 2, 3, 4, 0] rfl (ih v0 v1 v2 v3 (v4 + 1) p9.2 hyp)
        · have hyp := q_pos c10 hyp
          refine q_iload_n 3 rfl dX5_storyFrom_35 ?_
          refine q_aload_n 0 rfl dX5_storyFrom_36 ?_
          refine q_iload 4 rfl dX5_storyFrom_37 ?_
          refine q_iload_n 2 rfl dX5_storyFrom_39 ?_
          refine q_iconst (x := 1) rfl dX5_storyFrom_40 ?_
          refine q_iadd dX5_storyFrom_41 ?_
          refine q_bind hyp (fun p11 e12 hyp => ?_)
          refine q_callV (as := [.int v4, .int (v2 + 1)]) (st := [.int v3]) kY_X5_storyFrom kL_X5_86 (hRX5_storyFrom e12).1 hd1_0 rfl (hRX5_storyFrom e12).2 (Nat.le_of_ble_eq_true rfl) dX5_storyFrom_42 ?_
          refine q_to (ls' := [(0, .ref v0), (1, .int v1), (2, .int v2), (3, .int v3), (4, .int v4)]) (st' := [.int p11.1, .int v3]) rfl rfl ?_
          refine q_max kL_X5_68 kS_max kZ_math kD_max (Nat.le_trans (by decide) hd2) (Nat.le_of_ble_eq_true rfl) dX5_storyFrom_45 ?_
          refine q_istore_n (ls' := [(3, .int (if v3 < p11.1 then p11.1 else v3)), (0, .ref v0), (1, .int v1), (2, .int v2), (4, .int v4)]) (by decide) rfl dX5_storyFrom_48 ?_
          refine q_iinc (ls' := [(4, .int (v4 + 1)), (3, .int (if v3 < p11.1 then p11.1 else v3)), (0, .ref v0), (1, .int v1), (2, .int v2)]) 4 rfl rfl (by decide) rfl dX5_storyFrom_49 ?_
          refine q_goto (tgt := 5) dX5_storyFrom_52 (by decide) ?_
          exact q_sub [2, 3, 4, 1, 0] rfl (ih v0 v1 v2 (if v3 < p11.1 then p11.1 else v3) (v4 + 1) p11.2 hyp)
def fX5_storyFrom_g (RX5_storyFrom : Nat → Int32 → Int32 → qH → Option (Int32 × qH)) (n : Nat) (v0 : Nat) (v1 : Int32) (v2 : Int32) (h : qH) : Option (Int32 × qH) :=
  (isO h v0 5).bind fun _ =>
  fX5_storyFrom_b5 RX5_storyFrom n n v0 v1 v2 0 0 h
theorem obX5_storyFrom_g {RX5_storyFrom : Nat → Int32 → Int32 → qH → Option (Int32 × qH)} {n : Nat} {v0 : Nat} {v1 : Int32} {v2 : Int32} {h : qH} {p : Int32 × qH} (hyp : fX5_storyFrom_g RX5_storyFrom n v0 v1 v2 h = some p) : ∃ fs, h.1 v0 = some (.inr (5, fs)) := by
  unfold fX5_storyFrom_g at hyp
  exact q_bind hyp (fun _ e _ => isO_some e)
set_option maxHeartbeats 4000000 in
set_option maxRecDepth 100000 in
theorem okX5_storyFrom_g {l : Launch} {RX5_storyFrom : Nat → Int32 → Int32 → qH → Option (Int32 × qH)} {dR0 d : Nat} {n : Nat} {v0 : Nat} {v1 : Int32} {v2 : Int32} {h : qH} {p : Int32 × qH} (hRX5_storyFrom : ∀ {v0 : Nat} {v1 : Int32} {v2 : Int32} {h : qH} {p : Int32 × qH}, RX5_storyFrom v0 v1 v2 h = some p → q_M l dR0 yX5_storyFrom cX5_storyFrom 5 (some .int) [.ref v0, .int v1, .int v2] h (some (.int p.1)) p.2 ∧ ∃ fs, h.1 v0 = some (.inr (5, fs))) (hd1_0 : dR0 + 1 ≤ d) (hd2 : 2 ≤ d) (hyp : fX5_storyFrom_g RX5_storyFrom n v0 v1 v2 h = some p) : q_M l d yX5_storyFrom cX5_storyFrom 5 (some .int) [.ref v0, .int v1, .int v2] h (some (.int p.1)) p.2 := by
  obtain ⟨r, h'⟩ := p
  unfold fX5_storyFrom_g at hyp
  refine q_bind hyp (fun _ _ hyp => ?_)
  refine q_M.of (by decide) (Nat.le_of_ble_eq_true rfl) ?_
  refine q_to (ls' := [(0, .ref v0), (1, .int v1), (2, .int v2)]) (st' := []) rfl rfl ?_
  refine q_iconst (x := 0) rfl dX5_storyFrom_0 ?_
  refine q_istore_n (ls' := [(3, .int 0), (0, .ref v0), (1, .int v1), (2, .int v2)]) (by decide) rfl dX5_storyFrom_1 ?_
  refine q_iconst (x := 0) rfl dX5_storyFrom_2 ?_
  refine q_istore (ls' := [(4, .int 0), (3, .int 0), (0, .ref v0), (1, .int v1), (2, .int v2)]) (by decide) rfl dX5_storyFrom_3 ?_
  exact q_sub [2, 3, 4, 1, 0] rfl (okX5_storyFrom_b5 hRX5_storyFrom hd1_0 hd2 _ v0 v1 v2 0 0 h hyp)
def fX5_storyFrom_k (n : Nat) : Nat → Nat → Int32 → Int32 → qH → Option (Int32 × qH)
  | 0, _, _, _, _ => none
  | k + 1, v0, v1, v2, h => fX5_storyFrom_g (fX5_storyFrom_k n k) n v0 v1 v2 h
theorem okX5_storyFrom_k {l : Launch} {n : Nat} : ∀ (k : Nat) {v0 : Nat} {v1 : Int32} {v2 : Int32} {h : qH} {p : Int32 × qH}, fX5_storyFrom_k n k v0 v1 v2 h = some p → q_M l (2 + k) yX5_storyFrom cX5_storyFrom 5 (some .int) [.ref v0, .int v1, .int v2] h (some (.int p.1)) p.2 ∧ ∃ fs, h.1 v0 = some (.inr (5, fs)) := by
  intro k
  induction k with
  | zero => intro v0 v1 v2 h p hyp; unfold fX5_storyFrom_k at hyp; cases hyp
  | succ k ih =>
    intro v0 v1 v2 h p hyp
    unfold fX5_storyFrom_k at hyp
    exact ⟨okX5_storyFrom_g (dR0 := 2 + k) ih (Nat.le_refl _) (Nat.le_add_right _ _) hyp, obX5_storyFrom_g hyp⟩
def fX5_storyFrom (n : Nat) (v0 : Nat) (v1 : Int32) (v2 : Int32) (h : qH) : Option (Int32 × qH) := fX5_storyFrom_k n 10 v0 v1 v2 h
theorem obX5_storyFrom {n : Nat} {v0 : Nat} {v1 : Int32} {v2 : Int32} {h : qH} {p : Int32 × qH} (hyp : fX5_storyFrom n v0 v1 v2 h = some p) : ∃ fs, h.1 v0 = some (.inr (5, fs)) := (okX5_storyFrom_k (l := launch0) 10 hyp).2
theorem okX5_storyFrom {l : Launch} {n : Nat} {v0 : Nat} {v1 : Int32} {v2 : Int32} {h : qH} {p : Int32 × qH} (hyp : fX5_storyFrom n v0 v1 v2 h = some p) : q_M l 12 yX5_storyFrom cX5_storyFrom 5 (some .int) [.ref v0, .int v1, .int v2] h (some (.int p.1)) p.2 := (okX5_storyFrom_k 10 hyp).1
theorem dX5_waysTo_0 : decode cX5_waysTo 0 = .ok (.iload_n 1, 1) := by decide +kernel
theorem dX5_waysTo_1 : decode cX5_waysTo 1 = .ok (.iload_n 2, 1) := by decide +kernel
theorem dX5_waysTo_2 : decode cX5_waysTo 2 = .ok (.if_icmp .ne 5, 3) := by decide +kernel
theorem dX5_waysTo_5 : decode cX5_waysTo 5 = .ok (.iconst 1, 1) := by decide +kernel
theorem dX5_waysTo_6 : decode cX5_waysTo 6 = .ok (.ireturn, 1) := by decide +kernel
theorem dX5_waysTo_7 : decode cX5_waysTo 7 = .ok (.iconst 0, 1) := by decide +kernel
theorem dX5_waysTo_8 : decode cX5_waysTo 8 = .ok (.istore 4, 2) := by decide +kernel
theorem dX5_waysTo_10 : decode cX5_waysTo 10 = .ok (.iconst 0, 1) := by decide +kernel
theorem dX5_waysTo_11 : decode cX5_waysTo 11 = .ok (.istore 5, 2) := by decide +kernel
theorem dX5_waysTo_13 : decode cX5_waysTo 13 = .ok (.iload 5, 2) := by decide +kernel
theorem dX5_waysTo_15 : decode cX5_waysTo 15 = .ok (.aload_n 0, 1) := by decide +kernel
theorem dX5_waysTo_16 : decode cX5_waysTo 16 = .ok (.getfield 35, 3) := by decide +kernel
theorem dX5_waysTo_19 : decode cX5_waysTo 19 = .ok (.if_icmp .ge 45, 3) := by decide +kernel
theorem dX5_waysTo_22 : decode cX5_waysTo 22 = .ok (.iload_n 3, 1) := by decide +kernel
theorem dX5_waysTo_23 : decode cX5_waysTo 23 = .ok (.bipush 7, 2) := by decide +kernel
theorem dX5_waysTo_25 : decode cX5_waysTo 25 = .ok (.if_icmp .ge 39, 3) := by decide +kernel
theorem dX5_waysTo_28 : decode cX5_waysTo 28 = .ok (.aload_n 0, 1) := by decide +kernel
theorem dX5_waysTo_29 : decode cX5_waysTo 29 = .ok (.getfield 25, 3) := by decide +kernel
theorem dX5_waysTo_32 : decode cX5_waysTo 32 = .ok (.iload_n 1, 1) := by decide +kernel
theorem dX5_waysTo_33 : decode cX5_waysTo 33 = .ok (.iaload, 1) := by decide +kernel
theorem dX5_waysTo_34 : decode cX5_waysTo 34 = .ok (.iload 5, 2) := by decide +kernel
theorem dX5_waysTo_36 : decode cX5_waysTo 36 = .ok (.invokestatic 71, 3) := by decide +kernel
theorem dX5_waysTo_39 : decode cX5_waysTo 39 = .ok (.iconst 1, 1) := by decide +kernel
theorem dX5_waysTo_40 : decode cX5_waysTo 40 = .ok (.if_icmp .ne 18, 3) := by decide +kernel
theorem dX5_waysTo_43 : decode cX5_waysTo 43 = .ok (.iload 4, 2) := by decide +kernel
theorem dX5_waysTo_45 : decode cX5_waysTo 45 = .ok (.aload_n 0, 1) := by decide +kernel
theorem dX5_waysTo_46 : decode cX5_waysTo 46 = .ok (.iload 5, 2) := by decide +kernel
theorem dX5_waysTo_48 : decode cX5_waysTo 48 = .ok (.iload_n 2, 1) := by decide +kernel
theorem dX5_waysTo_49 : decode cX5_waysTo 49 = .ok (.iload_n 3, 1) := by decide +kernel
theorem dX5_waysTo_50 : decode cX5_waysTo 50 = .ok (.iconst 1, 1) := by decide +kernel
theorem dX5_waysTo_51 : decode cX5_waysTo 51 = .ok (.iadd, 1) := by decide +kernel
theorem dX5_waysTo_52 : decode cX5_waysTo 52 = .ok (.invokevirtual 82, 3) := by decide +kernel
theorem dX5_waysTo_55 : decode cX5_waysTo 55 = .ok (.iadd, 1) := by decide +kernel
theorem dX5_waysTo_56 : decode cX5_waysTo 56 = .ok (.istore 4, 2) := by decide +kernel
theorem dX5_waysTo_58 : decode cX5_waysTo 58 = .ok (.iinc 5 1, 3) := by decide +kernel
theorem dX5_waysTo_61 : decode cX5_waysTo 61 = .ok (.goto (-48), 3) := by decide +kernel
theorem dX5_waysTo_64 : decode cX5_waysTo 64 = .ok (.iload 4, 2) := by decide +kernel
theorem dX5_waysTo_66 : decode cX5_waysTo 66 = .ok (.ireturn, 1) := by decide +kernel
def fX5_waysTo_b13 (RX5_waysTo : Nat → Int32 → Int32 → Int32 → qH → Option (Int32 × qH)) (n : Nat) : Nat → Nat → Int32 → Int32 → Int32 → Int32 → Int32 → qH → Option (Int32 × qH)
  | 0, _, _, _, _, _, _, _ => none
  | w + 1, v0, v1, v2, v3, v4, v5, h =>
    (gI h v0 5 6).bind fun x1 =>
    if x1 ≤ v5 then
    (some (v4, h))
    else
    (if 7 ≤ v3 then
    (some (v4, h))
    else
    ((gR h v0 5 4).bind fun x5 =>
    (aI .int h x5 v1).bind fun x7 =>
    (fX9_bit x7 v5 h).bind fun p9 =>
    if p9.1 = 1 then
    ((RX5_waysTo v0 v5 v2 (v3 + 1) p9.2).bind fun p11 =>
    fX5_waysTo_b13 RX5_waysTo n w v0 v1 v2 v3 (v4 + p11.1) (v5 + 1) p11.2)
    else
    (fX5_waysTo_b13 RX5_waysTo n w v0 v1 v2 v3 v4 (v5 + 1) p9.2)))
set_option maxHeartbeats 4000000 in
set_option maxRecDepth 100000 in
theorem okX5_waysTo_b13 {l : Launch} {RX5_waysTo : Nat → Int32 → Int32 → Int32 → qH → Option (Int32 × qH)} {dR0 d : Nat} {n : Nat} {r : Int32} {h' : qH} (hRX5_waysTo : ∀ {v0 : Nat} {v1 : Int32} {v2 : Int32} {v3 : Int32} {h : qH} {p : Int32 × qH}, RX5_waysTo v0 v1 v2 v3 h = some p → q_M l dR0 yX5_waysTo cX5_waysTo 6 (some .int) [.ref v0, .int v1, .int v2, .int v3] h (some (.int p.1)) p.2 ∧ ∃ fs, h.1 v0 = some (.inr (5, fs))) (hd1_0 : dR0 + 1 ≤ d) (hd2 : 2 ≤ d) : ∀ (w : Nat) (v0 : Nat) (v1 : Int32) (v2 : Int32) (v3 : Int32) (v4 : Int32) (v5 : Int32) (h : qH), fX5_waysTo_b13 RX5_waysTo n w v0 v1 v2 v3 v4 v5 h = some (r, h') → q_W l d yX5_waysTo cX5_waysTo 6 (some .int) (some (.int r)) h' 13 [(0, .ref v0), (1, .int v1), (2, .int v2), (3, .int v3), (4, .int v4), (5, .int v5)] [] h := by
  intro w
  induction w with
  | zero => intro v0 v1 v2 v3 v4 v5 h hyp; cases hyp
  | succ w ih =>
    intro v0 v1 v2 v3 v4 v5 h hyp
    unfold fX5_waysTo_b13 at hyp
    refine q_iload 5 rfl dX5_waysTo_13 ?_
    refine q_aload_n 0 rfl dX5_waysTo_15 ?_
    refine q_bind hyp (fun x1 e2 hyp => ?_)
    refine q_getI kF_X5_35 dX5_waysTo_16 e2 ?_
    refine q_icmp_ge (tgt := 64) dX5_waysTo_19 (by decide) (fun c3 => ?_) (fun c3 => ?_)
    · have hyp := q_pos c3 hyp
      refine q_iload 4 rfl dX5_waysTo_64 ?_
      exact q_iretH rfl rfl dX5_waysTo_66 hyp
    · have hyp := q_neg c3 hyp
      refine q_iload_n 3 rfl dX5_waysTo_22 ?_
      refine q_bipush (x := 7) (by decide) dX5_waysTo_23 ?_
      refine q_icmp_ge (tgt := 64) dX5_waysTo_25 (by decide) (fun c4 => ?_) (fun c4 => ?_)
      · have hyp := q_pos c4 hyp
        refine q_iload 4 rfl dX5_waysTo_64 ?_
        exact q_iretH rfl rfl dX5_waysTo_66 hyp
      · have hyp := q_neg c4 hyp
        refine q_aload_n 0 rfl dX5_waysTo_28 ?_
        refine q_bind hyp (fun x5 e6 hyp => ?_)
        refine q_getR kF_X5_25 dX5_waysTo_29 e6 ?_
        refine q_iload_n 1 rfl dX5_waysTo_32 ?_
        refine q_bind hyp (fun x7 e8 hyp => ?_)
        refine q_iald dX5_waysTo_33 e8 ?_
        refine q_iload 5 rfl dX5_waysTo_34 ?_
        refine q_bind hyp (fun p9 e13 hyp => ?_)
        refine q_callS (as := [.int x7, .int v5]) (st := []) kY_X9_bit kS_X9_bit kL_X5_71 (okX9_bit (l := l) e13) (Nat.le_trans (by decide) hd2) rfl (Nat.le_of_ble_eq_true rfl) dX5_waysTo_36 ?_
        refine q_to (ls' := [(0, .ref v0), (1, .int v1), (2, .int v2), (3, .int v3), (4, .int v4), (5, .int v5)]) (st' := [.int p9.1]) rfl rfl ?_
        refine q_iconst (x := 1) rfl dX5_waysTo_39 ?_
        refine q_icmp_ne (tgt := 58) dX5_waysTo_40 (by decide) (fun c10 => ?_) (fun c10 => ?_)
        · have hyp := q_neg c10 hyp
          refine q_iinc (ls' := [(5, .int (v5 + 1)), (0, .ref v0), (1, .int v1), (2, .int v2), (3, .int v3), (4, .int v4)]) 5 rfl rfl (by decide) rfl dX5_waysTo_58 ?_
          refine q_goto (tgt := 13) dX5_waysTo_61 (by decide) ?_
          exact q_sub [1, 2, 3, 4, 5, 0] rfl (ih v0 v1 v2 v3 v4 (v5 + 1) p9.2 hyp)
        · have hyp := q_pos c10 hyp
          refine q_iload 4 rfl dX5_waysTo_43 ?_
          refine q_aload_n 0 rfl dX5_waysTo_45 ?_
          refine q_iload 5 rfl dX5_waysTo_46 ?_
          refine q_iload_n 2 rfl dX5_waysTo_48 ?_
          refine q_iload_n 3 rfl dX5_waysTo_49 ?_
          refine q_iconst (x := 1) rfl dX5_waysTo_50 ?_
          refine q_iadd dX5_waysTo_51 ?_
          refine q_bind hyp (fun p11 e12 hyp => ?_)
          refine q_callV (as := [.int v5, .int v2, .int (v3 + 1)]) (st := [.int v4]) kY_X5_waysTo kL_X5_82 (hRX5_waysTo e12).1 hd1_0 rfl (hRX5_waysTo e12).2 (Nat.le_of_ble_eq_true rfl) dX5_waysTo_52 ?_
          refine q_to (ls' := [(0, .ref v0), (1, .int v1), (2, .int v2), (3, .int v3), (4, .int v4), (5, .int v5)]) (st' := [.int p11.1, .int v4]) rfl rfl ?_
          refine q_iadd dX5_waysTo_55 ?_
          refine q_istore (ls' := [(4, .int (v4 + p11.1)), (0, .ref v0), (1, .int v1), (2, .int v2), (3, .int v3), (5, .int v5)]) (by decide) rfl dX5_waysTo_56 ?_
          refine q_iinc (ls' := [(5, .int (v5 + 1)), (4, .int (v4 + p11.1)), (0, .ref v0), (1, .int v1), (2, .int v2), (3, .int v3)]) 5 rfl rfl (by decide) rfl dX5_waysTo_58 ?_
          refine q_goto (tgt := 13) dX5_waysTo_61 (by decide) ?_
          exact q_sub [2, 3, 4, 5, 1, 0] rfl (ih v0 v1 v2 v3 (v4 + p11.1) (v5 + 1) p11.2 hyp)
def fX5_waysTo_g (RX5_waysTo : Nat → Int32 → Int32 → Int32 → qH → Option (Int32 × qH)) (n : Nat) (v0 : Nat) (v1 : Int32) (v2 : Int32) (v3 : Int32) (h : qH) : Option (Int32 × qH) :=
  (isO h v0 5).bind fun _ =>
  if v1 = v2 then
  (some (1, h))
  else
  (fX5_waysTo_b13 RX5_waysTo n n v0 v1 v2 v3 0 0 h)
theorem obX5_waysTo_g {RX5_waysTo : Nat → Int32 → Int32 → Int32 → qH → Option (Int32 × qH)} {n : Nat} {v0 : Nat} {v1 : Int32} {v2 : Int32} {v3 : Int32} {h : qH} {p : Int32 × qH} (hyp : fX5_waysTo_g RX5_waysTo n v0 v1 v2 v3 h = some p) : ∃ fs, h.1 v0 = some (.inr (5, fs)) := by
  unfold fX5_waysTo_g at hyp
  exact q_bind hyp (fun _ e _ => isO_some e)
set_option maxHeartbeats 4000000 in
set_option maxRecDepth 100000 in
theorem okX5_waysTo_g {l : Launch} {RX5_waysTo : Nat → Int32 → Int32 → Int32 → qH → Option (Int32 × qH)} {dR0 d : Nat} {n : Nat} {v0 : Nat} {v1 : Int32} {v2 : Int32} {v3 : Int32} {h : qH} {p : Int32 × qH} (hRX5_waysTo : ∀ {v0 : Nat} {v1 : Int32} {v2 : Int32} {v3 : Int32} {h : qH} {p : Int32 × qH}, RX5_waysTo v0 v1 v2 v3 h = some p → q_M l dR0 yX5_waysTo cX5_waysTo 6 (some .int) [.ref v0, .int v1, .int v2, .int v3] h (some (.int p.1)) p.2 ∧ ∃ fs, h.1 v0 = some (.inr (5, fs))) (hd1_0 : dR0 + 1 ≤ d) (hd2 : 2 ≤ d) (hyp : fX5_waysTo_g RX5_waysTo n v0 v1 v2 v3 h = some p) : q_M l d yX5_waysTo cX5_waysTo 6 (some .int) [.ref v0, .int v1, .int v2, .int v3] h (some (.int p.1)) p.2 := by
  obtain ⟨r, h'⟩ := p
  unfold fX5_waysTo_g at hyp
  refine q_bind hyp (fun _ _ hyp => ?_)
  refine q_M.of (by decide) (Nat.le_of_ble_eq_true rfl) ?_
  refine q_to (ls' := [(0, .ref v0), (1, .int v1), (2, .int v2), (3, .int v3)]) (st' := []) rfl rfl ?_
  refine q_iload_n 1 rfl dX5_waysTo_0 ?_
  refine q_iload_n 2 rfl dX5_waysTo_1 ?_
  refine q_icmp_ne (tgt := 7) dX5_waysTo_2 (by decide) (fun c1 => ?_) (fun c1 => ?_)
  · have hyp := q_neg c1 hyp
    refine q_iconst (x := 0) rfl dX5_waysTo_7 ?_
    refine q_istore (ls' := [(4, .int 0), (0, .ref v0), (1, .int v1), (2, .int v2), (3, .int v3)]) (by decide) rfl dX5_waysTo_8 ?_
    refine q_iconst (x := 0) rfl dX5_waysTo_10 ?_
    refine q_istore (ls' := [(5, .int 0), (4, .int 0), (0, .ref v0), (1, .int v1), (2, .int v2), (3, .int v3)]) (by decide) rfl dX5_waysTo_11 ?_
    exact q_sub [2, 3, 4, 5, 1, 0] rfl (okX5_waysTo_b13 hRX5_waysTo hd1_0 hd2 _ v0 v1 v2 v3 0 0 h hyp)
  · have hyp := q_pos c1 hyp
    refine q_iconst (x := 1) rfl dX5_waysTo_5 ?_
    exact q_iretH rfl rfl dX5_waysTo_6 hyp
def fX5_waysTo_k (n : Nat) : Nat → Nat → Int32 → Int32 → Int32 → qH → Option (Int32 × qH)
  | 0, _, _, _, _, _ => none
  | k + 1, v0, v1, v2, v3, h => fX5_waysTo_g (fX5_waysTo_k n k) n v0 v1 v2 v3 h
theorem okX5_waysTo_k {l : Launch} {n : Nat} : ∀ (k : Nat) {v0 : Nat} {v1 : Int32} {v2 : Int32} {v3 : Int32} {h : qH} {p : Int32 × qH}, fX5_waysTo_k n k v0 v1 v2 v3 h = some p → q_M l (2 + k) yX5_waysTo cX5_waysTo 6 (some .int) [.ref v0, .int v1, .int v2, .int v3] h (some (.int p.1)) p.2 ∧ ∃ fs, h.1 v0 = some (.inr (5, fs)) := by
  intro k
  induction k with
  | zero => intro v0 v1 v2 v3 h p hyp; unfold fX5_waysTo_k at hyp; cases hyp
  | succ k ih =>
    intro v0 v1 v2 v3 h p hyp
    unfold fX5_waysTo_k at hyp
    exact ⟨okX5_waysTo_g (dR0 := 2 + k) ih (Nat.le_refl _) (Nat.le_add_right _ _) hyp, obX5_waysTo_g hyp⟩
def fX5_waysTo (n : Nat) (v0 : Nat) (v1 : Int32) (v2 : Int32) (v3 : Int32) (h : qH) : Option (Int32 × qH) := fX5_waysTo_k n 10 v0 v1 v2 v3 h
theorem obX5_waysTo {n : Nat} {v0 : Nat} {v1 : Int32} {v2 : Int32} {v3 : Int32} {h : qH} {p : Int32 × qH} (hyp : fX5_waysTo n v0 v1 v2 v3 h = some p) : ∃ fs, h.1 v0 = some (.inr (5, fs)) := (okX5_waysTo_k (l := launch0) 10 hyp).2
theorem okX5_waysTo {l : Launch} {n : Nat} {v0 : Nat} {v1 : Int32} {v2 : Int32} {v3 : Int32} {h : qH} {p : Int32 × qH} (hyp : fX5_waysTo n v0 v1 v2 v3 h = some p) : q_M l 12 yX5_waysTo cX5_waysTo 6 (some .int) [.ref v0, .int v1, .int v2, .int v3] h (some (.int p.1)) p.2 := (okX5_waysTo_k 10 hyp).1
theorem dX5_widestGap_0 : decode cX5_widestGap 0 = .ok (.iconst 0, 1) := by decide +kernel
theorem dX5_widestGap_1 : decode cX5_widestGap 1 = .ok (.istore_n 1, 1) := by decide +kernel
theorem dX5_widestGap_2 : decode cX5_widestGap 2 = .ok (.iconst 0, 1) := by decide +kernel
theorem dX5_widestGap_3 : decode cX5_widestGap 3 = .ok (.istore_n 2, 1) := by decide +kernel
theorem dX5_widestGap_4 : decode cX5_widestGap 4 = .ok (.iload_n 2, 1) := by decide +kernel
theorem dX5_widestGap_5 : decode cX5_widestGap 5 = .ok (.aload_n 0, 1) := by decide +kernel
theorem dX5_widestGap_6 : decode cX5_widestGap 6 = .ok (.getfield 35, 3) := by decide +kernel
theorem dX5_widestGap_9 : decode cX5_widestGap 9 = .ok (.if_icmp .ge 31, 3) := by decide +kernel
theorem dX5_widestGap_12 : decode cX5_widestGap 12 = .ok (.iload_n 1, 1) := by decide +kernel
theorem dX5_widestGap_13 : decode cX5_widestGap 13 = .ok (.aload_n 0, 1) := by decide +kernel
theorem dX5_widestGap_14 : decode cX5_widestGap 14 = .ok (.aload_n 0, 1) := by decide +kernel
theorem dX5_widestGap_15 : decode cX5_widestGap 15 = .ok (.getfield 19, 3) := by decide +kernel
theorem dX5_widestGap_18 : decode cX5_widestGap 18 = .ok (.iload_n 2, 1) := by decide +kernel
theorem dX5_widestGap_19 : decode cX5_widestGap 19 = .ok (.iaload, 1) := by decide +kernel
theorem dX5_widestGap_20 : decode cX5_widestGap 20 = .ok (.invokevirtual 89, 3) := by decide +kernel
theorem dX5_widestGap_23 : decode cX5_widestGap 23 = .ok (.aload_n 0, 1) := by decide +kernel
theorem dX5_widestGap_24 : decode cX5_widestGap 24 = .ok (.getfield 19, 3) := by decide +kernel
theorem dX5_widestGap_27 : decode cX5_widestGap 27 = .ok (.iload_n 2, 1) := by decide +kernel
theorem dX5_widestGap_28 : decode cX5_widestGap 28 = .ok (.iaload, 1) := by decide +kernel
theorem dX5_widestGap_29 : decode cX5_widestGap 29 = .ok (.isub, 1) := by decide +kernel
theorem dX5_widestGap_30 : decode cX5_widestGap 30 = .ok (.invokestatic 68, 3) := by decide +kernel
theorem dX5_widestGap_33 : decode cX5_widestGap 33 = .ok (.istore_n 1, 1) := by decide +kernel
theorem dX5_widestGap_34 : decode cX5_widestGap 34 = .ok (.iinc 2 1, 3) := by decide +kernel
theorem dX5_widestGap_37 : decode cX5_widestGap 37 = .ok (.goto (-33), 3) := by decide +kernel
theorem dX5_widestGap_40 : decode cX5_widestGap 40 = .ok (.iload_n 1, 1) := by decide +kernel
theorem dX5_widestGap_41 : decode cX5_widestGap 41 = .ok (.ireturn, 1) := by decide +kernel
def fX5_widestGap_b4 (n : Nat) : Nat → Nat → Int32 → Int32 → qH → Option (Int32 × qH)
  | 0, _, _, _, _ => none
  | w + 1, v0, v1, v2, h =>
    (gI h v0 5 6).bind fun x1 =>
    if x1 ≤ v2 then
    (some (v1, h))
    else
    ((gR h v0 5 2).bind fun x4 =>
    (aI .int h x4 v2).bind fun x6 =>
    (fX5_nextBirth n v0 x6 h).bind fun p8 =>
    (gR p8.2 v0 5 2).bind fun x9 =>
    (aI .int p8.2 x9 v2).bind fun x11 =>
    fX5_widestGap_b4 n w v0 (if v1 < (p8.1 - x11) then (p8.1 - x11) else v1) (v2 + 1) p8.2)
set_option maxHeartbeats 4000000 in
set_option maxRecDepth 100000 in
theorem okX5_widestGap_b4 {l : Launch} {n : Nat} {r : Int32} {h' : qH} : ∀ (w : Nat) (v0 : Nat) (v1 : Int32) (v2 : Int32) (h : qH), fX5_widestGap_b4 n w v0 v1 v2 h = some (r, h') → q_W l 2 yX5_widestGap cX5_widestGap 3 (some .int) (some (.int r)) h' 4 [(0, .ref v0), (1, .int v1), (2, .int v2)] [] h := by
  intro w
  induction w with
  | zero => intro v0 v1 v2 h hyp; cases hyp
  | succ w ih =>
    intro v0 v1 v2 h hyp
    unfold fX5_widestGap_b4 at hyp
    refine q_iload_n 2 rfl dX5_widestGap_4 ?_
    refine q_aload_n 0 rfl dX5_widestGap_5 ?_
    refine q_bind hyp (fun x1 e2 hyp => ?_)
    refine q_getI kF_X5_35 dX5_widestGap_6 e2 ?_
    refine q_icmp_ge (tgt := 40) dX5_widestGap_9 (by decide) (fun c3 => ?_) (fun c3 => ?_)
    · have hyp := q_pos c3 hyp
      refine q_iload_n 1 rfl dX5_widestGap_40 ?_
      exact q_iretH rfl rfl dX5_widestGap_41 hyp
    · have hyp := q_neg c3 hyp
      refine q_iload_n 1 rfl dX5_widestGap_12 ?_
      refine q_aload_n 0 rfl dX5_widestGap_13 ?_
      refine q_aload_n 0 rfl dX5_widestGap_14 ?_
      refine q_bind hyp (fun x4 e5 hyp => ?_)
      refine q_getR kF_X5_19 dX5_widestGap_15 e5 ?_
      refine q_iload_n 2 rfl dX5_widestGap_18 ?_
      refine q_bind hyp (fun x6 e7 hyp => ?_)
      refine q_iald dX5_widestGap_19 e7 ?_
      refine q_bind hyp (fun p8 e13 hyp => ?_)
      refine q_callV (as := [.int x6]) (st := [.int v1]) kY_X5_nextBirth kL_X5_89 (okX5_nextBirth (l := l) e13) (by decide) rfl (obX5_nextBirth e13) (Nat.le_of_ble_eq_true rfl) dX5_widestGap_20 ?_
      refine q_to (ls' := [(0, .ref v0), (1, .int v1), (2, .int v2)]) (st' := [.int p8.1, .int v1]) rfl rfl ?_
      refine q_aload_n 0 rfl dX5_widestGap_23 ?_
      refine q_bind hyp (fun x9 e10 hyp => ?_)
      refine q_getR kF_X5_19 dX5_widestGap_24 e10 ?_
      refine q_iload_n 2 rfl dX5_widestGap_27 ?_
      refine q_bind hyp (fun x11 e12 hyp => ?_)
      refine q_iald dX5_widestGap_28 e12 ?_
      refine q_isub dX5_widestGap_29 ?_
      refine q_max kL_X5_68 kS_max kZ_math kD_max (by decide) (Nat.le_of_ble_eq_true rfl) dX5_widestGap_30 ?_
      refine q_istore_n (ls' := [(1, .int (if v1 < (p8.1 - x11) then (p8.1 - x11) else v1)), (0, .ref v0), (2, .int v2)]) (by decide) rfl dX5_widestGap_33 ?_
      refine q_iinc (ls' := [(2, .int (v2 + 1)), (1, .int (if v1 < (p8.1 - x11) then (p8.1 - x11) else v1)), (0, .ref v0)]) 2 rfl rfl (by decide) rfl dX5_widestGap_34 ?_
      refine q_goto (tgt := 4) dX5_widestGap_37 (by decide) ?_
      exact q_sub [2, 1, 0] rfl (ih v0 (if v1 < (p8.1 - x11) then (p8.1 - x11) else v1) (v2 + 1) p8.2 hyp)
def fX5_widestGap (n : Nat) (v0 : Nat) (h : qH) : Option (Int32 × qH) :=
  (isO h v0 5).bind fun _ =>
  fX5_widestGap_b4 n n v0 0 0 h
theorem obX5_widestGap {n : Nat} {v0 : Nat} {h : qH} {p : Int32 × qH} (hyp : fX5_widestGap n v0 h = some p) : ∃ fs, h.1 v0 = some (.inr (5, fs)) := by
  unfold fX5_widestGap at hyp
  exact q_bind hyp (fun _ e _ => isO_some e)
set_option maxHeartbeats 4000000 in
set_option maxRecDepth 100000 in
theorem okX5_widestGap {l : Launch} {n : Nat} {v0 : Nat} {h : qH} {p : Int32 × qH} (hyp : fX5_widestGap n v0 h = some p) : q_M l 2 yX5_widestGap cX5_widestGap 3 (some .int) [.ref v0] h (some (.int p.1)) p.2 := by
  obtain ⟨r, h'⟩ := p
  unfold fX5_widestGap at hyp
  refine q_bind hyp (fun _ _ hyp => ?_)
  refine q_M.of (by decide) (Nat.le_of_ble_eq_true rfl) ?_
  refine q_to (ls' := [(0, .ref v0)]) (st' := []) rfl rfl ?_
  refine q_iconst (x := 0) rfl dX5_widestGap_0 ?_
  refine q_istore_n (ls' := [(1, .int 0), (0, .ref v0)]) (by decide) rfl dX5_widestGap_1 ?_
  refine q_iconst (x := 0) rfl dX5_widestGap_2 ?_
  refine q_istore_n (ls' := [(2, .int 0), (1, .int 0), (0, .ref v0)]) (by decide) rfl dX5_widestGap_3 ?_
  exact q_sub [2, 1, 0] rfl (okX5_widestGap_b4 _ v0 0 0 h hyp)
theorem dX6_addSign_0 : decode cX6_addSign 0 = .ok (.iload_n 1, 1) := by decide +kernel
theorem dX6_addSign_1 : decode cX6_addSign 1 = .ok (.bipush 10, 2) := by decide +kernel
theorem dX6_addSign_3 : decode cX6_addSign 3 = .ok (.if_icmp .eq 15, 3) := by decide +kernel
theorem dX6_addSign_6 : decode cX6_addSign 6 = .ok (.iload_n 1, 1) := by decide +kernel
theorem dX6_addSign_7 : decode cX6_addSign 7 = .ok (.bipush 32, 2) := by decide +kernel
theorem dX6_addSign_9 : decode cX6_addSign 9 = .ok (.if_icmp .lt 42, 3) := by decide +kernel
theorem dX6_addSign_12 : decode cX6_addSign 12 = .ok (.iload_n 1, 1) := by decide +kernel
theorem dX6_addSign_13 : decode cX6_addSign 13 = .ok (.bipush 126, 2) := by decide +kernel
theorem dX6_addSign_15 : decode cX6_addSign 15 = .ok (.if_icmp .gt 36, 3) := by decide +kernel
theorem dX6_addSign_18 : decode cX6_addSign 18 = .ok (.aload_n 0, 1) := by decide +kernel
theorem dX6_addSign_19 : decode cX6_addSign 19 = .ok (.getfield 19, 3) := by decide +kernel
theorem dX6_addSign_22 : decode cX6_addSign 22 = .ok (.aload_n 0, 1) := by decide +kernel
theorem dX6_addSign_23 : decode cX6_addSign 23 = .ok (.getfield 9, 3) := by decide +kernel
theorem dX6_addSign_26 : decode cX6_addSign 26 = .ok (.arraylength, 1) := by decide +kernel
theorem dX6_addSign_27 : decode cX6_addSign 27 = .ok (.if_icmp .ge 24, 3) := by decide +kernel
theorem dX6_addSign_30 : decode cX6_addSign 30 = .ok (.aload_n 0, 1) := by decide +kernel
theorem dX6_addSign_31 : decode cX6_addSign 31 = .ok (.getfield 9, 3) := by decide +kernel
theorem dX6_addSign_34 : decode cX6_addSign 34 = .ok (.aload_n 0, 1) := by decide +kernel
theorem dX6_addSign_35 : decode cX6_addSign 35 = .ok (.getfield 19, 3) := by decide +kernel
theorem dX6_addSign_38 : decode cX6_addSign 38 = .ok (.iload_n 1, 1) := by decide +kernel
theorem dX6_addSign_39 : decode cX6_addSign 39 = .ok (.i2c, 1) := by decide +kernel
theorem dX6_addSign_40 : decode cX6_addSign 40 = .ok (.castore, 1) := by decide +kernel
theorem dX6_addSign_41 : decode cX6_addSign 41 = .ok (.aload_n 0, 1) := by decide +kernel
theorem dX6_addSign_42 : decode cX6_addSign 42 = .ok (.dup, 1) := by decide +kernel
theorem dX6_addSign_43 : decode cX6_addSign 43 = .ok (.getfield 19, 3) := by decide +kernel
theorem dX6_addSign_46 : decode cX6_addSign 46 = .ok (.iconst 1, 1) := by decide +kernel
theorem dX6_addSign_47 : decode cX6_addSign 47 = .ok (.iadd, 1) := by decide +kernel
theorem dX6_addSign_48 : decode cX6_addSign 48 = .ok (.putfield 19, 3) := by decide +kernel
theorem dX6_addSign_51 : decode cX6_addSign 51 = .ok (.return_, 1) := by decide +kernel
def fX6_addSign_b18 (v0 : Nat) (v1 : Int32) (h : qH) : Option (qH) :=
  (gI h v0 6 1).bind fun x1 =>
  (gR h v0 6 0).bind fun x3 =>
  (aN h x3).bind fun x5 =>
  if x5 ≤ x1 then
  (some h)
  else
  ((gR h v0 6 0).bind fun x8 =>
  (gI h v0 6 1).bind fun x10 =>
  (sI .char h x8 x10 ((v1.toUInt32 % 65536).toInt32)).bind fun h12 =>
  (gI h12 v0 6 1).bind fun x14 =>
  (pF h12 v0 6 1 (.int (x14 + 1))).bind fun h16 =>
  some h16)
set_option maxHeartbeats 4000000 in
set_option maxRecDepth 100000 in
theorem okX6_addSign_b18 {l : Launch} {v0 : Nat} {v1 : Int32} {h : qH} {h' : qH} (hyp : fX6_addSign_b18 v0 v1 h = some h') : q_W l 1 yX6_addSign cX6_addSign 2 none none h' 18 [(0, .ref v0), (1, .int v1)] [] h := by
  unfold fX6_addSign_b18 at hyp
  refine q_aload_n 0 rfl dX6_addSign_18 ?_
  refine q_bind hyp (fun x1 e2 hyp => ?_)
  refine q_getI kF_X6_19 dX6_addSign_19 e2 ?_
  refine q_aload_n 0 rfl dX6_addSign_22 ?_
  refine q_bind hyp (fun x3 e4 hyp => ?_)
  refine q_getR kF_X6_9 dX6_addSign_23 e4 ?_
  refine q_bind hyp (fun x5 e6 hyp => ?_)
  refine q_alen dX6_addSign_26 e6 ?_
  refine q_icmp_ge (tgt := 51) dX6_addSign_27 (by decide) (fun c7 => ?_) (fun c7 => ?_)
  · have hyp := q_pos c7 hyp
    exact q_vretH rfl dX6_addSign_51 hyp
  · have hyp := q_neg c7 hyp
    refine q_aload_n 0 rfl dX6_addSign_30 ?_
    refine q_bind hyp (fun x8 e9 hyp => ?_)
    refine q_getR kF_X6_9 dX6_addSign_31 e9 ?_
    refine q_aload_n 0 rfl dX6_addSign_34 ?_
    refine q_bind hyp (fun x10 e11 hyp => ?_)
    refine q_getI kF_X6_19 dX6_addSign_35 e11 ?_
    refine q_iload_n 1 rfl dX6_addSign_38 ?_
    refine q_i2c dX6_addSign_39 ?_
    refine q_bind hyp (fun h12 e13 hyp => ?_)
    refine q_cast dX6_addSign_40 e13 ?_
    refine q_aload_n 0 rfl dX6_addSign_41 ?_
    refine q_dup rfl dX6_addSign_42 ?_
    refine q_bind hyp (fun x14 e15 hyp => ?_)
    refine q_getI kF_X6_19 dX6_addSign_43 e15 ?_
    refine q_iconst (x := 1) rfl dX6_addSign_46 ?_
    refine q_iadd dX6_addSign_47 ?_
    refine q_bind hyp (fun h16 e17 hyp => ?_)
    refine q_putF kF_X6_19 (fun _ => ⟨rfl, rfl⟩) dX6_addSign_48 e17 ?_
    exact q_vretH rfl dX6_addSign_51 hyp
def fX6_addSign (v0 : Nat) (v1 : Int32) (h : qH) : Option (qH) :=
  (isO h v0 6).bind fun _ =>
  if v1 = 10 then
  (fX6_addSign_b18 v0 v1 h)
  else
  (if v1 < 32 then
  (some h)
  else
  (if 126 < v1 then
  (some h)
  else
  (fX6_addSign_b18 v0 v1 h)))
theorem obX6_addSign {v0 : Nat} {v1 : Int32} {h : qH} {p : qH} (hyp : fX6_addSign v0 v1 h = some p) : ∃ fs, h.1 v0 = some (.inr (6, fs)) := by
  unfold fX6_addSign at hyp
  exact q_bind hyp (fun _ e _ => isO_some e)
set_option maxHeartbeats 4000000 in
set_option maxRecDepth 100000 in
theorem okX6_addSign {l : Launch} {v0 : Nat} {v1 : Int32} {h : qH} {h' : qH} (hyp : fX6_addSign v0 v1 h = some h') : q_M l 1 yX6_addSign cX6_addSign 2 none [.ref v0, .int v1] h none h' := by
  unfold fX6_addSign at hyp
  refine q_bind hyp (fun _ _ hyp => ?_)
  refine q_M.of (by decide) (Nat.le_of_ble_eq_true rfl) ?_
  refine q_to (ls' := [(0, .ref v0), (1, .int v1)]) (st' := []) rfl rfl ?_
  refine q_iload_n 1 rfl dX6_addSign_0 ?_
  refine q_bipush (x := 10) (by decide) dX6_addSign_1 ?_
  refine q_icmp_eq (tgt := 18) dX6_addSign_3 (by decide) (fun c1 => ?_) (fun c1 => ?_)
  · have hyp := q_pos c1 hyp
    exact q_sub [0, 1] rfl (okX6_addSign_b18 hyp)
  · have hyp := q_neg c1 hyp
    refine q_iload_n 1 rfl dX6_addSign_6 ?_
    refine q_bipush (x := 32) (by decide) dX6_addSign_7 ?_
    refine q_icmp_lt (tgt := 51) dX6_addSign_9 (by decide) (fun c2 => ?_) (fun c2 => ?_)
    · have hyp := q_pos c2 hyp
      exact q_vretH rfl dX6_addSign_51 hyp
    · have hyp := q_neg c2 hyp
      refine q_iload_n 1 rfl dX6_addSign_12 ?_
      refine q_bipush (x := 126) (by decide) dX6_addSign_13 ?_
      refine q_icmp_gt (tgt := 51) dX6_addSign_15 (by decide) (fun c3 => ?_) (fun c3 => ?_)
      · have hyp := q_pos c3 hyp
        exact q_vretH rfl dX6_addSign_51 hyp
      · have hyp := q_neg c3 hyp
        exact q_sub [0, 1] rfl (okX6_addSign_b18 hyp)
theorem dX6_addBytes_0 : decode cX6_addBytes 0 = .ok (.bipush 56, 2) := by decide +kernel
theorem dX6_addBytes_2 : decode cX6_addBytes 2 = .ok (.istore_n 3, 1) := by decide +kernel
theorem dX6_addBytes_3 : decode cX6_addBytes 3 = .ok (.iload_n 3, 1) := by decide +kernel
theorem dX6_addBytes_4 : decode cX6_addBytes 4 = .ok (.ifCond .lt 21, 3) := by decide +kernel
theorem dX6_addBytes_7 : decode cX6_addBytes 7 = .ok (.aload_n 0, 1) := by decide +kernel
theorem dX6_addBytes_8 : decode cX6_addBytes 8 = .ok (.lload_n 1, 1) := by decide +kernel
theorem dX6_addBytes_9 : decode cX6_addBytes 9 = .ok (.iload_n 3, 1) := by decide +kernel
theorem dX6_addBytes_10 : decode cX6_addBytes 10 = .ok (.lushr, 1) := by decide +kernel
theorem dX6_addBytes_11 : decode cX6_addBytes 11 = .ok (.l2i, 1) := by decide +kernel
theorem dX6_addBytes_12 : decode cX6_addBytes 12 = .ok (.sipush 255, 3) := by decide +kernel
theorem dX6_addBytes_15 : decode cX6_addBytes 15 = .ok (.iand, 1) := by decide +kernel
theorem dX6_addBytes_16 : decode cX6_addBytes 16 = .ok (.invokevirtual 15, 3) := by decide +kernel
theorem dX6_addBytes_19 : decode cX6_addBytes 19 = .ok (.iinc 3 (-8), 3) := by decide +kernel
theorem dX6_addBytes_22 : decode cX6_addBytes 22 = .ok (.goto (-19), 3) := by decide +kernel
theorem dX6_addBytes_25 : decode cX6_addBytes 25 = .ok (.return_, 1) := by decide +kernel
def fX6_addBytes_b3 (n : Nat) : Nat → Nat → Int64 → Int32 → qH → Option (qH)
  | 0, _, _, _, _ => none
  | w + 1, v0, v1, v3, h =>
    if v3 < 0 then
    (some h)
    else
    ((fX6_addSign v0 ((((v1.toUInt64 >>> (v3.toInt64.toUInt64 &&& Int64.toUInt64 63)).toInt64).toInt32) &&& 255) h).bind fun h2 =>
    fX6_addBytes_b3 n w v0 v1 (v3 + (-8)) h2)
set_option maxHeartbeats 4000000 in
set_option maxRecDepth 100000 in
theorem okX6_addBytes_b3 {l : Launch} {n : Nat} {h' : qH} : ∀ (w : Nat) (v0 : Nat) (v1 : Int64) (v3 : Int32) (h : qH), fX6_addBytes_b3 n w v0 v1 v3 h = some h' → q_W l 2 yX6_addBytes cX6_addBytes 4 none none h' 3 [(0, .ref v0), (1, .long v1), (3, .int v3)] [] h := by
  intro w
  induction w with
  | zero => intro v0 v1 v3 h hyp; cases hyp
  | succ w ih =>
    intro v0 v1 v3 h hyp
    unfold fX6_addBytes_b3 at hyp
    refine q_iload_n 2 rfl dX6_addBytes_3 ?_
    refine q_if_lt (tgt := 25) dX6_addBytes_4 (by decide) (fun c1 => ?_) (fun c1 => ?_)
    · have hyp := q_pos c1 hyp
      exact q_vretH rfl dX6_addBytes_25 hyp
    · have hyp := q_neg c1 hyp
      refine q_aload_n 0 rfl dX6_addBytes_7 ?_
      refine q_lload_n 1 rfl dX6_addBytes_8 ?_
      refine q_iload_n 2 rfl dX6_addBytes_9 ?_
      refine q_lushr dX6_addBytes_10 ?_
      refine q_l2i dX6_addBytes_11 ?_
      refine q_sipush (x := 255) (by decide) dX6_addBytes_12 ?_
      refine q_iand dX6_addBytes_15 ?_
      refine q_bind hyp (fun h2 e3 hyp => ?_)
      refine q_callV (as := [.int ((((v1.toUInt64 >>> (v3.toInt64.toUInt64 &&& Int64.toUInt64 63)).toInt64).toInt32) &&& 255)]) (st := []) kY_X6_addSign kL_X6_15 (okX6_addSign (l := l) e3) (by decide) rfl (obX6_addSign e3) (Nat.le_of_ble_eq_true rfl) dX6_addBytes_16 ?_
      refine q_to (ls' := [(0, .ref v0), (1, .long v1), (3, .int v3)]) (st' := []) rfl rfl ?_
      refine q_iinc (ls' := [(3, .int (v3 + (-8))), (0, .ref v0), (1, .long v1)]) 2 rfl (by rw [show Int32.ofInt (-8) = (-8 : Int32) by decide]) (by decide) rfl dX6_addBytes_19 ?_
      refine q_goto (tgt := 3) dX6_addBytes_22 (by decide) ?_
      exact q_sub [1, 2, 0] rfl (ih v0 v1 (v3 + (-8)) h2 hyp)
def fX6_addBytes (n : Nat) (v0 : Nat) (v1 : Int64) (h : qH) : Option (qH) :=
  (isO h v0 6).bind fun _ =>
  fX6_addBytes_b3 n n v0 v1 56 h
theorem obX6_addBytes {n : Nat} {v0 : Nat} {v1 : Int64} {h : qH} {p : qH} (hyp : fX6_addBytes n v0 v1 h = some p) : ∃ fs, h.1 v0 = some (.inr (6, fs)) := by
  unfold fX6_addBytes at hyp
  exact q_bind hyp (fun _ e _ => isO_some e)
set_option maxHeartbeats 4000000 in
set_option maxRecDepth 100000 in
theorem okX6_addBytes {l : Launch} {n : Nat} {v0 : Nat} {v1 : Int64} {h : qH} {h' : qH} (hyp : fX6_addBytes n v0 v1 h = some h') : q_M l 2 yX6_addBytes cX6_addBytes 4 none [.ref v0, .long v1] h none h' := by
  unfold fX6_addBytes at hyp
  refine q_bind hyp (fun _ _ hyp => ?_)
  refine q_M.of (by decide) (Nat.le_of_ble_eq_true rfl) ?_
  refine q_to (ls' := [(0, .ref v0), (1, .long v1)]) (st' := []) rfl rfl ?_
  refine q_bipush (x := 56) (by decide) dX6_addBytes_0 ?_
  refine q_istore_n (ls' := [(3, .int 56), (0, .ref v0), (1, .long v1)]) (by decide) rfl dX6_addBytes_2 ?_
  exact q_sub [1, 2, 0] rfl (okX6_addBytes_b3 _ v0 v1 56 h hyp)
theorem dX6_init_0 : decode cX6_init 0 = .ok (.aload_n 0, 1) := by decide +kernel
theorem dX6_init_1 : decode cX6_init 1 = .ok (.invokespecial 3, 3) := by decide +kernel
theorem dX6_init_4 : decode cX6_init 4 = .ok (.aload_n 0, 1) := by decide +kernel
theorem dX6_init_5 : decode cX6_init 5 = .ok (.sipush 1000, 3) := by decide +kernel
theorem dX6_init_8 : decode cX6_init 8 = .ok (.newarray .char, 2) := by decide +kernel
theorem dX6_init_10 : decode cX6_init 10 = .ok (.putfield 9, 3) := by decide +kernel
theorem dX6_init_13 : decode cX6_init 13 = .ok (.return_, 1) := by decide +kernel
def fX6_init (v0 : Nat) (h : qH) : Option (qH) :=
  (isO h v0 6).bind fun _ =>
  (some (nwE (.inl (.char, 1000, .inl (fun _ => 0))) 1000 h)).bind fun h1 =>
  (pF h1 v0 6 0 (.ref h.2.1)).bind fun h3 =>
  some h3
theorem obX6_init {v0 : Nat} {h : qH} {p : qH} (hyp : fX6_init v0 h = some p) : ∃ fs, h.1 v0 = some (.inr (6, fs)) := by
  unfold fX6_init at hyp
  exact q_bind hyp (fun _ e _ => isO_some e)
set_option maxHeartbeats 4000000 in
set_option maxRecDepth 100000 in
theorem okX6_init {l : Launch} {v0 : Nat} {h : qH} {h' : qH} (hyp : fX6_init v0 h = some h') : q_M l 1 yX6_init cX6_init 1 none [.ref v0] h none h' := by
  unfold fX6_init at hyp
  refine q_bind hyp (fun _ _ hyp => ?_)
  refine q_M.of (by decide) (Nat.le_of_ble_eq_true rfl) ?_
  refine q_to (ls' := [(0, .ref v0)]) (st' := []) rfl rfl ?_
  refine q_aload_n 0 rfl dX6_init_0 ?_
  refine q_objInit kL_X6_3 kI_obj kD_obj (by decide) (Nat.le_of_ble_eq_true rfl) dX6_init_1 ?_
  refine q_aload_n 0 rfl dX6_init_4 ?_
  refine q_sipush (x := 1000) (by decide) dX6_init_5 ?_
  refine q_bind hyp (fun h1 e2 hyp => ?_)
  refine q_newa (ty := .char) (N := 1000) (k := .inl (fun _ => 0)) rfl rfl kA_char (fun _ _ => rfl) (fun _ _ h => h) (by decide) (by decide) dX6_init_8 ?_
  rw [Option.some.inj e2]
  refine q_bind hyp (fun h3 e4 hyp => ?_)
  refine q_putZ kF_X6_9 rfl ⟨_, _, rfl⟩ (fun _ => ⟨rfl, rfl⟩) dX6_init_10 e4 ?_
  exact q_vretH rfl dX6_init_13 hyp
theorem dX7_add_0 : decode cX7_add 0 = .ok (.aload_n 0, 1) := by decide +kernel
theorem dX7_add_1 : decode cX7_add 1 = .ok (.getfield 22, 3) := by decide +kernel
theorem dX7_add_4 : decode cX7_add 4 = .ok (.aload_n 0, 1) := by decide +kernel
theorem dX7_add_5 : decode cX7_add 5 = .ok (.getfield 9, 3) := by decide +kernel
theorem dX7_add_8 : decode cX7_add 8 = .ok (.arraylength, 1) := by decide +kernel
theorem dX7_add_9 : decode cX7_add 9 = .ok (.if_icmp .lt 5, 3) := by decide +kernel
theorem dX7_add_12 : decode cX7_add 12 = .ok (.iconst 0, 1) := by decide +kernel
theorem dX7_add_13 : decode cX7_add 13 = .ok (.ireturn, 1) := by decide +kernel
theorem dX7_add_14 : decode cX7_add 14 = .ok (.aload_n 0, 1) := by decide +kernel
theorem dX7_add_15 : decode cX7_add 15 = .ok (.getfield 9, 3) := by decide +kernel
theorem dX7_add_18 : decode cX7_add 18 = .ok (.aload_n 0, 1) := by decide +kernel
theorem dX7_add_19 : decode cX7_add 19 = .ok (.getfield 22, 3) := by decide +kernel
theorem dX7_add_22 : decode cX7_add 22 = .ok (.iload_n 1, 1) := by decide +kernel
theorem dX7_add_23 : decode cX7_add 23 = .ok (.iastore, 1) := by decide +kernel
theorem dX7_add_24 : decode cX7_add 24 = .ok (.aload_n 0, 1) := by decide +kernel
theorem dX7_add_25 : decode cX7_add 25 = .ok (.getfield 15, 3) := by decide +kernel
theorem dX7_add_28 : decode cX7_add 28 = .ok (.aload_n 0, 1) := by decide +kernel
theorem dX7_add_29 : decode cX7_add 29 = .ok (.getfield 22, 3) := by decide +kernel
theorem dX7_add_32 : decode cX7_add 32 = .ok (.iload_n 2, 1) := by decide +kernel
theorem dX7_add_33 : decode cX7_add 33 = .ok (.iastore, 1) := by decide +kernel
theorem dX7_add_34 : decode cX7_add 34 = .ok (.aload_n 0, 1) := by decide +kernel
theorem dX7_add_35 : decode cX7_add 35 = .ok (.getfield 18, 3) := by decide +kernel
theorem dX7_add_38 : decode cX7_add 38 = .ok (.aload_n 0, 1) := by decide +kernel
theorem dX7_add_39 : decode cX7_add 39 = .ok (.getfield 22, 3) := by decide +kernel
theorem dX7_add_42 : decode cX7_add 42 = .ok (.iload_n 3, 1) := by decide +kernel
theorem dX7_add_43 : decode cX7_add 43 = .ok (.bastore, 1) := by decide +kernel
theorem dX7_add_44 : decode cX7_add 44 = .ok (.aload_n 0, 1) := by decide +kernel
theorem dX7_add_45 : decode cX7_add 45 = .ok (.dup, 1) := by decide +kernel
theorem dX7_add_46 : decode cX7_add 46 = .ok (.getfield 22, 3) := by decide +kernel
theorem dX7_add_49 : decode cX7_add 49 = .ok (.iconst 1, 1) := by decide +kernel
theorem dX7_add_50 : decode cX7_add 50 = .ok (.iadd, 1) := by decide +kernel
theorem dX7_add_51 : decode cX7_add 51 = .ok (.putfield 22, 3) := by decide +kernel
theorem dX7_add_54 : decode cX7_add 54 = .ok (.iconst 1, 1) := by decide +kernel
theorem dX7_add_55 : decode cX7_add 55 = .ok (.ireturn, 1) := by decide +kernel
def fX7_add (v0 : Nat) (v1 : Int32) (v2 : Int32) (v3 : Int32) (h : qH) : Option (Int32 × qH) :=
  (isO h v0 7).bind fun _ =>
  (gI h v0 7 3).bind fun x1 =>
  (gR h v0 7 0).bind fun x3 =>
  (aN h x3).bind fun x5 =>
  if x1 < x5 then
  ((gR h v0 7 0).bind fun x8 =>
  (gI h v0 7 3).bind fun x10 =>
  (sI .int h x8 x10 v1).bind fun h12 =>
  (gR h12 v0 7 1).bind fun x14 =>
  (gI h12 v0 7 3).bind fun x16 =>
  (sI .int h12 x14 x16 v2).bind fun h18 =>
  (gR h18 v0 7 2).bind fun x20 =>
  (gI h18 v0 7 3).bind fun x22 =>
  (sI .boolean h18 x20 x22 v3).bind fun h24 =>
  (gI h24 v0 7 3).bind fun x26 =>
  (pF h24 v0 7 3 (.int (x26 + 1))).bind fun h28 =>
  some (1, h28))
  else
  (some (0, h))
theorem obX7_add {v0 : Nat} {v1 : Int32} {v2 : Int32} {v3 : Int32} {h : qH} {p : Int32 × qH} (hyp : fX7_add v0 v1 v2 v3 h = some p) : ∃ fs, h.1 v0 = some (.inr (7, fs)) := by
  unfold fX7_add at hyp
  exact q_bind hyp (fun _ e _ => isO_some e)
set_option maxHeartbeats 4000000 in
set_option maxRecDepth 100000 in
theorem okX7_add {l : Launch} {v0 : Nat} {v1 : Int32} {v2 : Int32} {v3 : Int32} {h : qH} {p : Int32 × qH} (hyp : fX7_add v0 v1 v2 v3 h = some p) : q_M l 1 yX7_add cX7_add 4 (some .boolean) [.ref v0, .int v1, .int v2, .int v3] h (some (.int p.1)) p.2 := by
  obtain ⟨r, h'⟩ := p
  unfold fX7_add at hyp
  refine q_bind hyp (fun _ _ hyp => ?_)
  refine q_M.of (by decide) (Nat.le_of_ble_eq_true rfl) ?_
  refine q_to (ls' := [(0, .ref v0), (1, .int v1), (2, .int v2), (3, .int v3)]) (st' := []) rfl rfl ?_
  refine q_aload_n 0 rfl dX7_add_0 ?_
  refine q_bind hyp (fun x1 e2 hyp => ?_)
  refine q_getI kF_X7_22 dX7_add_1 e2 ?_
  refine q_aload_n 0 rfl dX7_add_4 ?_
  refine q_bind hyp (fun x3 e4 hyp => ?_)
  refine q_getR kF_X7_9 dX7_add_5 e4 ?_
  refine q_bind hyp (fun x5 e6 hyp => ?_)
  refine q_alen dX7_add_8 e6 ?_
  refine q_icmp_lt (tgt := 14) dX7_add_9 (by decide) (fun c7 => ?_) (fun c7 => ?_)
  · have hyp := q_pos c7 hyp
    refine q_aload_n 0 rfl dX7_add_14 ?_
    refine q_bind hyp (fun x8 e9 hyp => ?_)
    refine q_getR kF_X7_9 dX7_add_15 e9 ?_
    refine q_aload_n 0 rfl dX7_add_18 ?_
    refine q_bind hyp (fun x10 e11 hyp => ?_)
    refine q_getI kF_X7_22 dX7_add_19 e11 ?_
    refine q_iload_n 1 rfl dX7_add_22 ?_
    refine q_bind hyp (fun h12 e13 hyp => ?_)
    refine q_iast dX7_add_23 e13 ?_
    refine q_aload_n 0 rfl dX7_add_24 ?_
    refine q_bind hyp (fun x14 e15 hyp => ?_)
    refine q_getR kF_X7_15 dX7_add_25 e15 ?_
    refine q_aload_n 0 rfl dX7_add_28 ?_
    refine q_bind hyp (fun x16 e17 hyp => ?_)
    refine q_getI kF_X7_22 dX7_add_29 e17 ?_
    refine q_iload_n 2 rfl dX7_add_32 ?_
    refine q_bind hyp (fun h18 e19 hyp => ?_)
    refine q_iast dX7_add_33 e19 ?_
    refine q_aload_n 0 rfl dX7_add_34 ?_
    refine q_bind hyp (fun x20 e21 hyp => ?_)
    refine q_getR kF_X7_18 dX7_add_35 e21 ?_
    refine q_aload_n 0 rfl dX7_add_38 ?_
    refine q_bind hyp (fun x22 e23 hyp => ?_)
    refine q_getI kF_X7_22 dX7_add_39 e23 ?_
    refine q_iload_n 3 rfl dX7_add_42 ?_
    refine q_bind hyp (fun h24 e25 hyp => ?_)
    refine q_zast dX7_add_43 e25 ?_
    refine q_aload_n 0 rfl dX7_add_44 ?_
    refine q_dup rfl dX7_add_45 ?_
    refine q_bind hyp (fun x26 e27 hyp => ?_)
    refine q_getI kF_X7_22 dX7_add_46 e27 ?_
    refine q_iconst (x := 1) rfl dX7_add_49 ?_
    refine q_iadd dX7_add_50 ?_
    refine q_bind hyp (fun h28 e29 hyp => ?_)
    refine q_putF kF_X7_22 (fun _ => ⟨rfl, rfl⟩) dX7_add_51 e29 ?_
    refine q_iconst (x := 1) rfl dX7_add_54 ?_
    exact q_iretH rfl rfl dX7_add_55 hyp
  · have hyp := q_neg c7 hyp
    refine q_iconst (x := 0) rfl dX7_add_12 ?_
    exact q_iretH rfl rfl dX7_add_13 hyp
theorem dX8_begin_0 : decode cX8_begin 0 = .ok (.iconst 0, 1) := by decide +kernel
theorem dX8_begin_1 : decode cX8_begin 1 = .ok (.istore_n 2, 1) := by decide +kernel
theorem dX8_begin_2 : decode cX8_begin 2 = .ok (.iload_n 2, 1) := by decide +kernel
theorem dX8_begin_3 : decode cX8_begin 3 = .ok (.bipush 7, 2) := by decide +kernel
theorem dX8_begin_5 : decode cX8_begin 5 = .ok (.if_icmp .ge 28, 3) := by decide +kernel
theorem dX8_begin_8 : decode cX8_begin 8 = .ok (.aload_n 0, 1) := by decide +kernel
theorem dX8_begin_9 : decode cX8_begin 9 = .ok (.getfield 9, 3) := by decide +kernel
theorem dX8_begin_12 : decode cX8_begin 12 = .ok (.iload_n 2, 1) := by decide +kernel
theorem dX8_begin_13 : decode cX8_begin 13 = .ok (.aload_n 1, 1) := by decide +kernel
theorem dX8_begin_14 : decode cX8_begin 14 = .ok (.getfield 18, 3) := by decide +kernel
theorem dX8_begin_17 : decode cX8_begin 17 = .ok (.iload_n 2, 1) := by decide +kernel
theorem dX8_begin_18 : decode cX8_begin 18 = .ok (.iaload, 1) := by decide +kernel
theorem dX8_begin_19 : decode cX8_begin 19 = .ok (.iastore, 1) := by decide +kernel
theorem dX8_begin_20 : decode cX8_begin 20 = .ok (.aload_n 0, 1) := by decide +kernel
theorem dX8_begin_21 : decode cX8_begin 21 = .ok (.getfield 15, 3) := by decide +kernel
theorem dX8_begin_24 : decode cX8_begin 24 = .ok (.iload_n 2, 1) := by decide +kernel
theorem dX8_begin_25 : decode cX8_begin 25 = .ok (.iconst 0, 1) := by decide +kernel
theorem dX8_begin_26 : decode cX8_begin 26 = .ok (.iastore, 1) := by decide +kernel
theorem dX8_begin_27 : decode cX8_begin 27 = .ok (.iinc 2 1, 3) := by decide +kernel
theorem dX8_begin_30 : decode cX8_begin 30 = .ok (.goto (-28), 3) := by decide +kernel
theorem dX8_begin_33 : decode cX8_begin 33 = .ok (.aload_n 0, 1) := by decide +kernel
theorem dX8_begin_34 : decode cX8_begin 34 = .ok (.aload_n 1, 1) := by decide +kernel
theorem dX8_begin_35 : decode cX8_begin 35 = .ok (.getfield 21, 3) := by decide +kernel
theorem dX8_begin_38 : decode cX8_begin 38 = .ok (.putfield 25, 3) := by decide +kernel
theorem dX8_begin_41 : decode cX8_begin 41 = .ok (.aload_n 0, 1) := by decide +kernel
theorem dX8_begin_42 : decode cX8_begin 42 = .ok (.iconst 0, 1) := by decide +kernel
theorem dX8_begin_43 : decode cX8_begin 43 = .ok (.putfield 26, 3) := by decide +kernel
theorem dX8_begin_46 : decode cX8_begin 46 = .ok (.return_, 1) := by decide +kernel
def fX8_begin_b2 (n : Nat) : Nat → Nat → Nat → Int32 → qH → Option (qH)
  | 0, _, _, _, _ => none
  | w + 1, v0, v1, v2, h =>
    if 7 ≤ v2 then
    ((gI h v1 5 8).bind fun x2 =>
    (pF h v0 8 2 (.int x2)).bind fun h4 =>
    (pF h4 v0 8 3 (.int 0)).bind fun h6 =>
    some h6)
    else
    ((gR h v0 8 0).bind fun x8 =>
    (gR h v1 5 3).bind fun x10 =>
    (aI .int h x10 v2).bind fun x12 =>
    (sI .int h x8 v2 x12).bind fun h14 =>
    (gR h14 v0 8 1).bind fun x16 =>
    (sI .int h14 x16 v2 0).bind fun h18 =>
    fX8_begin_b2 n w v0 v1 (v2 + 1) h18)
set_option maxHeartbeats 4000000 in
set_option maxRecDepth 100000 in
theorem okX8_begin_b2 {l : Launch} {n : Nat} {h' : qH} : ∀ (w : Nat) (v0 : Nat) (v1 : Nat) (v2 : Int32) (h : qH), fX8_begin_b2 n w v0 v1 v2 h = some h' → q_W l 1 yX8_begin cX8_begin 3 none none h' 2 [(0, .ref v0), (1, .ref v1), (2, .int v2)] [] h := by
  intro w
  induction w with
  | zero => intro v0 v1 v2 h hyp; cases hyp
  | succ w ih =>
    intro v0 v1 v2 h hyp
    unfold fX8_begin_b2 at hyp
    refine q_iload_n 2 rfl dX8_begin_2 ?_
    refine q_bipush (x := 7) (by decide) dX8_begin_3 ?_
    refine q_icmp_ge (tgt := 33) dX8_begin_5 (by decide) (fun c1 => ?_) (fun c1 => ?_)
    · have hyp := q_pos c1 hyp
      refine q_aload_n 0 rfl dX8_begin_33 ?_
      refine q_aload_n 1 rfl dX8_begin_34 ?_
      refine q_bind hyp (fun x2 e3 hyp => ?_)
      refine q_getI kF_X8_21 dX8_begin_35 e3 ?_
      refine q_bind hyp (fun h4 e5 hyp => ?_)
      refine q_putF kF_X8_25 (fun _ => ⟨rfl, rfl⟩) dX8_begin_38 e5 ?_
      refine q_aload_n 0 rfl dX8_begin_41 ?_
      refine q_iconst (x := 0) rfl dX8_begin_42 ?_
      refine q_bind hyp (fun h6 e7 hyp => ?_)
      refine q_putF kF_X8_26 (fun _ => ⟨rfl, rfl⟩) dX8_begin_43 e7 ?_
      exact q_vretH rfl dX8_begin_46 hyp
    · have hyp := q_neg c1 hyp
      refine q_aload_n 0 rfl dX8_begin_8 ?_
      refine q_bind hyp (fun x8 e9 hyp => ?_)
      refine q_getR kF_X8_9 dX8_begin_9 e9 ?_
      refine q_iload_n 2 rfl dX8_begin_12 ?_
      refine q_aload_n 1 rfl dX8_begin_13 ?_
      refine q_bind hyp (fun x10 e11 hyp => ?_)
      refine q_getR kF_X8_18 dX8_begin_14 e11 ?_
      refine q_iload_n 2 rfl dX8_begin_17 ?_
      refine q_bind hyp (fun x12 e13 hyp => ?_)
      refine q_iald dX8_begin_18 e13 ?_
      refine q_bind hyp (fun h14 e15 hyp => ?_)
      refine q_iast dX8_begin_19 e15 ?_
      refine q_aload_n 0 rfl dX8_begin_20 ?_
      refine q_bind hyp (fun x16 e17 hyp => ?_)
      refine q_getR kF_X8_15 dX8_begin_21 e17 ?_
      refine q_iload_n 2 rfl dX8_begin_24 ?_
      refine q_iconst (x := 0) rfl dX8_begin_25 ?_
      refine q_bind hyp (fun h18 e19 hyp => ?_)
      refine q_iast dX8_begin_26 e19 ?_
      refine q_iinc (ls' := [(2, .int (v2 + 1)), (0, .ref v0), (1, .ref v1)]) 2 rfl rfl (by decide) rfl dX8_begin_27 ?_
      refine q_goto (tgt := 2) dX8_begin_30 (by decide) ?_
      exact q_sub [1, 2, 0] rfl (ih v0 v1 (v2 + 1) h18 hyp)
def fX8_begin (n : Nat) (v0 : Nat) (v1 : Nat) (h : qH) : Option (qH) :=
  (isO h v0 8).bind fun _ =>
  fX8_begin_b2 n n v0 v1 0 h
theorem obX8_begin {n : Nat} {v0 : Nat} {v1 : Nat} {h : qH} {p : qH} (hyp : fX8_begin n v0 v1 h = some p) : ∃ fs, h.1 v0 = some (.inr (8, fs)) := by
  unfold fX8_begin at hyp
  exact q_bind hyp (fun _ e _ => isO_some e)
set_option maxHeartbeats 4000000 in
set_option maxRecDepth 100000 in
theorem okX8_begin {l : Launch} {n : Nat} {v0 : Nat} {v1 : Nat} {h : qH} {h' : qH} (hyp : fX8_begin n v0 v1 h = some h') : q_M l 1 yX8_begin cX8_begin 3 none [.ref v0, .ref v1] h none h' := by
  unfold fX8_begin at hyp
  refine q_bind hyp (fun _ _ hyp => ?_)
  refine q_M.of (by decide) (Nat.le_of_ble_eq_true rfl) ?_
  refine q_to (ls' := [(0, .ref v0), (1, .ref v1)]) (st' := []) rfl rfl ?_
  refine q_iconst (x := 0) rfl dX8_begin_0 ?_
  refine q_istore_n (ls' := [(2, .int 0), (0, .ref v0), (1, .ref v1)]) (by decide) rfl dX8_begin_1 ?_
  exact q_sub [1, 2, 0] rfl (okX8_begin_b2 _ v0 v1 0 h hyp)
theorem dX8_canSpread_0 : decode cX8_canSpread 0 = .ok (.aload_n 0, 1) := by decide +kernel
theorem dX8_canSpread_1 : decode cX8_canSpread 1 = .ok (.getfield 25, 3) := by decide +kernel
theorem dX8_canSpread_4 : decode cX8_canSpread 4 = .ok (.aload_n 1, 1) := by decide +kernel
theorem dX8_canSpread_5 : decode cX8_canSpread 5 = .ok (.iload_n 2, 1) := by decide +kernel
theorem dX8_canSpread_6 : decode cX8_canSpread 6 = .ok (.invokevirtual 29, 3) := by decide +kernel
theorem dX8_canSpread_9 : decode cX8_canSpread 9 = .ok (.if_icmp .lt 7, 3) := by decide +kernel
theorem dX8_canSpread_12 : decode cX8_canSpread 12 = .ok (.iconst 1, 1) := by decide +kernel
theorem dX8_canSpread_13 : decode cX8_canSpread 13 = .ok (.goto 4, 3) := by decide +kernel
theorem dX8_canSpread_16 : decode cX8_canSpread 16 = .ok (.iconst 0, 1) := by decide +kernel
theorem dX8_canSpread_17 : decode cX8_canSpread 17 = .ok (.ireturn, 1) := by decide +kernel
def fX8_canSpread (v0 : Nat) (v1 : Nat) (v2 : Int32) (h : qH) : Option (Int32 × qH) :=
  (isO h v0 8).bind fun _ =>
  (gI h v0 8 2).bind fun x1 =>
  (fX5_price v1 v2 h).bind fun p3 =>
  if x1 < p3.1 then
  (some (0, p3.2))
  else
  (some (1, p3.2))
theorem obX8_canSpread {v0 : Nat} {v1 : Nat} {v2 : Int32} {h : qH} {p : Int32 × qH} (hyp : fX8_canSpread v0 v1 v2 h = some p) : ∃ fs, h.1 v0 = some (.inr (8, fs)) := by
  unfold fX8_canSpread at hyp
  exact q_bind hyp (fun _ e _ => isO_some e)
set_option maxHeartbeats 4000000 in
set_option maxRecDepth 100000 in
theorem okX8_canSpread {l : Launch} {v0 : Nat} {v1 : Nat} {v2 : Int32} {h : qH} {p : Int32 × qH} (hyp : fX8_canSpread v0 v1 v2 h = some p) : q_M l 2 yX8_canSpread cX8_canSpread 3 (some .boolean) [.ref v0, .ref v1, .int v2] h (some (.int p.1)) p.2 := by
  obtain ⟨r, h'⟩ := p
  unfold fX8_canSpread at hyp
  refine q_bind hyp (fun _ _ hyp => ?_)
  refine q_M.of (by decide) (Nat.le_of_ble_eq_true rfl) ?_
  refine q_to (ls' := [(0, .ref v0), (1, .ref v1), (2, .int v2)]) (st' := []) rfl rfl ?_
  refine q_aload_n 0 rfl dX8_canSpread_0 ?_
  refine q_bind hyp (fun x1 e2 hyp => ?_)
  refine q_getI kF_X8_25 dX8_canSpread_1 e2 ?_
  refine q_aload_n 1 rfl dX8_canSpread_4 ?_
  refine q_iload_n 2 rfl dX8_canSpread_5 ?_
  refine q_bind hyp (fun p3 e5 hyp => ?_)
  refine q_callV (as := [.int v2]) (st := [.int x1]) kY_X5_price kL_X8_29 (okX5_price (l := l) e5) (by decide) rfl (obX5_price e5) (Nat.le_of_ble_eq_true rfl) dX8_canSpread_6 ?_
  refine q_to (ls' := [(0, .ref v0), (1, .ref v1), (2, .int v2)]) (st' := [.int p3.1, .int x1]) rfl rfl ?_
  refine q_icmp_lt (tgt := 16) dX8_canSpread_9 (by decide) (fun c4 => ?_) (fun c4 => ?_)
  · have hyp := q_pos c4 hyp
    refine q_iconst (x := 0) rfl dX8_canSpread_16 ?_
    exact q_iretH rfl rfl dX8_canSpread_17 hyp
  · have hyp := q_neg c4 hyp
    refine q_iconst (x := 1) rfl dX8_canSpread_12 ?_
    refine q_goto (tgt := 17) dX8_canSpread_13 (by decide) ?_
    exact q_iretH rfl rfl dX8_canSpread_17 hyp
theorem dX8_pass_0 : decode cX8_pass 0 = .ok (.iconst 0, 1) := by decide +kernel
theorem dX8_pass_1 : decode cX8_pass 1 = .ok (.istore_n 2, 1) := by decide +kernel
theorem dX8_pass_2 : decode cX8_pass 2 = .ok (.iload_n 2, 1) := by decide +kernel
theorem dX8_pass_3 : decode cX8_pass 3 = .ok (.aload_n 1, 1) := by decide +kernel
theorem dX8_pass_4 : decode cX8_pass 4 = .ok (.getfield 41, 3) := by decide +kernel
theorem dX8_pass_7 : decode cX8_pass 7 = .ok (.if_icmp .ge 32, 3) := by decide +kernel
theorem dX8_pass_10 : decode cX8_pass 10 = .ok (.aload_n 0, 1) := by decide +kernel
theorem dX8_pass_11 : decode cX8_pass 11 = .ok (.getfield 9, 3) := by decide +kernel
theorem dX8_pass_14 : decode cX8_pass 14 = .ok (.iload_n 2, 1) := by decide +kernel
theorem dX8_pass_15 : decode cX8_pass 15 = .ok (.aload_n 1, 1) := by decide +kernel
theorem dX8_pass_16 : decode cX8_pass 16 = .ok (.iload_n 2, 1) := by decide +kernel
theorem dX8_pass_17 : decode cX8_pass 17 = .ok (.aload_n 0, 1) := by decide +kernel
theorem dX8_pass_18 : decode cX8_pass 18 = .ok (.getfield 9, 3) := by decide +kernel
theorem dX8_pass_21 : decode cX8_pass 21 = .ok (.iload_n 2, 1) := by decide +kernel
theorem dX8_pass_22 : decode cX8_pass 22 = .ok (.iaload, 1) := by decide +kernel
theorem dX8_pass_23 : decode cX8_pass 23 = .ok (.aload_n 0, 1) := by decide +kernel
theorem dX8_pass_24 : decode cX8_pass 24 = .ok (.getfield 15, 3) := by decide +kernel
theorem dX8_pass_27 : decode cX8_pass 27 = .ok (.iload_n 2, 1) := by decide +kernel
theorem dX8_pass_28 : decode cX8_pass 28 = .ok (.iaload, 1) := by decide +kernel
theorem dX8_pass_29 : decode cX8_pass 29 = .ok (.invokevirtual 44, 3) := by decide +kernel
theorem dX8_pass_32 : decode cX8_pass 32 = .ok (.iastore, 1) := by decide +kernel
theorem dX8_pass_33 : decode cX8_pass 33 = .ok (.iinc 2 1, 3) := by decide +kernel
theorem dX8_pass_36 : decode cX8_pass 36 = .ok (.goto (-34), 3) := by decide +kernel
theorem dX8_pass_39 : decode cX8_pass 39 = .ok (.aload_n 0, 1) := by decide +kernel
theorem dX8_pass_40 : decode cX8_pass 40 = .ok (.aload_n 1, 1) := by decide +kernel
theorem dX8_pass_41 : decode cX8_pass 41 = .ok (.aload_n 0, 1) := by decide +kernel
theorem dX8_pass_42 : decode cX8_pass 42 = .ok (.getfield 25, 3) := by decide +kernel
theorem dX8_pass_45 : decode cX8_pass 45 = .ok (.invokevirtual 48, 3) := by decide +kernel
theorem dX8_pass_48 : decode cX8_pass 48 = .ok (.putfield 25, 3) := by decide +kernel
theorem dX8_pass_51 : decode cX8_pass 51 = .ok (.aload_n 0, 1) := by decide +kernel
theorem dX8_pass_52 : decode cX8_pass 52 = .ok (.dup, 1) := by decide +kernel
theorem dX8_pass_53 : decode cX8_pass 53 = .ok (.getfield 26, 3) := by decide +kernel
theorem dX8_pass_56 : decode cX8_pass 56 = .ok (.iconst 1, 1) := by decide +kernel
theorem dX8_pass_57 : decode cX8_pass 57 = .ok (.iadd, 1) := by decide +kernel
theorem dX8_pass_58 : decode cX8_pass 58 = .ok (.putfield 26, 3) := by decide +kernel
theorem dX8_pass_61 : decode cX8_pass 61 = .ok (.return_, 1) := by decide +kernel
def fX8_pass_b2 (n : Nat) : Nat → Nat → Nat → Int32 → qH → Option (qH)
  | 0, _, _, _, _ => none
  | w + 1, v0, v1, v2, h =>
    (gI h v1 5 6).bind fun x1 =>
    if x1 ≤ v2 then
    ((gI h v0 8 2).bind fun x4 =>
    (fX5_potAfterYear v1 x4 h).bind fun p6 =>
    (pF p6.2 v0 8 2 (.int p6.1)).bind fun h7 =>
    (gI h7 v0 8 3).bind fun x9 =>
    (pF h7 v0 8 3 (.int (x9 + 1))).bind fun h11 =>
    some h11)
    else
    ((gR h v0 8 0).bind fun x14 =>
    (gR h v0 8 0).bind fun x16 =>
    (aI .int h x16 v2).bind fun x18 =>
    (gR h v0 8 1).bind fun x20 =>
    (aI .int h x20 v2).bind fun x22 =>
    (fX5_sourAfterYear v1 v2 x18 x22 h).bind fun p24 =>
    (sI .int p24.2 x14 v2 p24.1).bind fun h25 =>
    fX8_pass_b2 n w v0 v1 (v2 + 1) h25)
set_option maxHeartbeats 4000000 in
set_option maxRecDepth 100000 in
theorem okX8_pass_b2 {l : Launch} {n : Nat} {h' : qH} : ∀ (w : Nat) (v0 : Nat) (v1 : Nat) (v2 : Int32) (h : qH), fX8_pass_b2 n w v0 v1 v2 h = some h' → q_W l 2 yX8_pass cX8_pass 3 none none h' 2 [(0, .ref v0), (1, .ref v1), (2, .int v2)] [] h := by
  intro w
  induction w with
  | zero => intro v0 v1 v2 h hyp; cases hyp
  | succ w ih =>
    intro v0 v1 v2 h hyp
    unfold fX8_pass_b2 at hyp
    refine q_iload_n 2 rfl dX8_pass_2 ?_
    refine q_aload_n 1 rfl dX8_pass_3 ?_
    refine q_bind hyp (fun x1 e2 hyp => ?_)
    refine q_getI kF_X8_41 dX8_pass_4 e2 ?_
    refine q_icmp_ge (tgt := 39) dX8_pass_7 (by decide) (fun c3 => ?_) (fun c3 => ?_)
    · have hyp := q_pos c3 hyp
      refine q_aload_n 0 rfl dX8_pass_39 ?_
      refine q_aload_n 1 rfl dX8_pass_40 ?_
      refine q_aload_n 0 rfl dX8_pass_41 ?_
      refine q_bind hyp (fun x4 e5 hyp => ?_)
      refine q_getI kF_X8_25 dX8_pass_42 e5 ?_
      refine q_bind hyp (fun p6 e13 hyp => ?_)
      refine q_callV (as := [.int x4]) (st := [.ref v0]) kY_X5_potAfterYear kL_X8_48 (okX5_potAfterYear (l := l) e13) (by decide) rfl (obX5_potAfterYear e13) (Nat.le_of_ble_eq_true rfl) dX8_pass_45 ?_
      refine q_to (ls' := [(0, .ref v0), (1, .ref v1), (2, .int v2)]) (st' := [.int p6.1, .ref v0]) rfl rfl ?_
      refine q_bind hyp (fun h7 e8 hyp => ?_)
      refine q_putF kF_X8_25 (fun _ => ⟨rfl, rfl⟩) dX8_pass_48 e8 ?_
      refine q_aload_n 0 rfl dX8_pass_51 ?_
      refine q_dup rfl dX8_pass_52 ?_
      refine q_bind hyp (fun x9 e10 hyp => ?_)
      refine q_getI kF_X8_26 dX8_pass_53 e10 ?_
      refine q_iconst (x := 1) rfl dX8_pass_56 ?_
      refine q_iadd dX8_pass_57 ?_
      refine q_bind hyp (fun h11 e12 hyp => ?_)
      refine q_putF kF_X8_26 (fun _ => ⟨rfl, rfl⟩) dX8_pass_58 e12 ?_
      exact q_vretH rfl dX8_pass_61 hyp
    · have hyp := q_neg c3 hyp
      refine q_aload_n 0 rfl dX8_pass_10 ?_
      refine q_bind hyp (fun x14 e15 hyp => ?_)
      refine q_getR kF_X8_9 dX8_pass_11 e15 ?_
      refine q_iload_n 2 rfl dX8_pass_14 ?_
      refine q_aload_n 1 rfl dX8_pass_15 ?_
      refine q_iload_n 2 rfl dX8_pass_16 ?_
      refine q_aload_n 0 rfl dX8_pass_17 ?_
      refine q_bind hyp (fun x16 e17 hyp => ?_)
      refine q_getR kF_X8_9 dX8_pass_18 e17 ?_
      refine q_iload_n 2 rfl dX8_pass_21 ?_
      refine q_bind hyp (fun x18 e19 hyp => ?_)
      refine q_iald dX8_pass_22 e19 ?_
      refine q_aload_n 0 rfl dX8_pass_23 ?_
      refine q_bind hyp (fun x20 e21 hyp => ?_)
      refine q_getR kF_X8_15 dX8_pass_24 e21 ?_
      refine q_iload_n 2 rfl dX8_pass_27 ?_
      refine q_bind hyp (fun x22 e23 hyp => ?_)
      refine q_iald dX8_pass_28 e23 ?_
      refine q_bind hyp (fun p24 e27 hyp => ?_)
      refine q_callV (as := [.int v2, .int x18, .int x22]) (st := [.int v2, .ref x14]) kY_X5_sourAfterYear kL_X8_44 (okX5_sourAfterYear (l := l) e27) (by decide) rfl (obX5_sourAfterYear e27) (Nat.le_of_ble_eq_true rfl) dX8_pass_29 ?_
      refine q_to (ls' := [(0, .ref v0), (1, .ref v1), (2, .int v2)]) (st' := [.int p24.1, .int v2, .ref x14]) rfl rfl ?_
      refine q_bind hyp (fun h25 e26 hyp => ?_)
      refine q_iast dX8_pass_32 e26 ?_
      refine q_iinc (ls' := [(2, .int (v2 + 1)), (0, .ref v0), (1, .ref v1)]) 2 rfl rfl (by decide) rfl dX8_pass_33 ?_
      refine q_goto (tgt := 2) dX8_pass_36 (by decide) ?_
      exact q_sub [1, 2, 0] rfl (ih v0 v1 (v2 + 1) h25 hyp)
def fX8_pass (n : Nat) (v0 : Nat) (v1 : Nat) (h : qH) : Option (qH) :=
  (isO h v0 8).bind fun _ =>
  fX8_pass_b2 n n v0 v1 0 h
theorem obX8_pass {n : Nat} {v0 : Nat} {v1 : Nat} {h : qH} {p : qH} (hyp : fX8_pass n v0 v1 h = some p) : ∃ fs, h.1 v0 = some (.inr (8, fs)) := by
  unfold fX8_pass at hyp
  exact q_bind hyp (fun _ e _ => isO_some e)
set_option maxHeartbeats 4000000 in
set_option maxRecDepth 100000 in
theorem okX8_pass {l : Launch} {n : Nat} {v0 : Nat} {v1 : Nat} {h : qH} {h' : qH} (hyp : fX8_pass n v0 v1 h = some h') : q_M l 2 yX8_pass cX8_pass 3 none [.ref v0, .ref v1] h none h' := by
  unfold fX8_pass at hyp
  refine q_bind hyp (fun _ _ hyp => ?_)
  refine q_M.of (by decide) (Nat.le_of_ble_eq_true rfl) ?_
  refine q_to (ls' := [(0, .ref v0), (1, .ref v1)]) (st' := []) rfl rfl ?_
  refine q_iconst (x := 0) rfl dX8_pass_0 ?_
  refine q_istore_n (ls' := [(2, .int 0), (0, .ref v0), (1, .ref v1)]) (by decide) rfl dX8_pass_1 ?_
  exact q_sub [1, 2, 0] rfl (okX8_pass_b2 _ v0 v1 0 h hyp)
theorem dX8_putOn_0 : decode cX8_putOn 0 = .ok (.aload_n 0, 1) := by decide +kernel
theorem dX8_putOn_1 : decode cX8_putOn 1 = .ok (.dup, 1) := by decide +kernel
theorem dX8_putOn_2 : decode cX8_putOn 2 = .ok (.getfield 25, 3) := by decide +kernel
theorem dX8_putOn_5 : decode cX8_putOn 5 = .ok (.aload_n 1, 1) := by decide +kernel
theorem dX8_putOn_6 : decode cX8_putOn 6 = .ok (.iload_n 2, 1) := by decide +kernel
theorem dX8_putOn_7 : decode cX8_putOn 7 = .ok (.invokevirtual 29, 3) := by decide +kernel
theorem dX8_putOn_10 : decode cX8_putOn 10 = .ok (.isub, 1) := by decide +kernel
theorem dX8_putOn_11 : decode cX8_putOn 11 = .ok (.putfield 25, 3) := by decide +kernel
theorem dX8_putOn_14 : decode cX8_putOn 14 = .ok (.aload_n 0, 1) := by decide +kernel
theorem dX8_putOn_15 : decode cX8_putOn 15 = .ok (.getfield 9, 3) := by decide +kernel
theorem dX8_putOn_18 : decode cX8_putOn 18 = .ok (.iload_n 2, 1) := by decide +kernel
theorem dX8_putOn_19 : decode cX8_putOn 19 = .ok (.aload_n 1, 1) := by decide +kernel
theorem dX8_putOn_20 : decode cX8_putOn 20 = .ok (.iload_n 2, 1) := by decide +kernel
theorem dX8_putOn_21 : decode cX8_putOn 21 = .ok (.aload_n 0, 1) := by decide +kernel
theorem dX8_putOn_22 : decode cX8_putOn 22 = .ok (.getfield 9, 3) := by decide +kernel
theorem dX8_putOn_25 : decode cX8_putOn 25 = .ok (.iload_n 2, 1) := by decide +kernel
theorem dX8_putOn_26 : decode cX8_putOn 26 = .ok (.iaload, 1) := by decide +kernel
theorem dX8_putOn_27 : decode cX8_putOn 27 = .ok (.aload_n 0, 1) := by decide +kernel
theorem dX8_putOn_28 : decode cX8_putOn 28 = .ok (.getfield 15, 3) := by decide +kernel
theorem dX8_putOn_31 : decode cX8_putOn 31 = .ok (.iload_n 2, 1) := by decide +kernel
theorem dX8_putOn_32 : decode cX8_putOn 32 = .ok (.iaload, 1) := by decide +kernel
theorem dX8_putOn_33 : decode cX8_putOn 33 = .ok (.aload_n 0, 1) := by decide +kernel
theorem dX8_putOn_34 : decode cX8_putOn 34 = .ok (.getfield 26, 3) := by decide +kernel
theorem dX8_putOn_37 : decode cX8_putOn 37 = .ok (.invokevirtual 33, 3) := by decide +kernel
theorem dX8_putOn_40 : decode cX8_putOn 40 = .ok (.iastore, 1) := by decide +kernel
theorem dX8_putOn_41 : decode cX8_putOn 41 = .ok (.aload_n 0, 1) := by decide +kernel
theorem dX8_putOn_42 : decode cX8_putOn 42 = .ok (.getfield 15, 3) := by decide +kernel
theorem dX8_putOn_45 : decode cX8_putOn 45 = .ok (.iload_n 2, 1) := by decide +kernel
theorem dX8_putOn_46 : decode cX8_putOn 46 = .ok (.aload_n 1, 1) := by decide +kernel
theorem dX8_putOn_47 : decode cX8_putOn 47 = .ok (.iload_n 2, 1) := by decide +kernel
theorem dX8_putOn_48 : decode cX8_putOn 48 = .ok (.aload_n 0, 1) := by decide +kernel
theorem dX8_putOn_49 : decode cX8_putOn 49 = .ok (.getfield 15, 3) := by decide +kernel
theorem dX8_putOn_52 : decode cX8_putOn 52 = .ok (.iload_n 2, 1) := by decide +kernel
theorem dX8_putOn_53 : decode cX8_putOn 53 = .ok (.iaload, 1) := by decide +kernel
theorem dX8_putOn_54 : decode cX8_putOn 54 = .ok (.invokevirtual 37, 3) := by decide +kernel
theorem dX8_putOn_57 : decode cX8_putOn 57 = .ok (.iastore, 1) := by decide +kernel
theorem dX8_putOn_58 : decode cX8_putOn 58 = .ok (.return_, 1) := by decide +kernel
def fX8_putOn (n : Nat) (v0 : Nat) (v1 : Nat) (v2 : Int32) (h : qH) : Option (qH) :=
  (isO h v0 8).bind fun _ =>
  (gI h v0 8 2).bind fun x1 =>
  (fX5_price v1 v2 h).bind fun p3 =>
  (pF p3.2 v0 8 2 (.int (x1 - p3.1))).bind fun h4 =>
  (gR h4 v0 8 0).bind fun x6 =>
  (gR h4 v0 8 0).bind fun x8 =>
  (aI .int h4 x8 v2).bind fun x10 =>
  (gR h4 v0 8 1).bind fun x12 =>
  (aI .int h4 x12 v2).bind fun x14 =>
  (gI h4 v0 8 3).bind fun x16 =>
  (fX5_sourAfterCoat n v1 v2 x10 x14 x16 h4).bind fun p18 =>
  (sI .int p18.2 x6 v2 p18.1).bind fun h19 =>
  (gR h19 v0 8 1).bind fun x21 =>
  (gR h19 v0 8 1).bind fun x23 =>
  (aI .int h19 x23 v2).bind fun x25 =>
  (fX5_coatsAfterCoat v1 v2 x25 h19).bind fun p27 =>
  (sI .int p27.2 x21 v2 p27.1).bind fun h28 =>
  some h28
theorem obX8_putOn {n : Nat} {v0 : Nat} {v1 : Nat} {v2 : Int32} {h : qH} {p : qH} (hyp : fX8_putOn n v0 v1 v2 h = some p) : ∃ fs, h.1 v0 = some (.inr (8, fs)) := by
  unfold fX8_putOn at hyp
  exact q_bind hyp (fun _ e _ => isO_some e)
set_option maxHeartbeats 4000000 in
set_option maxRecDepth 100000 in
theorem okX8_putOn {l : Launch} {n : Nat} {v0 : Nat} {v1 : Nat} {v2 : Int32} {h : qH} {h' : qH} (hyp : fX8_putOn n v0 v1 v2 h = some h') : q_M l 4 yX8_putOn cX8_putOn 3 none [.ref v0, .ref v1, .int v2] h none h' := by
  unfold fX8_putOn at hyp
  refine q_bind hyp (fun _ _ hyp => ?_)
  refine q_M.of (by decide) (Nat.le_of_ble_eq_true rfl) ?_
  refine q_to (ls' := [(0, .ref v0), (1, .ref v1), (2, .int v2)]) (st' := []) rfl rfl ?_
  refine q_aload_n 0 rfl dX8_putOn_0 ?_
  refine q_dup rfl dX8_putOn_1 ?_
  refine q_bind hyp (fun x1 e2 hyp => ?_)
  refine q_getI kF_X8_25 dX8_putOn_2 e2 ?_
  refine q_aload_n 1 rfl dX8_putOn_5 ?_
  refine q_iload_n 2 rfl dX8_putOn_6 ?_
  refine q_bind hyp (fun p3 e32 hyp => ?_)
  refine q_callV (as := [.int v2]) (st := [.int x1, .ref v0]) kY_X5_price kL_X8_29 (okX5_price (l := l) e32) (by decide) rfl (obX5_price e32) (Nat.le_of_ble_eq_true rfl) dX8_putOn_7 ?_
  refine q_to (ls' := [(0, .ref v0), (1, .ref v1), (2, .int v2)]) (st' := [.int p3.1, .int x1, .ref v0]) rfl rfl ?_
  refine q_isub dX8_putOn_10 ?_
  refine q_bind hyp (fun h4 e5 hyp => ?_)
  refine q_putF kF_X8_25 (fun _ => ⟨rfl, rfl⟩) dX8_putOn_11 e5 ?_
  refine q_aload_n 0 rfl dX8_putOn_14 ?_
  refine q_bind hyp (fun x6 e7 hyp => ?_)
  refine q_getR kF_X8_9 dX8_putOn_15 e7 ?_
  refine q_iload_n 2 rfl dX8_putOn_18 ?_
  refine q_aload_n 1 rfl dX8_putOn_19 ?_
  refine q_iload_n 2 rfl dX8_putOn_20 ?_
  refine q_aload_n 0 rfl dX8_putOn_21 ?_
  refine q_bind hyp (fun x8 e9 hyp => ?_)
  refine q_getR kF_X8_9 dX8_putOn_22 e9 ?_
  refine q_iload_n 2 rfl dX8_putOn_25 ?_
  refine q_bind hyp (fun x10 e11 hyp => ?_)
  refine q_iald dX8_putOn_26 e11 ?_
  refine q_aload_n 0 rfl dX8_putOn_27 ?_
  refine q_bind hyp (fun x12 e13 hyp => ?_)
  refine q_getR kF_X8_15 dX8_putOn_28 e13 ?_
  refine q_iload_n 2 rfl dX8_putOn_31 ?_
  refine q_bind hyp (fun x14 e15 hyp => ?_)
  refine q_iald dX8_putOn_32 e15 ?_
  refine q_aload_n 0 rfl dX8_putOn_33 ?_
  refine q_bind hyp (fun x16 e17 hyp => ?_)
  refine q_getI kF_X8_26 dX8_putOn_34 e17 ?_
  refine q_bind hyp (fun p18 e31 hyp => ?_)
  refine q_callV (as := [.int v2, .int x10, .int x14, .int x16]) (st := [.int v2, .ref x6]) kY_X5_sourAfterCoat kL_X8_33 (okX5_sourAfterCoat (l := l) e31) (by decide) rfl (obX5_sourAfterCoat e31) (Nat.le_of_ble_eq_true rfl) dX8_putOn_37 ?_
  refine q_to (ls' := [(0, .ref v0), (1, .ref v1), (2, .int v2)]) (st' := [.int p18.1, .int v2, .ref x6]) rfl rfl ?_
  refine q_bind hyp (fun h19 e20 hyp => ?_)
  refine q_iast dX8_putOn_40 e20 ?_
  refine q_aload_n 0 rfl dX8_putOn_41 ?_
  refine q_bind hyp (fun x21 e22 hyp => ?_)
  refine q_getR kF_X8_15 dX8_putOn_42 e22 ?_
  refine q_iload_n 2 rfl dX8_putOn_45 ?_
  refine q_aload_n 1 rfl dX8_putOn_46 ?_
  refine q_iload_n 2 rfl dX8_putOn_47 ?_
  refine q_aload_n 0 rfl dX8_putOn_48 ?_
  refine q_bind hyp (fun x23 e24 hyp => ?_)
  refine q_getR kF_X8_15 dX8_putOn_49 e24 ?_
  refine q_iload_n 2 rfl dX8_putOn_52 ?_
  refine q_bind hyp (fun x25 e26 hyp => ?_)
  refine q_iald dX8_putOn_53 e26 ?_
  refine q_bind hyp (fun p27 e30 hyp => ?_)
  refine q_callV (as := [.int v2, .int x25]) (st := [.int v2, .ref x21]) kY_X5_coatsAfterCoat kL_X8_37 (okX5_coatsAfterCoat (l := l) e30) (by decide) rfl (obX5_coatsAfterCoat e30) (Nat.le_of_ble_eq_true rfl) dX8_putOn_54 ?_
  refine q_to (ls' := [(0, .ref v0), (1, .ref v1), (2, .int v2)]) (st' := [.int p27.1, .int v2, .ref x21]) rfl rfl ?_
  refine q_bind hyp (fun h28 e29 hyp => ?_)
  refine q_iast dX8_putOn_57 e29 ?_
  exact q_vretH rfl dX8_putOn_58 hyp
theorem dX8_takeOff_0 : decode cX8_takeOff 0 = .ok (.aload_n 0, 1) := by decide +kernel
theorem dX8_takeOff_1 : decode cX8_takeOff 1 = .ok (.getfield 15, 3) := by decide +kernel
theorem dX8_takeOff_4 : decode cX8_takeOff 4 = .ok (.iload_n 2, 1) := by decide +kernel
theorem dX8_takeOff_5 : decode cX8_takeOff 5 = .ok (.iconst 0, 1) := by decide +kernel
theorem dX8_takeOff_6 : decode cX8_takeOff 6 = .ok (.iastore, 1) := by decide +kernel
theorem dX8_takeOff_7 : decode cX8_takeOff 7 = .ok (.aload_n 0, 1) := by decide +kernel
theorem dX8_takeOff_8 : decode cX8_takeOff 8 = .ok (.getfield 9, 3) := by decide +kernel
theorem dX8_takeOff_11 : decode cX8_takeOff 11 = .ok (.iload_n 2, 1) := by decide +kernel
theorem dX8_takeOff_12 : decode cX8_takeOff 12 = .ok (.aload_n 1, 1) := by decide +kernel
theorem dX8_takeOff_13 : decode cX8_takeOff 13 = .ok (.getfield 18, 3) := by decide +kernel
theorem dX8_takeOff_16 : decode cX8_takeOff 16 = .ok (.iload_n 2, 1) := by decide +kernel
theorem dX8_takeOff_17 : decode cX8_takeOff 17 = .ok (.iaload, 1) := by decide +kernel
theorem dX8_takeOff_18 : decode cX8_takeOff 18 = .ok (.iastore, 1) := by decide +kernel
theorem dX8_takeOff_19 : decode cX8_takeOff 19 = .ok (.return_, 1) := by decide +kernel
def fX8_takeOff (v0 : Nat) (v1 : Nat) (v2 : Int32) (h : qH) : Option (qH) :=
  (isO h v0 8).bind fun _ =>
  (gR h v0 8 1).bind fun x1 =>
  (sI .int h x1 v2 0).bind fun h3 =>
  (gR h3 v0 8 0).bind fun x5 =>
  (gR h3 v1 5 3).bind fun x7 =>
  (aI .int h3 x7 v2).bind fun x9 =>
  (sI .int h3 x5 v2 x9).bind fun h11 =>
  some h11
theorem obX8_takeOff {v0 : Nat} {v1 : Nat} {v2 : Int32} {h : qH} {p : qH} (hyp : fX8_takeOff v0 v1 v2 h = some p) : ∃ fs, h.1 v0 = some (.inr (8, fs)) := by
  unfold fX8_takeOff at hyp
  exact q_bind hyp (fun _ e _ => isO_some e)
set_option maxHeartbeats 4000000 in
set_option maxRecDepth 100000 in
theorem okX8_takeOff {l : Launch} {v0 : Nat} {v1 : Nat} {v2 : Int32} {h : qH} {h' : qH} (hyp : fX8_takeOff v0 v1 v2 h = some h') : q_M l 1 yX8_takeOff cX8_takeOff 3 none [.ref v0, .ref v1, .int v2] h none h' := by
  unfold fX8_takeOff at hyp
  refine q_bind hyp (fun _ _ hyp => ?_)
  refine q_M.of (by decide) (Nat.le_of_ble_eq_true rfl) ?_
  refine q_to (ls' := [(0, .ref v0), (1, .ref v1), (2, .int v2)]) (st' := []) rfl rfl ?_
  refine q_aload_n 0 rfl dX8_takeOff_0 ?_
  refine q_bind hyp (fun x1 e2 hyp => ?_)
  refine q_getR kF_X8_15 dX8_takeOff_1 e2 ?_
  refine q_iload_n 2 rfl dX8_takeOff_4 ?_
  refine q_iconst (x := 0) rfl dX8_takeOff_5 ?_
  refine q_bind hyp (fun h3 e4 hyp => ?_)
  refine q_iast dX8_takeOff_6 e4 ?_
  refine q_aload_n 0 rfl dX8_takeOff_7 ?_
  refine q_bind hyp (fun x5 e6 hyp => ?_)
  refine q_getR kF_X8_9 dX8_takeOff_8 e6 ?_
  refine q_iload_n 2 rfl dX8_takeOff_11 ?_
  refine q_aload_n 1 rfl dX8_takeOff_12 ?_
  refine q_bind hyp (fun x7 e8 hyp => ?_)
  refine q_getR kF_X8_18 dX8_takeOff_13 e8 ?_
  refine q_iload_n 2 rfl dX8_takeOff_16 ?_
  refine q_bind hyp (fun x9 e10 hyp => ?_)
  refine q_iald dX8_takeOff_17 e10 ?_
  refine q_bind hyp (fun h11 e12 hyp => ?_)
  refine q_iast dX8_takeOff_18 e12 ?_
  exact q_vretH rfl dX8_takeOff_19 hyp
theorem dX8_follow_0 : decode cX8_follow 0 = .ok (.iload_n 2, 1) := by decide +kernel
theorem dX8_follow_1 : decode cX8_follow 1 = .ok (.bipush 10, 2) := by decide +kernel
theorem dX8_follow_3 : decode cX8_follow 3 = .ok (.if_icmp .ne 10, 3) := by decide +kernel
theorem dX8_follow_6 : decode cX8_follow 6 = .ok (.aload_n 0, 1) := by decide +kernel
theorem dX8_follow_7 : decode cX8_follow 7 = .ok (.aload_n 1, 1) := by decide +kernel
theorem dX8_follow_8 : decode cX8_follow 8 = .ok (.invokevirtual 51, 3) := by decide +kernel
theorem dX8_follow_11 : decode cX8_follow 11 = .ok (.iconst 1, 1) := by decide +kernel
theorem dX8_follow_12 : decode cX8_follow 12 = .ok (.ireturn, 1) := by decide +kernel
theorem dX8_follow_13 : decode cX8_follow 13 = .ok (.iload_n 3, 1) := by decide +kernel
theorem dX8_follow_14 : decode cX8_follow 14 = .ok (.ifCond .lt 11, 3) := by decide +kernel
theorem dX8_follow_17 : decode cX8_follow 17 = .ok (.iload_n 3, 1) := by decide +kernel
theorem dX8_follow_18 : decode cX8_follow 18 = .ok (.aload_n 1, 1) := by decide +kernel
theorem dX8_follow_19 : decode cX8_follow 19 = .ok (.getfield 41, 3) := by decide +kernel
theorem dX8_follow_22 : decode cX8_follow 22 = .ok (.if_icmp .lt 5, 3) := by decide +kernel
theorem dX8_follow_25 : decode cX8_follow 25 = .ok (.iconst 0, 1) := by decide +kernel
theorem dX8_follow_26 : decode cX8_follow 26 = .ok (.ireturn, 1) := by decide +kernel
theorem dX8_follow_27 : decode cX8_follow 27 = .ok (.iload_n 2, 1) := by decide +kernel
theorem dX8_follow_28 : decode cX8_follow 28 = .ok (.bipush 8, 2) := by decide +kernel
theorem dX8_follow_30 : decode cX8_follow 30 = .ok (.if_icmp .ne 20, 3) := by decide +kernel
theorem dX8_follow_33 : decode cX8_follow 33 = .ok (.aload_n 0, 1) := by decide +kernel
theorem dX8_follow_34 : decode cX8_follow 34 = .ok (.aload_n 1, 1) := by decide +kernel
theorem dX8_follow_35 : decode cX8_follow 35 = .ok (.iload_n 3, 1) := by decide +kernel
theorem dX8_follow_36 : decode cX8_follow 36 = .ok (.invokevirtual 55, 3) := by decide +kernel
theorem dX8_follow_39 : decode cX8_follow 39 = .ok (.ifCond .eq 11, 3) := by decide +kernel
theorem dX8_follow_42 : decode cX8_follow 42 = .ok (.aload_n 0, 1) := by decide +kernel
theorem dX8_follow_43 : decode cX8_follow 43 = .ok (.aload_n 1, 1) := by decide +kernel
theorem dX8_follow_44 : decode cX8_follow 44 = .ok (.iload_n 3, 1) := by decide +kernel
theorem dX8_follow_45 : decode cX8_follow 45 = .ok (.invokevirtual 59, 3) := by decide +kernel
theorem dX8_follow_48 : decode cX8_follow 48 = .ok (.iconst 1, 1) := by decide +kernel
theorem dX8_follow_49 : decode cX8_follow 49 = .ok (.ireturn, 1) := by decide +kernel
theorem dX8_follow_50 : decode cX8_follow 50 = .ok (.iload_n 2, 1) := by decide +kernel
theorem dX8_follow_51 : decode cX8_follow 51 = .ok (.bipush 9, 2) := by decide +kernel
theorem dX8_follow_53 : decode cX8_follow 53 = .ok (.if_icmp .ne 20, 3) := by decide +kernel
theorem dX8_follow_56 : decode cX8_follow 56 = .ok (.aload_n 0, 1) := by decide +kernel
theorem dX8_follow_57 : decode cX8_follow 57 = .ok (.getfield 15, 3) := by decide +kernel
theorem dX8_follow_60 : decode cX8_follow 60 = .ok (.iload_n 3, 1) := by decide +kernel
theorem dX8_follow_61 : decode cX8_follow 61 = .ok (.iaload, 1) := by decide +kernel
theorem dX8_follow_62 : decode cX8_follow 62 = .ok (.ifCond .le 11, 3) := by decide +kernel
theorem dX8_follow_65 : decode cX8_follow 65 = .ok (.aload_n 0, 1) := by decide +kernel
theorem dX8_follow_66 : decode cX8_follow 66 = .ok (.aload_n 1, 1) := by decide +kernel
theorem dX8_follow_67 : decode cX8_follow 67 = .ok (.iload_n 3, 1) := by decide +kernel
theorem dX8_follow_68 : decode cX8_follow 68 = .ok (.invokevirtual 63, 3) := by decide +kernel
theorem dX8_follow_71 : decode cX8_follow 71 = .ok (.iconst 1, 1) := by decide +kernel
theorem dX8_follow_72 : decode cX8_follow 72 = .ok (.ireturn, 1) := by decide +kernel
theorem dX8_follow_73 : decode cX8_follow 73 = .ok (.iconst 0, 1) := by decide +kernel
theorem dX8_follow_74 : decode cX8_follow 74 = .ok (.ireturn, 1) := by decide +kernel
def fX8_follow_b50 (n : Nat) (v0 : Nat) (v1 : Nat) (v2 : Int32) (v3 : Int32) (h : qH) : Option (Int32 × qH) :=
  if v2 = 9 then
  ((gR h v0 8 1).bind fun x2 =>
  (aI .int h x2 v3).bind fun x4 =>
  if x4 ≤ 0 then
  (some (0, h))
  else
  ((fX8_takeOff v0 v1 v3 h).bind fun h7 =>
  some (1, h7)))
  else
  (some (0, h))
set_option maxHeartbeats 4000000 in
set_option maxRecDepth 100000 in
theorem okX8_follow_b50 {l : Launch} {n : Nat} {v0 : Nat} {v1 : Nat} {v2 : Int32} {v3 : Int32} {h : qH} {r : Int32} {h' : qH} (hyp : fX8_follow_b50 n v0 v1 v2 v3 h = some (r, h')) : q_W l 5 yX8_follow cX8_follow 4 (some .boolean) (some (.int r)) h' 50 [(0, .ref v0), (1, .ref v1), (2, .int v2), (3, .int v3)] [] h := by
  unfold fX8_follow_b50 at hyp
  refine q_iload_n 2 rfl dX8_follow_50 ?_
  refine q_bipush (x := 9) (by decide) dX8_follow_51 ?_
  refine q_icmp_ne (tgt := 73) dX8_follow_53 (by decide) (fun c1 => ?_) (fun c1 => ?_)
  · have hyp := q_neg c1 hyp
    refine q_iconst (x := 0) rfl dX8_follow_73 ?_
    exact q_iretH rfl rfl dX8_follow_74 hyp
  · have hyp := q_pos c1 hyp
    refine q_aload_n 0 rfl dX8_follow_56 ?_
    refine q_bind hyp (fun x2 e3 hyp => ?_)
    refine q_getR kF_X8_15 dX8_follow_57 e3 ?_
    refine q_iload_n 3 rfl dX8_follow_60 ?_
    refine q_bind hyp (fun x4 e5 hyp => ?_)
    refine q_iald dX8_follow_61 e5 ?_
    refine q_if_le (tgt := 73) dX8_follow_62 (by decide) (fun c6 => ?_) (fun c6 => ?_)
    · have hyp := q_pos c6 hyp
      refine q_iconst (x := 0) rfl dX8_follow_73 ?_
      exact q_iretH rfl rfl dX8_follow_74 hyp
    · have hyp := q_neg c6 hyp
      refine q_aload_n 0 rfl dX8_follow_65 ?_
      refine q_aload_n 1 rfl dX8_follow_66 ?_
      refine q_iload_n 3 rfl dX8_follow_67 ?_
      refine q_bind hyp (fun h7 e8 hyp => ?_)
      refine q_callV (as := [.ref v1, .int v3]) (st := []) kY_X8_takeOff kL_X8_63 (okX8_takeOff (l := l) e8) (by decide) rfl (obX8_takeOff e8) (Nat.le_of_ble_eq_true rfl) dX8_follow_68 ?_
      refine q_to (ls' := [(0, .ref v0), (1, .ref v1), (2, .int v2), (3, .int v3)]) (st' := []) rfl rfl ?_
      refine q_iconst (x := 1) rfl dX8_follow_71 ?_
      exact q_iretH rfl rfl dX8_follow_72 hyp
def fX8_follow (n : Nat) (v0 : Nat) (v1 : Nat) (v2 : Int32) (v3 : Int32) (h : qH) : Option (Int32 × qH) :=
  (isO h v0 8).bind fun _ =>
  if v2 = 10 then
  ((fX8_pass n v0 v1 h).bind fun h12 =>
  some (1, h12))
  else
  (if v3 < 0 then
  (some (0, h))
  else
  ((gI h v1 5 6).bind fun x3 =>
  if v3 < x3 then
  (if v2 = 8 then
  ((fX8_canSpread v0 v1 v3 h).bind fun p7 =>
  if p7.1 = 0 then
  (fX8_follow_b50 n v0 v1 v2 v3 p7.2)
  else
  ((fX8_putOn n v0 v1 v3 p7.2).bind fun h9 =>
  some (1, h9)))
  else
  (fX8_follow_b50 n v0 v1 v2 v3 h))
  else
  (some (0, h))))
theorem obX8_follow {n : Nat} {v0 : Nat} {v1 : Nat} {v2 : Int32} {v3 : Int32} {h : qH} {p : Int32 × qH} (hyp : fX8_follow n v0 v1 v2 v3 h = some p) : ∃ fs, h.1 v0 = some (.inr (8, fs)) := by
  unfold fX8_follow at hyp
  exact q_bind hyp (fun _ e _ => isO_some e)
set_option maxHeartbeats 4000000 in
set_option maxRecDepth 100000 in
theorem okX8_follow {l : Launch} {n : Nat} {v0 : Nat} {v1 : Nat} {v2 : Int32} {v3 : Int32} {h : qH} {p : Int32 × qH} (hyp : fX8_follow n v0 v1 v2 v3 h = some p) : q_M l 5 yX8_follow cX8_follow 4 (some .boolean) [.ref v0, .ref v1, .int v2, .int v3] h (some (.int p.1)) p.2 := by
  obtain ⟨r, h'⟩ := p
  unfold fX8_follow at hyp
  refine q_bind hyp (fun _ _ hyp => ?_)
  refine q_M.of (by decide) (Nat.le_of_ble_eq_true rfl) ?_
  refine q_to (ls' := [(0, .ref v0), (1, .ref v1), (2, .int v2), (3, .int v3)]) (st' := []) rfl rfl ?_
  refine q_iload_n 2 rfl dX8_follow_0 ?_
  refine q_bipush (x := 10) (by decide) dX8_follow_1 ?_
  refine q_icmp_ne (tgt := 13) dX8_follow_3 (by decide) (fun c1 => ?_) (fun c1 => ?_)
  · have hyp := q_neg c1 hyp
    refine q_iload_n 3 rfl dX8_follow_13 ?_
    refine q_if_lt (tgt := 25) dX8_follow_14 (by decide) (fun c2 => ?_) (fun c2 => ?_)
    · have hyp := q_pos c2 hyp
      refine q_iconst (x := 0) rfl dX8_follow_25 ?_
      exact q_iretH rfl rfl dX8_follow_26 hyp
    · have hyp := q_neg c2 hyp
      refine q_iload_n 3 rfl dX8_follow_17 ?_
      refine q_aload_n 1 rfl dX8_follow_18 ?_
      refine q_bind hyp (fun x3 e4 hyp => ?_)
      refine q_getI kF_X8_41 dX8_follow_19 e4 ?_
      refine q_icmp_lt (tgt := 27) dX8_follow_22 (by decide) (fun c5 => ?_) (fun c5 => ?_)
      · have hyp := q_pos c5 hyp
        refine q_iload_n 2 rfl dX8_follow_27 ?_
        refine q_bipush (x := 8) (by decide) dX8_follow_28 ?_
        refine q_icmp_ne (tgt := 50) dX8_follow_30 (by decide) (fun c6 => ?_) (fun c6 => ?_)
        · have hyp := q_neg c6 hyp
          exact q_sub [0, 1, 2, 3] rfl (okX8_follow_b50 hyp)
        · have hyp := q_pos c6 hyp
          refine q_aload_n 0 rfl dX8_follow_33 ?_
          refine q_aload_n 1 rfl dX8_follow_34 ?_
          refine q_iload_n 3 rfl dX8_follow_35 ?_
          refine q_bind hyp (fun p7 e11 hyp => ?_)
          refine q_callV (as := [.ref v1, .int v3]) (st := []) kY_X8_canSpread kL_X8_55 (okX8_canSpread (l := l) e11) (by decide) rfl (obX8_canSpread e11) (Nat.le_of_ble_eq_true rfl) dX8_follow_36 ?_
          refine q_to (ls' := [(0, .ref v0), (1, .ref v1), (2, .int v2), (3, .int v3)]) (st' := [.int p7.1]) rfl rfl ?_
          refine q_if_eq (tgt := 50) dX8_follow_39 (by decide) (fun c8 => ?_) (fun c8 => ?_)
          · have hyp := q_pos c8 hyp
            exact q_sub [0, 1, 2, 3] rfl (okX8_follow_b50 hyp)
          · have hyp := q_neg c8 hyp
            refine q_aload_n 0 rfl dX8_follow_42 ?_
            refine q_aload_n 1 rfl dX8_follow_43 ?_
            refine q_iload_n 3 rfl dX8_follow_44 ?_
            refine q_bind hyp (fun h9 e10 hyp => ?_)
            refine q_callV (as := [.ref v1, .int v3]) (st := []) kY_X8_putOn kL_X8_59 (okX8_putOn (l := l) e10) (by decide) rfl (obX8_putOn e10) (Nat.le_of_ble_eq_true rfl) dX8_follow_45 ?_
            refine q_to (ls' := [(0, .ref v0), (1, .ref v1), (2, .int v2), (3, .int v3)]) (st' := []) rfl rfl ?_
            refine q_iconst (x := 1) rfl dX8_follow_48 ?_
            exact q_iretH rfl rfl dX8_follow_49 hyp
      · have hyp := q_neg c5 hyp
        refine q_iconst (x := 0) rfl dX8_follow_25 ?_
        exact q_iretH rfl rfl dX8_follow_26 hyp
  · have hyp := q_pos c1 hyp
    refine q_aload_n 0 rfl dX8_follow_6 ?_
    refine q_aload_n 1 rfl dX8_follow_7 ?_
    refine q_bind hyp (fun h12 e13 hyp => ?_)
    refine q_callV (as := [.ref v1]) (st := []) kY_X8_pass kL_X8_51 (okX8_pass (l := l) e13) (by decide) rfl (obX8_pass e13) (Nat.le_of_ble_eq_true rfl) dX8_follow_8 ?_
    refine q_to (ls' := [(0, .ref v0), (1, .ref v1), (2, .int v2), (3, .int v3)]) (st' := []) rfl rfl ?_
    refine q_iconst (x := 1) rfl dX8_follow_11 ?_
    exact q_iretH rfl rfl dX8_follow_12 hyp
theorem dX8_meantBits_0 : decode cX8_meantBits 0 = .ok (.iconst 0, 1) := by decide +kernel
theorem dX8_meantBits_1 : decode cX8_meantBits 1 = .ok (.istore_n 2, 1) := by decide +kernel
theorem dX8_meantBits_2 : decode cX8_meantBits 2 = .ok (.iconst 0, 1) := by decide +kernel
theorem dX8_meantBits_3 : decode cX8_meantBits 3 = .ok (.istore_n 3, 1) := by decide +kernel
theorem dX8_meantBits_4 : decode cX8_meantBits 4 = .ok (.iload_n 3, 1) := by decide +kernel
theorem dX8_meantBits_5 : decode cX8_meantBits 5 = .ok (.aload_n 1, 1) := by decide +kernel
theorem dX8_meantBits_6 : decode cX8_meantBits 6 = .ok (.getfield 41, 3) := by decide +kernel
theorem dX8_meantBits_9 : decode cX8_meantBits 9 = .ok (.if_icmp .ge 24, 3) := by decide +kernel
theorem dX8_meantBits_12 : decode cX8_meantBits 12 = .ok (.aload_n 0, 1) := by decide +kernel
theorem dX8_meantBits_13 : decode cX8_meantBits 13 = .ok (.getfield 9, 3) := by decide +kernel
theorem dX8_meantBits_16 : decode cX8_meantBits 16 = .ok (.iload_n 3, 1) := by decide +kernel
theorem dX8_meantBits_17 : decode cX8_meantBits 17 = .ok (.iaload, 1) := by decide +kernel
theorem dX8_meantBits_18 : decode cX8_meantBits 18 = .ok (.ifCond .ne 9, 3) := by decide +kernel
theorem dX8_meantBits_21 : decode cX8_meantBits 21 = .ok (.iload_n 2, 1) := by decide +kernel
theorem dX8_meantBits_22 : decode cX8_meantBits 22 = .ok (.iconst 1, 1) := by decide +kernel
theorem dX8_meantBits_23 : decode cX8_meantBits 23 = .ok (.iload_n 3, 1) := by decide +kernel
theorem dX8_meantBits_24 : decode cX8_meantBits 24 = .ok (.ishl, 1) := by decide +kernel
theorem dX8_meantBits_25 : decode cX8_meantBits 25 = .ok (.ior, 1) := by decide +kernel
theorem dX8_meantBits_26 : decode cX8_meantBits 26 = .ok (.istore_n 2, 1) := by decide +kernel
theorem dX8_meantBits_27 : decode cX8_meantBits 27 = .ok (.iinc 3 1, 3) := by decide +kernel
theorem dX8_meantBits_30 : decode cX8_meantBits 30 = .ok (.goto (-26), 3) := by decide +kernel
theorem dX8_meantBits_33 : decode cX8_meantBits 33 = .ok (.iload_n 2, 1) := by decide +kernel
theorem dX8_meantBits_34 : decode cX8_meantBits 34 = .ok (.ireturn, 1) := by decide +kernel
def fX8_meantBits_b4 (n : Nat) : Nat → Nat → Nat → Int32 → Int32 → qH → Option (Int32 × qH)
  | 0, _, _, _, _, _ => none
  | w + 1, v0, v1, v2, v3, h =>
    (gI h v1 5 6).bind fun x1 =>
    if x1 ≤ v3 then
    (some (v2, h))
    else
    ((gR h v0 8 0).bind fun x4 =>
    (aI .int h x4 v3).bind fun x6 =>
    if x6 = 0 then
    (fX8_meantBits_b4 n w v0 v1 (v2 ||| ((1 : Int32) <<< (v3 &&& 31))) (v3 + 1) h)
    else
    (fX8_meantBits_b4 n w v0 v1 v2 (v3 + 1) h))
set_option maxHeartbeats 4000000 in
set_option maxRecDepth 100000 in
theorem okX8_meantBits_b4 {l : Launch} {n : Nat} {r : Int32} {h' : qH} : ∀ (w : Nat) (v0 : Nat) (v1 : Nat) (v2 : Int32) (v3 : Int32) (h : qH), fX8_meantBits_b4 n w v0 v1 v2 v3 h = some (r, h') → q_W l 1 yX8_meantBits cX8_meantBits 4 (some .int) (some (.int r)) h' 4 [(0, .ref v0), (1, .ref v1), (2, .int v2), (3, .int v3)] [] h := by
  intro w
  induction w with
  | zero => intro v0 v1 v2 v3 h hyp; cases hyp
  | succ w ih =>
    intro v0 v1 v2 v3 h hyp
    unfold fX8_meantBits_b4 at hyp
    refine q_iload_n 3 rfl dX8_meantBits_4 ?_
    refine q_aload_n 1 rfl dX8_meantBits_5 ?_
    refine q_bind hyp (fun x1 e2 hyp => ?_)
    refine q_getI kF_X8_41 dX8_meantBits_6 e2 ?_
    refine q_icmp_ge (tgt := 33) dX8_meantBits_9 (by decide) (fun c3 => ?_) (fun c3 => ?_)
    · have hyp := q_pos c3 hyp
      refine q_iload_n 2 rfl dX8_meantBits_33 ?_
      exact q_iretH rfl rfl dX8_meantBits_34 hyp
    · have hyp := q_neg c3 hyp
      refine q_aload_n 0 rfl dX8_meantBits_12 ?_
      refine q_bind hyp (fun x4 e5 hyp => ?_)
      refine q_getR kF_X8_9 dX8_meantBits_13 e5 ?_
      refine q_iload_n 3 rfl dX8_meantBits_16 ?_
      refine q_bind hyp (fun x6 e7 hyp => ?_)
      refine q_iald dX8_meantBits_17 e7 ?_
      refine q_if_ne (tgt := 27) dX8_meantBits_18 (by decide) (fun c8 => ?_) (fun c8 => ?_)
      · have hyp := q_neg c8 hyp
        refine q_iinc (ls' := [(3, .int (v3 + 1)), (0, .ref v0), (1, .ref v1), (2, .int v2)]) 3 rfl rfl (by decide) rfl dX8_meantBits_27 ?_
        refine q_goto (tgt := 4) dX8_meantBits_30 (by decide) ?_
        exact q_sub [1, 2, 3, 0] rfl (ih v0 v1 v2 (v3 + 1) h hyp)
      · have hyp := q_pos c8 hyp
        refine q_iload_n 2 rfl dX8_meantBits_21 ?_
        refine q_iconst (x := 1) rfl dX8_meantBits_22 ?_
        refine q_iload_n 3 rfl dX8_meantBits_23 ?_
        refine q_ishl dX8_meantBits_24 ?_
        refine q_ior dX8_meantBits_25 ?_
        refine q_istore_n (ls' := [(2, .int (v2 ||| ((1 : Int32) <<< (v3 &&& 31)))), (0, .ref v0), (1, .ref v1), (3, .int v3)]) (by decide) rfl dX8_meantBits_26 ?_
        refine q_iinc (ls' := [(3, .int (v3 + 1)), (2, .int (v2 ||| ((1 : Int32) <<< (v3 &&& 31)))), (0, .ref v0), (1, .ref v1)]) 3 rfl rfl (by decide) rfl dX8_meantBits_27 ?_
        refine q_goto (tgt := 4) dX8_meantBits_30 (by decide) ?_
        exact q_sub [2, 3, 1, 0] rfl (ih v0 v1 (v2 ||| ((1 : Int32) <<< (v3 &&& 31))) (v3 + 1) h hyp)
def fX8_meantBits (n : Nat) (v0 : Nat) (v1 : Nat) (h : qH) : Option (Int32 × qH) :=
  (isO h v0 8).bind fun _ =>
  fX8_meantBits_b4 n n v0 v1 0 0 h
theorem obX8_meantBits {n : Nat} {v0 : Nat} {v1 : Nat} {h : qH} {p : Int32 × qH} (hyp : fX8_meantBits n v0 v1 h = some p) : ∃ fs, h.1 v0 = some (.inr (8, fs)) := by
  unfold fX8_meantBits at hyp
  exact q_bind hyp (fun _ e _ => isO_some e)
set_option maxHeartbeats 4000000 in
set_option maxRecDepth 100000 in
theorem okX8_meantBits {l : Launch} {n : Nat} {v0 : Nat} {v1 : Nat} {h : qH} {p : Int32 × qH} (hyp : fX8_meantBits n v0 v1 h = some p) : q_M l 1 yX8_meantBits cX8_meantBits 4 (some .int) [.ref v0, .ref v1] h (some (.int p.1)) p.2 := by
  obtain ⟨r, h'⟩ := p
  unfold fX8_meantBits at hyp
  refine q_bind hyp (fun _ _ hyp => ?_)
  refine q_M.of (by decide) (Nat.le_of_ble_eq_true rfl) ?_
  refine q_to (ls' := [(0, .ref v0), (1, .ref v1)]) (st' := []) rfl rfl ?_
  refine q_iconst (x := 0) rfl dX8_meantBits_0 ?_
  refine q_istore_n (ls' := [(2, .int 0), (0, .ref v0), (1, .ref v1)]) (by decide) rfl dX8_meantBits_1 ?_
  refine q_iconst (x := 0) rfl dX8_meantBits_2 ?_
  refine q_istore_n (ls' := [(3, .int 0), (2, .int 0), (0, .ref v0), (1, .ref v1)]) (by decide) rfl dX8_meantBits_3 ?_
  exact q_sub [2, 3, 1, 0] rfl (okX8_meantBits_b4 _ v0 v1 0 0 h hyp)
theorem dX9_isMatter_0 : decode cX9_isMatter 0 = .ok (.iload_n 1, 1) := by decide +kernel
theorem dX9_isMatter_1 : decode cX9_isMatter 1 = .ok (.ifCond .lt 18, 3) := by decide +kernel
theorem dX9_isMatter_4 : decode cX9_isMatter 4 = .ok (.iload_n 1, 1) := by decide +kernel
theorem dX9_isMatter_5 : decode cX9_isMatter 5 = .ok (.aload_n 0, 1) := by decide +kernel
theorem dX9_isMatter_6 : decode cX9_isMatter 6 = .ok (.getfield 28, 3) := by decide +kernel
theorem dX9_isMatter_9 : decode cX9_isMatter 9 = .ok (.getfield 220, 3) := by decide +kernel
theorem dX9_isMatter_12 : decode cX9_isMatter 12 = .ok (.if_icmp .ge 7, 3) := by decide +kernel
theorem dX9_isMatter_15 : decode cX9_isMatter 15 = .ok (.iconst 1, 1) := by decide +kernel
theorem dX9_isMatter_16 : decode cX9_isMatter 16 = .ok (.goto 4, 3) := by decide +kernel
theorem dX9_isMatter_19 : decode cX9_isMatter 19 = .ok (.iconst 0, 1) := by decide +kernel
theorem dX9_isMatter_20 : decode cX9_isMatter 20 = .ok (.ireturn, 1) := by decide +kernel
def fX9_isMatter (v0 : Nat) (v1 : Int32) (h : qH) : Option (Int32 × qH) :=
  (isO h v0 9).bind fun _ =>
  if v1 < 0 then
  (some (0, h))
  else
  ((gR h v0 9 2).bind fun x2 =>
  (gI h x2 5 6).bind fun x4 =>
  if x4 ≤ v1 then
  (some (0, h))
  else
  (some (1, h)))
theorem obX9_isMatter {v0 : Nat} {v1 : Int32} {h : qH} {p : Int32 × qH} (hyp : fX9_isMatter v0 v1 h = some p) : ∃ fs, h.1 v0 = some (.inr (9, fs)) := by
  unfold fX9_isMatter at hyp
  exact q_bind hyp (fun _ e _ => isO_some e)
set_option maxHeartbeats 4000000 in
set_option maxRecDepth 100000 in
theorem okX9_isMatter {l : Launch} {v0 : Nat} {v1 : Int32} {h : qH} {p : Int32 × qH} (hyp : fX9_isMatter v0 v1 h = some p) : q_M l 1 yX9_isMatter cX9_isMatter 2 (some .boolean) [.ref v0, .int v1] h (some (.int p.1)) p.2 := by
  obtain ⟨r, h'⟩ := p
  unfold fX9_isMatter at hyp
  refine q_bind hyp (fun _ _ hyp => ?_)
  refine q_M.of (by decide) (Nat.le_of_ble_eq_true rfl) ?_
  refine q_to (ls' := [(0, .ref v0), (1, .int v1)]) (st' := []) rfl rfl ?_
  refine q_iload_n 1 rfl dX9_isMatter_0 ?_
  refine q_if_lt (tgt := 19) dX9_isMatter_1 (by decide) (fun c1 => ?_) (fun c1 => ?_)
  · have hyp := q_pos c1 hyp
    refine q_iconst (x := 0) rfl dX9_isMatter_19 ?_
    exact q_iretH rfl rfl dX9_isMatter_20 hyp
  · have hyp := q_neg c1 hyp
    refine q_iload_n 1 rfl dX9_isMatter_4 ?_
    refine q_aload_n 0 rfl dX9_isMatter_5 ?_
    refine q_bind hyp (fun x2 e3 hyp => ?_)
    refine q_getR kF_X9_28 dX9_isMatter_6 e3 ?_
    refine q_bind hyp (fun x4 e5 hyp => ?_)
    refine q_getI kF_X9_220 dX9_isMatter_9 e5 ?_
    refine q_icmp_ge (tgt := 19) dX9_isMatter_12 (by decide) (fun c6 => ?_) (fun c6 => ?_)
    · have hyp := q_pos c6 hyp
      refine q_iconst (x := 0) rfl dX9_isMatter_19 ?_
      exact q_iretH rfl rfl dX9_isMatter_20 hyp
    · have hyp := q_neg c6 hyp
      refine q_iconst (x := 1) rfl dX9_isMatter_15 ?_
      refine q_goto (tgt := 20) dX9_isMatter_16 (by decide) ?_
      exact q_iretH rfl rfl dX9_isMatter_20 hyp
theorem dX9_again_0 : decode cX9_again 0 = .ok (.aload_n 0, 1) := by decide +kernel
theorem dX9_again_1 : decode cX9_again 1 = .ok (.iload_n 1, 1) := by decide +kernel
theorem dX9_again_2 : decode cX9_again 2 = .ok (.invokevirtual 122, 3) := by decide +kernel
theorem dX9_again_5 : decode cX9_again 5 = .ok (.ifCond .eq 15, 3) := by decide +kernel
theorem dX9_again_8 : decode cX9_again 8 = .ok (.aload_n 0, 1) := by decide +kernel
theorem dX9_again_9 : decode cX9_again 9 = .ok (.getfield 38, 3) := by decide +kernel
theorem dX9_again_12 : decode cX9_again 12 = .ok (.getfield 132, 3) := by decide +kernel
theorem dX9_again_15 : decode cX9_again 15 = .ok (.iload_n 1, 1) := by decide +kernel
theorem dX9_again_16 : decode cX9_again 16 = .ok (.iaload, 1) := by decide +kernel
theorem dX9_again_17 : decode cX9_again 17 = .ok (.ifCond .eq 5, 3) := by decide +kernel
theorem dX9_again_20 : decode cX9_again 20 = .ok (.iconst (-1), 1) := by decide +kernel
theorem dX9_again_21 : decode cX9_again 21 = .ok (.ireturn, 1) := by decide +kernel
theorem dX9_again_22 : decode cX9_again 22 = .ok (.iconst 0, 1) := by decide +kernel
theorem dX9_again_23 : decode cX9_again 23 = .ok (.istore_n 2, 1) := by decide +kernel
theorem dX9_again_24 : decode cX9_again 24 = .ok (.iconst 1, 1) := by decide +kernel
theorem dX9_again_25 : decode cX9_again 25 = .ok (.istore_n 3, 1) := by decide +kernel
theorem dX9_again_26 : decode cX9_again 26 = .ok (.iload_n 3, 1) := by decide +kernel
theorem dX9_again_27 : decode cX9_again 27 = .ok (.bipush 60, 2) := by decide +kernel
theorem dX9_again_29 : decode cX9_again 29 = .ok (.if_icmp .gt 34, 3) := by decide +kernel
theorem dX9_again_32 : decode cX9_again 32 = .ok (.aload_n 0, 1) := by decide +kernel
theorem dX9_again_33 : decode cX9_again 33 = .ok (.getfield 28, 3) := by decide +kernel
theorem dX9_again_36 : decode cX9_again 36 = .ok (.iload_n 1, 1) := by decide +kernel
theorem dX9_again_37 : decode cX9_again 37 = .ok (.iload_n 2, 1) := by decide +kernel
theorem dX9_again_38 : decode cX9_again 38 = .ok (.aload_n 0, 1) := by decide +kernel
theorem dX9_again_39 : decode cX9_again 39 = .ok (.getfield 38, 3) := by decide +kernel
theorem dX9_again_42 : decode cX9_again 42 = .ok (.getfield 135, 3) := by decide +kernel
theorem dX9_again_45 : decode cX9_again 45 = .ok (.iload_n 1, 1) := by decide +kernel
theorem dX9_again_46 : decode cX9_again 46 = .ok (.iaload, 1) := by decide +kernel
theorem dX9_again_47 : decode cX9_again 47 = .ok (.invokevirtual 249, 3) := by decide +kernel
theorem dX9_again_50 : decode cX9_again 50 = .ok (.istore_n 2, 1) := by decide +kernel
theorem dX9_again_51 : decode cX9_again 51 = .ok (.iload_n 2, 1) := by decide +kernel
theorem dX9_again_52 : decode cX9_again 52 = .ok (.ifCond .eq 5, 3) := by decide +kernel
theorem dX9_again_55 : decode cX9_again 55 = .ok (.iload_n 3, 1) := by decide +kernel
theorem dX9_again_56 : decode cX9_again 56 = .ok (.ireturn, 1) := by decide +kernel
theorem dX9_again_57 : decode cX9_again 57 = .ok (.iinc 3 1, 3) := by decide +kernel
theorem dX9_again_60 : decode cX9_again 60 = .ok (.goto (-34), 3) := by decide +kernel
theorem dX9_again_63 : decode cX9_again 63 = .ok (.iconst (-1), 1) := by decide +kernel
theorem dX9_again_64 : decode cX9_again 64 = .ok (.ireturn, 1) := by decide +kernel
def fX9_again_b26 (n : Nat) : Nat → Nat → Int32 → Int32 → Int32 → qH → Option (Int32 × qH)
  | 0, _, _, _, _, _ => none
  | w + 1, v0, v1, v2, v3, h =>
    if 60 < v3 then
    (some ((-1), h))
    else
    ((gR h v0 9 2).bind fun x2 =>
    (gR h v0 9 4).bind fun x4 =>
    (gR h x4 8 1).bind fun x6 =>
    (aI .int h x6 v1).bind fun x8 =>
    (fX5_sourAfterYear x2 v1 v2 x8 h).bind fun p10 =>
    if p10.1 = 0 then
    (fX9_again_b26 n w v0 v1 p10.1 (v3 + 1) p10.2)
    else
    (some (v3, p10.2)))
set_option maxHeartbeats 4000000 in
set_option maxRecDepth 100000 in
theorem okX9_again_b26 {l : Launch} {n : Nat} {r : Int32} {h' : qH} : ∀ (w : Nat) (v0 : Nat) (v1 : Int32) (v2 : Int32) (v3 : Int32) (h : qH), fX9_again_b26 n w v0 v1 v2 v3 h = some (r, h') → q_W l 2 yX9_again cX9_again 4 (some .int) (some (.int r)) h' 26 [(0, .ref v0), (1, .int v1), (2, .int v2), (3, .int v3)] [] h := by
  intro w
  induction w with
  | zero => intro v0 v1 v2 v3 h hyp; cases hyp
  | succ w ih =>
    intro v0 v1 v2 v3 h hyp
    unfold fX9_again_b26 at hyp
    refine q_iload_n 3 rfl dX9_again_26 ?_
    refine q_bipush (x := 60) (by decide) dX9_again_27 ?_
    refine q_icmp_gt (tgt := 63) dX9_again_29 (by decide) (fun c1 => ?_) (fun c1 => ?_)
    · have hyp := q_pos c1 hyp
      refine q_iconst (x := (-1)) rfl dX9_again_63 ?_
      exact q_iretH rfl rfl dX9_again_64 hyp
    · have hyp := q_neg c1 hyp
      refine q_aload_n 0 rfl dX9_again_32 ?_
      refine q_bind hyp (fun x2 e3 hyp => ?_)
      refine q_getR kF_X9_28 dX9_again_33 e3 ?_
      refine q_iload_n 1 rfl dX9_again_36 ?_
      refine q_iload_n 2 rfl dX9_again_37 ?_
      refine q_aload_n 0 rfl dX9_again_38 ?_
      refine q_bind hyp (fun x4 e5 hyp => ?_)
      refine q_getR kF_X9_38 dX9_again_39 e5 ?_
      refine q_bind hyp (fun x6 e7 hyp => ?_)
      refine q_getR kF_X9_135 dX9_again_42 e7 ?_
      refine q_iload_n 1 rfl dX9_again_45 ?_
      refine q_bind hyp (fun x8 e9 hyp => ?_)
      refine q_iald dX9_again_46 e9 ?_
      refine q_bind hyp (fun p10 e12 hyp => ?_)
      refine q_callV (as := [.int v1, .int v2, .int x8]) (st := []) kY_X5_sourAfterYear kL_X9_249 (okX5_sourAfterYear (l := l) e12) (by decide) rfl (obX5_sourAfterYear e12) (Nat.le_of_ble_eq_true rfl) dX9_again_47 ?_
      refine q_to (ls' := [(0, .ref v0), (1, .int v1), (2, .int v2), (3, .int v3)]) (st' := [.int p10.1]) rfl rfl ?_
      refine q_istore_n (ls' := [(2, .int p10.1), (0, .ref v0), (1, .int v1), (3, .int v3)]) (by decide) rfl dX9_again_50 ?_
      refine q_iload_n 0 rfl dX9_again_51 ?_
      refine q_if_eq (tgt := 57) dX9_again_52 (by decide) (fun c11 => ?_) (fun c11 => ?_)
      · have hyp := q_pos c11 hyp
        refine q_iinc (ls' := [(3, .int (v3 + 1)), (2, .int p10.1), (0, .ref v0), (1, .int v1)]) 3 rfl rfl (by decide) rfl dX9_again_57 ?_
        refine q_goto (tgt := 26) dX9_again_60 (by decide) ?_
        exact q_sub [2, 3, 1, 0] rfl (ih v0 v1 p10.1 (v3 + 1) p10.2 hyp)
      · have hyp := q_neg c11 hyp
        refine q_iload_n 3 rfl dX9_again_55 ?_
        exact q_iretH rfl rfl dX9_again_56 hyp
def fX9_again (n : Nat) (v0 : Nat) (v1 : Int32) (h : qH) : Option (Int32 × qH) :=
  (isO h v0 9).bind fun _ =>
  (fX9_isMatter v0 v1 h).bind fun p1 =>
  if p1.1 = 0 then
  (some ((-1), p1.2))
  else
  ((gR p1.2 v0 9 4).bind fun x3 =>
  (gR p1.2 x3 8 0).bind fun x5 =>
  (aI .int p1.2 x5 v1).bind fun x7 =>
  if x7 = 0 then
  (fX9_again_b26 n n v0 v1 0 1 p1.2)
  else
  (some ((-1), p1.2)))
theorem obX9_again {n : Nat} {v0 : Nat} {v1 : Int32} {h : qH} {p : Int32 × qH} (hyp : fX9_again n v0 v1 h = some p) : ∃ fs, h.1 v0 = some (.inr (9, fs)) := by
  unfold fX9_again at hyp
  exact q_bind hyp (fun _ e _ => isO_some e)
set_option maxHeartbeats 4000000 in
set_option maxRecDepth 100000 in
theorem okX9_again {l : Launch} {n : Nat} {v0 : Nat} {v1 : Int32} {h : qH} {p : Int32 × qH} (hyp : fX9_again n v0 v1 h = some p) : q_M l 2 yX9_again cX9_again 4 (some .int) [.ref v0, .int v1] h (some (.int p.1)) p.2 := by
  obtain ⟨r, h'⟩ := p
  unfold fX9_again at hyp
  refine q_bind hyp (fun _ _ hyp => ?_)
  refine q_M.of (by decide) (Nat.le_of_ble_eq_true rfl) ?_
  refine q_to (ls' := [(0, .ref v0), (1, .int v1)]) (st' := []) rfl rfl ?_
  refine q_aload_n 0 rfl dX9_again_0 ?_
  refine q_iload_n 1 rfl dX9_again_1 ?_
  refine q_bind hyp (fun p1 e10 hyp => ?_)
  refine q_callV (as := [.int v1]) (st := []) kY_X9_isMatter kL_X9_122 (okX9_isMatter (l := l) e10) (by decide) rfl (obX9_isMatter e10) (Nat.le_of_ble_eq_true rfl) dX9_again_2 ?_
  refine q_to (ls' := [(0, .ref v0), (1, .int v1)]) (st' := [.int p1.1]) rfl rfl ?_
  refine q_if_eq (tgt := 20) dX9_again_5 (by decide) (fun c2 => ?_) (fun c2 => ?_)
  · have hyp := q_pos c2 hyp
    refine q_iconst (x := (-1)) rfl dX9_again_20 ?_
    exact q_iretH rfl rfl dX9_again_21 hyp
  · have hyp := q_neg c2 hyp
    refine q_aload_n 0 rfl dX9_again_8 ?_
    refine q_bind hyp (fun x3 e4 hyp => ?_)
    refine q_getR kF_X9_38 dX9_again_9 e4 ?_
    refine q_bind hyp (fun x5 e6 hyp => ?_)
    refine q_getR kF_X9_132 dX9_again_12 e6 ?_
    refine q_iload_n 1 rfl dX9_again_15 ?_
    refine q_bind hyp (fun x7 e8 hyp => ?_)
    refine q_iald dX9_again_16 e8 ?_
    refine q_if_eq (tgt := 22) dX9_again_17 (by decide) (fun c9 => ?_) (fun c9 => ?_)
    · have hyp := q_pos c9 hyp
      refine q_iconst (x := 0) rfl dX9_again_22 ?_
      refine q_istore_n (ls' := [(2, .int 0), (0, .ref v0), (1, .int v1)]) (by decide) rfl dX9_again_23 ?_
      refine q_iconst (x := 1) rfl dX9_again_24 ?_
      refine q_istore_n (ls' := [(3, .int 1), (2, .int 0), (0, .ref v0), (1, .int v1)]) (by decide) rfl dX9_again_25 ?_
      exact q_sub [2, 3, 1, 0] rfl (okX9_again_b26 _ v0 v1 0 1 p1.2 hyp)
    · have hyp := q_neg c9 hyp
      refine q_iconst (x := (-1)) rfl dX9_again_20 ?_
      exact q_iretH rfl rfl dX9_again_21 hyp
theorem dX9_costOfSet_0 : decode cX9_costOfSet 0 = .ok (.iconst 0, 1) := by decide +kernel
theorem dX9_costOfSet_1 : decode cX9_costOfSet 1 = .ok (.istore_n 2, 1) := by decide +kernel
theorem dX9_costOfSet_2 : decode cX9_costOfSet 2 = .ok (.iconst 0, 1) := by decide +kernel
theorem dX9_costOfSet_3 : decode cX9_costOfSet 3 = .ok (.istore_n 3, 1) := by decide +kernel
theorem dX9_costOfSet_4 : decode cX9_costOfSet 4 = .ok (.iload_n 3, 1) := by decide +kernel
theorem dX9_costOfSet_5 : decode cX9_costOfSet 5 = .ok (.aload_n 0, 1) := by decide +kernel
theorem dX9_costOfSet_6 : decode cX9_costOfSet 6 = .ok (.getfield 28, 3) := by decide +kernel
theorem dX9_costOfSet_9 : decode cX9_costOfSet 9 = .ok (.getfield 220, 3) := by decide +kernel
theorem dX9_costOfSet_12 : decode cX9_costOfSet 12 = .ok (.if_icmp .ge 39, 3) := by decide +kernel
theorem dX9_costOfSet_15 : decode cX9_costOfSet 15 = .ok (.iload_n 1, 1) := by decide +kernel
theorem dX9_costOfSet_16 : decode cX9_costOfSet 16 = .ok (.iload_n 3, 1) := by decide +kernel
theorem dX9_costOfSet_17 : decode cX9_costOfSet 17 = .ok (.invokestatic 142, 3) := by decide +kernel
theorem dX9_costOfSet_20 : decode cX9_costOfSet 20 = .ok (.iconst 1, 1) := by decide +kernel
theorem dX9_costOfSet_21 : decode cX9_costOfSet 21 = .ok (.if_icmp .ne 24, 3) := by decide +kernel
theorem dX9_costOfSet_24 : decode cX9_costOfSet 24 = .ok (.aload_n 0, 1) := by decide +kernel
theorem dX9_costOfSet_25 : decode cX9_costOfSet 25 = .ok (.getfield 75, 3) := by decide +kernel
theorem dX9_costOfSet_28 : decode cX9_costOfSet 28 = .ok (.iload_n 3, 1) := by decide +kernel
theorem dX9_costOfSet_29 : decode cX9_costOfSet 29 = .ok (.iaload, 1) := by decide +kernel
theorem dX9_costOfSet_30 : decode cX9_costOfSet 30 = .ok (.iconst (-1), 1) := by decide +kernel
theorem dX9_costOfSet_31 : decode cX9_costOfSet 31 = .ok (.if_icmp .ne 5, 3) := by decide +kernel
theorem dX9_costOfSet_34 : decode cX9_costOfSet 34 = .ok (.iconst (-1), 1) := by decide +kernel
theorem dX9_costOfSet_35 : decode cX9_costOfSet 35 = .ok (.ireturn, 1) := by decide +kernel
theorem dX9_costOfSet_36 : decode cX9_costOfSet 36 = .ok (.iload_n 2, 1) := by decide +kernel
theorem dX9_costOfSet_37 : decode cX9_costOfSet 37 = .ok (.aload_n 0, 1) := by decide +kernel
theorem dX9_costOfSet_38 : decode cX9_costOfSet 38 = .ok (.getfield 75, 3) := by decide +kernel
theorem dX9_costOfSet_41 : decode cX9_costOfSet 41 = .ok (.iload_n 3, 1) := by decide +kernel
theorem dX9_costOfSet_42 : decode cX9_costOfSet 42 = .ok (.iaload, 1) := by decide +kernel
theorem dX9_costOfSet_43 : decode cX9_costOfSet 43 = .ok (.iadd, 1) := by decide +kernel
theorem dX9_costOfSet_44 : decode cX9_costOfSet 44 = .ok (.istore_n 2, 1) := by decide +kernel
theorem dX9_costOfSet_45 : decode cX9_costOfSet 45 = .ok (.iinc 3 1, 3) := by decide +kernel
theorem dX9_costOfSet_48 : decode cX9_costOfSet 48 = .ok (.goto (-44), 3) := by decide +kernel
theorem dX9_costOfSet_51 : decode cX9_costOfSet 51 = .ok (.iload_n 2, 1) := by decide +kernel
theorem dX9_costOfSet_52 : decode cX9_costOfSet 52 = .ok (.ireturn, 1) := by decide +kernel
def fX9_costOfSet_b4 (n : Nat) : Nat → Nat → Int32 → Int32 → Int32 → qH → Option (Int32 × qH)
  | 0, _, _, _, _, _ => none
  | w + 1, v0, v1, v2, v3, h =>
    (gR h v0 9 2).bind fun x1 =>
    (gI h x1 5 6).bind fun x3 =>
    if x3 ≤ v3 then
    (some (v2, h))
    else
    ((fX9_bit v1 v3 h).bind fun p6 =>
    if p6.1 = 1 then
    ((gR p6.2 v0 9 11).bind fun x8 =>
    (aI .int p6.2 x8 v3).bind fun x10 =>
    if x10 = ((-1)) then
    (some ((-1), p6.2))
    else
    ((gR p6.2 v0 9 11).bind fun x13 =>
    (aI .int p6.2 x13 v3).bind fun x15 =>
    fX9_costOfSet_b4 n w v0 v1 (v2 + x15) (v3 + 1) p6.2))
    else
    (fX9_costOfSet_b4 n w v0 v1 v2 (v3 + 1) p6.2))
set_option maxHeartbeats 4000000 in
set_option maxRecDepth 100000 in
theorem okX9_costOfSet_b4 {l : Launch} {n : Nat} {r : Int32} {h' : qH} : ∀ (w : Nat) (v0 : Nat) (v1 : Int32) (v2 : Int32) (v3 : Int32) (h : qH), fX9_costOfSet_b4 n w v0 v1 v2 v3 h = some (r, h') → q_W l 2 yX9_costOfSet cX9_costOfSet 4 (some .int) (some (.int r)) h' 4 [(0, .ref v0), (1, .int v1), (2, .int v2), (3, .int v3)] [] h := by
  intro w
  induction w with
  | zero => intro v0 v1 v2 v3 h hyp; cases hyp
  | succ w ih =>
    intro v0 v1 v2 v3 h hyp
    unfold fX9_costOfSet_b4 at hyp
    refine q_iload_n 3 rfl dX9_costOfSet_4 ?_
    refine q_aload_n 0 rfl dX9_costOfSet_5 ?_
    refine q_bind hyp (fun x1 e2 hyp => ?_)
    refine q_getR kF_X9_28 dX9_costOfSet_6 e2 ?_
    refine q_bind hyp (fun x3 e4 hyp => ?_)
    refine q_getI kF_X9_220 dX9_costOfSet_9 e4 ?_
    refine q_icmp_ge (tgt := 51) dX9_costOfSet_12 (by decide) (fun c5 => ?_) (fun c5 => ?_)
    · have hyp := q_pos c5 hyp
      refine q_iload_n 2 rfl dX9_costOfSet_51 ?_
      exact q_iretH rfl rfl dX9_costOfSet_52 hyp
    · have hyp := q_neg c5 hyp
      refine q_iload_n 1 rfl dX9_costOfSet_15 ?_
      refine q_iload_n 3 rfl dX9_costOfSet_16 ?_
      refine q_bind hyp (fun p6 e17 hyp => ?_)
      refine q_callS (as := [.int v1, .int v3]) (st := []) kY_X9_bit kS_X9_bit kL_X9_142 (okX9_bit (l := l) e17) (by decide) rfl (Nat.le_of_ble_eq_true rfl) dX9_costOfSet_17 ?_
      refine q_to (ls' := [(0, .ref v0), (1, .int v1), (2, .int v2), (3, .int v3)]) (st' := [.int p6.1]) rfl rfl ?_
      refine q_iconst (x := 1) rfl dX9_costOfSet_20 ?_
      refine q_icmp_ne (tgt := 45) dX9_costOfSet_21 (by decide) (fun c7 => ?_) (fun c7 => ?_)
      · have hyp := q_neg c7 hyp
        refine q_iinc (ls' := [(3, .int (v3 + 1)), (0, .ref v0), (1, .int v1), (2, .int v2)]) 3 rfl rfl (by decide) rfl dX9_costOfSet_45 ?_
        refine q_goto (tgt := 4) dX9_costOfSet_48 (by decide) ?_
        exact q_sub [1, 2, 3, 0] rfl (ih v0 v1 v2 (v3 + 1) p6.2 hyp)
      · have hyp := q_pos c7 hyp
        refine q_aload_n 0 rfl dX9_costOfSet_24 ?_
        refine q_bind hyp (fun x8 e9 hyp => ?_)
        refine q_getR kF_X9_75 dX9_costOfSet_25 e9 ?_
        refine q_iload_n 3 rfl dX9_costOfSet_28 ?_
        refine q_bind hyp (fun x10 e11 hyp => ?_)
        refine q_iald dX9_costOfSet_29 e11 ?_
        refine q_iconst (x := (-1)) rfl dX9_costOfSet_30 ?_
        refine q_icmp_ne (tgt := 36) dX9_costOfSet_31 (by decide) (fun c12 => ?_) (fun c12 => ?_)
        · have hyp := q_neg c12 hyp
          refine q_iload_n 2 rfl dX9_costOfSet_36 ?_
          refine q_aload_n 0 rfl dX9_costOfSet_37 ?_
          refine q_bind hyp (fun x13 e14 hyp => ?_)
          refine q_getR kF_X9_75 dX9_costOfSet_38 e14 ?_
          refine q_iload_n 3 rfl dX9_costOfSet_41 ?_
          refine q_bind hyp (fun x15 e16 hyp => ?_)
          refine q_iald dX9_costOfSet_42 e16 ?_
          refine q_iadd dX9_costOfSet_43 ?_
          refine q_istore_n (ls' := [(2, .int (v2 + x15)), (0, .ref v0), (1, .int v1), (3, .int v3)]) (by decide) rfl dX9_costOfSet_44 ?_
          refine q_iinc (ls' := [(3, .int (v3 + 1)), (2, .int (v2 + x15)), (0, .ref v0), (1, .int v1)]) 3 rfl rfl (by decide) rfl dX9_costOfSet_45 ?_
          refine q_goto (tgt := 4) dX9_costOfSet_48 (by decide) ?_
          exact q_sub [2, 3, 1, 0] rfl (ih v0 v1 (v2 + x15) (v3 + 1) p6.2 hyp)
        · have hyp := q_pos c12 hyp
          refine q_iconst (x := (-1)) rfl dX9_costOfSet_34 ?_
          exact q_iretH rfl rfl dX9_costOfSet_35 hyp
def fX9_costOfSet (n : Nat) (v0 : Nat) (v1 : Int32) (h : qH) : Option (Int32 × qH) :=
  (isO h v0 9).bind fun _ =>
  fX9_costOfSet_b4 n n v0 v1 0 0 h
theorem obX9_costOfSet {n : Nat} {v0 : Nat} {v1 : Int32} {h : qH} {p : Int32 × qH} (hyp : fX9_costOfSet n v0 v1 h = some p) : ∃ fs, h.1 v0 = some (.inr (9, fs)) := by
  unfold fX9_costOfSet at hyp
  exact q_bind hyp (fun _ e _ => isO_some e)
set_option maxHeartbeats 4000000 in
set_option maxRecDepth 100000 in
theorem okX9_costOfSet {l : Launch} {n : Nat} {v0 : Nat} {v1 : Int32} {h : qH} {p : Int32 × qH} (hyp : fX9_costOfSet n v0 v1 h = some p) : q_M l 2 yX9_costOfSet cX9_costOfSet 4 (some .int) [.ref v0, .int v1] h (some (.int p.1)) p.2 := by
  obtain ⟨r, h'⟩ := p
  unfold fX9_costOfSet at hyp
  refine q_bind hyp (fun _ _ hyp => ?_)
  refine q_M.of (by decide) (Nat.le_of_ble_eq_true rfl) ?_
  refine q_to (ls' := [(0, .ref v0), (1, .int v1)]) (st' := []) rfl rfl ?_
  refine q_iconst (x := 0) rfl dX9_costOfSet_0 ?_
  refine q_istore_n (ls' := [(2, .int 0), (0, .ref v0), (1, .int v1)]) (by decide) rfl dX9_costOfSet_1 ?_
  refine q_iconst (x := 0) rfl dX9_costOfSet_2 ?_
  refine q_istore_n (ls' := [(3, .int 0), (2, .int 0), (0, .ref v0), (1, .int v1)]) (by decide) rfl dX9_costOfSet_3 ?_
  exact q_sub [2, 3, 1, 0] rfl (okX9_costOfSet_b4 _ v0 v1 0 0 h hyp)
