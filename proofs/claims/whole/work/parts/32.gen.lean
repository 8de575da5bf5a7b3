/-! Functions over the abstract heap, and that the machine computes them (written by gen.py). -/
theorem dX6_keyHere_0 : decode cX6_keyHere 0 = .ok (.aload_n 0, 1) := by decide +kernel
theorem dX6_keyHere_1 : decode cX6_keyHere 1 = .ok (.iconst 2, 1) := by decide +kernel
theorem dX6_keyHere_2 : decode cX6_keyHere 2 = .ok (.invokevirtual 38, 3) := by decide +kernel
theorem dX6_keyHere_5 : decode cX6_keyHere 5 = .ok (.ifCond .eq 10, 3) := by decide +kernel
theorem dX6_keyHere_8 : decode cX6_keyHere 8 = .ok (.aload_n 0, 1) := by decide +kernel
theorem dX6_keyHere_9 : decode cX6_keyHere 9 = .ok (.getfield 42, 3) := by decide +kernel
theorem dX6_keyHere_12 : decode cX6_keyHere 12 = .ok (.goto 5, 3) := by decide +kernel
theorem dX6_keyHere_15 : decode cX6_keyHere 15 = .ok (.bipush 22, 2) := by decide +kernel
theorem dX6_keyHere_17 : decode cX6_keyHere 17 = .ok (.ireturn, 1) := by decide +kernel
def fX6_keyHere (v0 : Nat) (h : qH) : Option (Int32 × qH) :=
  (isO h v0 6).bind fun _ =>
  (fX6_isType v0 2 h).bind fun p1 =>
  if p1.1 = 0 then
  (some (22, p1.2))
  else
  ((gI p1.2 v0 6 7).bind fun x3 =>
  some (x3, p1.2))
theorem obX6_keyHere {v0 : Nat} {h : qH} {p : Int32 × qH} (hyp : fX6_keyHere v0 h = some p) : ∃ fs, h.1 v0 = some (.inr (6, fs)) := by
  unfold fX6_keyHere at hyp
  exact q_bind hyp (fun _ e _ => isO_some e)
set_option maxHeartbeats 4000000 in
set_option maxRecDepth 100000 in
theorem okX6_keyHere {l : Launch} {v0 : Nat} {h : qH} {p : Int32 × qH} (hyp : fX6_keyHere v0 h = some p) : q_M l 2 yX6_keyHere cX6_keyHere 1 (some .int) [.ref v0] h (some (.int p.1)) p.2 := by
  obtain ⟨r, h'⟩ := p
  unfold fX6_keyHere at hyp
  refine q_bind hyp (fun _ _ hyp => ?_)
  refine q_M.of (by decide) (Nat.le_of_ble_eq_true rfl) ?_
  refine q_to (ls' := [(0, .ref v0)]) (st' := []) rfl rfl ?_
  refine q_aload_n 0 rfl dX6_keyHere_0 ?_
  refine q_iconst (x := 2) rfl dX6_keyHere_1 ?_
  refine q_bind hyp (fun p1 e5 hyp => ?_)
  refine q_callV (as := [.int 2]) (st := []) kY_X6_isType kL_X6_38 (okX6_isType (l := l) e5) (by decide) rfl (obX6_isType e5) (Nat.le_of_ble_eq_true rfl) dX6_keyHere_2 ?_
  refine q_to (ls' := [(0, .ref v0)]) (st' := [.int p1.1]) rfl rfl ?_
  refine q_if_eq (tgt := 15) dX6_keyHere_5 (by decide) (fun c2 => ?_) (fun c2 => ?_)
  · have hyp := q_pos c2 hyp
    refine q_bipush (x := 22) (by decide) dX6_keyHere_15 ?_
    exact q_iretH rfl rfl dX6_keyHere_17 hyp
  · have hyp := q_neg c2 hyp
    refine q_aload_n 0 rfl dX6_keyHere_8 ?_
    refine q_bind hyp (fun x3 e4 hyp => ?_)
    refine q_getI kF_X6_42 dX6_keyHere_9 e4 ?_
    refine q_goto (tgt := 17) dX6_keyHere_12 (by decide) ?_
    exact q_iretH rfl rfl dX6_keyHere_17 hyp
theorem dX9_within_0 : decode cX9_within 0 = .ok (.iload_n 0, 1) := by decide +kernel
theorem dX9_within_1 : decode cX9_within 1 = .ok (.iload_n 1, 1) := by decide +kernel
theorem dX9_within_2 : decode cX9_within 2 = .ok (.if_icmp .lt 12, 3) := by decide +kernel
theorem dX9_within_5 : decode cX9_within 5 = .ok (.iload_n 0, 1) := by decide +kernel
theorem dX9_within_6 : decode cX9_within 6 = .ok (.iload_n 2, 1) := by decide +kernel
theorem dX9_within_7 : decode cX9_within 7 = .ok (.if_icmp .gt 7, 3) := by decide +kernel
theorem dX9_within_10 : decode cX9_within 10 = .ok (.iconst 1, 1) := by decide +kernel
theorem dX9_within_11 : decode cX9_within 11 = .ok (.goto 4, 3) := by decide +kernel
theorem dX9_within_14 : decode cX9_within 14 = .ok (.iconst 0, 1) := by decide +kernel
theorem dX9_within_15 : decode cX9_within 15 = .ok (.ireturn, 1) := by decide +kernel
def fX9_within (v0 : Int32) (v1 : Int32) (v2 : Int32) (h : qH) : Option (Int32 × qH) :=
  if v0 < v1 then
  (some (0, h))
  else
  (if v2 < v0 then
  (some (0, h))
  else
  (some (1, h)))
set_option maxHeartbeats 4000000 in
set_option maxRecDepth 100000 in
theorem okX9_within {l : Launch} {v0 : Int32} {v1 : Int32} {v2 : Int32} {h : qH} {p : Int32 × qH} (hyp : fX9_within v0 v1 v2 h = some p) : q_M l 1 yX9_within cX9_within 3 (some .boolean) [.int v0, .int v1, .int v2] h (some (.int p.1)) p.2 := by
  obtain ⟨r, h'⟩ := p
  unfold fX9_within at hyp
  refine q_M.of (by decide) (Nat.le_of_ble_eq_true rfl) ?_
  refine q_to (ls' := [(0, .int v0), (1, .int v1), (2, .int v2)]) (st' := []) rfl rfl ?_
  refine q_iload_n 0 rfl dX9_within_0 ?_
  refine q_iload_n 1 rfl dX9_within_1 ?_
  refine q_icmp_lt (tgt := 14) dX9_within_2 (by decide) (fun c1 => ?_) (fun c1 => ?_)
  · have hyp := q_pos c1 hyp
    refine q_iconst (x := 0) rfl dX9_within_14 ?_
    exact q_iretH rfl rfl dX9_within_15 hyp
  · have hyp := q_neg c1 hyp
    refine q_iload_n 0 rfl dX9_within_5 ?_
    refine q_iload_n 2 rfl dX9_within_6 ?_
    refine q_icmp_gt (tgt := 14) dX9_within_7 (by decide) (fun c2 => ?_) (fun c2 => ?_)
    · have hyp := q_pos c2 hyp
      refine q_iconst (x := 0) rfl dX9_within_14 ?_
      exact q_iretH rfl rfl dX9_within_15 hyp
    · have hyp := q_neg c2 hyp
      refine q_iconst (x := 1) rfl dX9_within_10 ?_
      refine q_goto (tgt := 15) dX9_within_11 (by decide) ?_
      exact q_iretH rfl rfl dX9_within_15 hyp
theorem dX4_takeKind_0 : decode cX4_takeKind 0 = .ok (.aload_n 0, 1) := by decide +kernel
theorem dX4_takeKind_1 : decode cX4_takeKind 1 = .ok (.getfield 9, 3) := by decide +kernel
theorem dX4_takeKind_4 : decode cX4_takeKind 4 = .ok (.invokevirtual 32, 3) := by decide +kernel
theorem dX4_takeKind_7 : decode cX4_takeKind 7 = .ok (.bipush 11, 2) := by decide +kernel
theorem dX4_takeKind_9 : decode cX4_takeKind 9 = .ok (.isub, 1) := by decide +kernel
theorem dX4_takeKind_10 : decode cX4_takeKind 10 = .ok (.istore_n 1, 1) := by decide +kernel
theorem dX4_takeKind_11 : decode cX4_takeKind 11 = .ok (.iload_n 1, 1) := by decide +kernel
theorem dX4_takeKind_12 : decode cX4_takeKind 12 = .ok (.iconst 0, 1) := by decide +kernel
theorem dX4_takeKind_13 : decode cX4_takeKind 13 = .ok (.iconst 3, 1) := by decide +kernel
theorem dX4_takeKind_14 : decode cX4_takeKind 14 = .ok (.invokestatic 106, 3) := by decide +kernel
theorem dX4_takeKind_17 : decode cX4_takeKind 17 = .ok (.ifCond .ne 13, 3) := by decide +kernel
theorem dX4_takeKind_20 : decode cX4_takeKind 20 = .ok (.aload_n 0, 1) := by decide +kernel
theorem dX4_takeKind_21 : decode cX4_takeKind 21 = .ok (.getfield 9, 3) := by decide +kernel
theorem dX4_takeKind_24 : decode cX4_takeKind 24 = .ok (.iconst 1, 1) := by decide +kernel
theorem dX4_takeKind_25 : decode cX4_takeKind 25 = .ok (.invokevirtual 47, 3) := by decide +kernel
theorem dX4_takeKind_28 : decode cX4_takeKind 28 = .ok (.iconst 0, 1) := by decide +kernel
theorem dX4_takeKind_29 : decode cX4_takeKind 29 = .ok (.ireturn, 1) := by decide +kernel
theorem dX4_takeKind_30 : decode cX4_takeKind 30 = .ok (.aload_n 0, 1) := by decide +kernel
theorem dX4_takeKind_31 : decode cX4_takeKind 31 = .ok (.getfield 9, 3) := by decide +kernel
theorem dX4_takeKind_34 : decode cX4_takeKind 34 = .ok (.invokevirtual 60, 3) := by decide +kernel
theorem dX4_takeKind_37 : decode cX4_takeKind 37 = .ok (.iload_n 1, 1) := by decide +kernel
theorem dX4_takeKind_38 : decode cX4_takeKind 38 = .ok (.ireturn, 1) := by decide +kernel
def fX4_takeKind (n : Nat) (v0 : Nat) (h : qH) : Option (Int32 × qH) :=
  (isO h v0 4).bind fun _ =>
  (gR h v0 4 0).bind fun x1 =>
  (fX6_keyHere x1 h).bind fun p3 =>
  (fX9_within (p3.1 - 11) 0 3 p3.2).bind fun p4 =>
  if p4.1 = 0 then
  ((gR p4.2 v0 4 0).bind fun x10 =>
  (fX6_fail x10 1 p4.2).bind fun h12 =>
  some (0, h12))
  else
  ((gR p4.2 v0 4 0).bind fun x6 =>
  (fX6_advance n x6 p4.2).bind fun h8 =>
  some (p3.1 - 11, h8))
theorem obX4_takeKind {n : Nat} {v0 : Nat} {h : qH} {p : Int32 × qH} (hyp : fX4_takeKind n v0 h = some p) : ∃ fs, h.1 v0 = some (.inr (4, fs)) := by
  unfold fX4_takeKind at hyp
  exact q_bind hyp (fun _ e _ => isO_some e)
set_option maxHeartbeats 4000000 in
set_option maxRecDepth 100000 in
theorem okX4_takeKind {l : Launch} {n : Nat} {v0 : Nat} {h : qH} {p : Int32 × qH} (hyp : fX4_takeKind n v0 h = some p) : q_M l 11 yX4_takeKind cX4_takeKind 2 (some .int) [.ref v0] h (some (.int p.1)) p.2 := by
  obtain ⟨r, h'⟩ := p
  unfold fX4_takeKind at hyp
  refine q_bind hyp (fun _ _ hyp => ?_)
  refine q_M.of (by decide) (Nat.le_of_ble_eq_true rfl) ?_
  refine q_to (ls' := [(0, .ref v0)]) (st' := []) rfl rfl ?_
  refine q_aload_n 0 rfl dX4_takeKind_0 ?_
  refine q_bind hyp (fun x1 e2 hyp => ?_)
  refine q_getR kF_X4_9 dX4_takeKind_1 e2 ?_
  refine q_bind hyp (fun p3 e15 hyp => ?_)
  refine q_callV (as := []) (st := []) kY_X6_keyHere kL_X4_32 (okX6_keyHere (l := l) e15) (by decide) rfl (obX6_keyHere e15) (Nat.le_of_ble_eq_true rfl) dX4_takeKind_4 ?_
  refine q_to (ls' := [(0, .ref v0)]) (st' := [.int p3.1]) rfl rfl ?_
  refine q_bipush (x := 11) (by decide) dX4_takeKind_7 ?_
  refine q_isub dX4_takeKind_9 ?_
  refine q_istore_n (ls' := [(1, .int (p3.1 - 11)), (0, .ref v0)]) (by decide) rfl dX4_takeKind_10 ?_
  refine q_iload_n 0 rfl dX4_takeKind_11 ?_
  refine q_iconst (x := 0) rfl dX4_takeKind_12 ?_
  refine q_iconst (x := 3) rfl dX4_takeKind_13 ?_
  refine q_bind hyp (fun p4 e14 hyp => ?_)
  refine q_callS (as := [.int (p3.1 - 11), .int 0, .int 3]) (st := []) kY_X9_within kS_X9_within kL_X4_106 (okX9_within (l := l) e14) (by decide) rfl (Nat.le_of_ble_eq_true rfl) dX4_takeKind_14 ?_
  refine q_to (ls' := [(1, .int (p3.1 - 11)), (0, .ref v0)]) (st' := [.int p4.1]) rfl rfl ?_
  refine q_if_ne (tgt := 30) dX4_takeKind_17 (by decide) (fun c5 => ?_) (fun c5 => ?_)
  · have hyp := q_neg c5 hyp
    refine q_aload_n 1 rfl dX4_takeKind_30 ?_
    refine q_bind hyp (fun x6 e7 hyp => ?_)
    refine q_getR kF_X4_9 dX4_takeKind_31 e7 ?_
    refine q_bind hyp (fun h8 e9 hyp => ?_)
    refine q_callV (as := []) (st := []) kY_X6_advance kL_X4_60 (okX6_advance (l := l) e9) (by decide) rfl (obX6_advance e9) (Nat.le_of_ble_eq_true rfl) dX4_takeKind_34 ?_
    refine q_to (ls' := [(1, .int (p3.1 - 11)), (0, .ref v0)]) (st' := []) rfl rfl ?_
    refine q_iload_n 0 rfl dX4_takeKind_37 ?_
    exact q_iretH rfl rfl dX4_takeKind_38 hyp
  · have hyp := q_pos c5 hyp
    refine q_aload_n 1 rfl dX4_takeKind_20 ?_
    refine q_bind hyp (fun x10 e11 hyp => ?_)
    refine q_getR kF_X4_9 dX4_takeKind_21 e11 ?_
    refine q_iconst (x := 1) rfl dX4_takeKind_24 ?_
    refine q_bind hyp (fun h12 e13 hyp => ?_)
    refine q_callV (as := [.int 1]) (st := []) kY_X6_fail kL_X4_47 (okX6_fail (l := l) e13) (by decide) rfl (obX6_fail e13) (Nat.le_of_ble_eq_true rfl) dX4_takeKind_25 ?_
    refine q_to (ls' := [(1, .int (p3.1 - 11)), (0, .ref v0)]) (st' := []) rfl rfl ?_
    refine q_iconst (x := 0) rfl dX4_takeKind_28 ?_
    exact q_iretH rfl rfl dX4_takeKind_29 hyp
theorem dX4_takeNewName_0 : decode cX4_takeNewName 0 = .ok (.aload_n 0, 1) := by decide +kernel
theorem dX4_takeNewName_1 : decode cX4_takeNewName 1 = .ok (.getfield 9, 3) := by decide +kernel
theorem dX4_takeNewName_4 : decode cX4_takeNewName 4 = .ok (.invokevirtual 94, 3) := by decide +kernel
theorem dX4_takeNewName_7 : decode cX4_takeNewName 7 = .ok (.ifCond .ne 13, 3) := by decide +kernel
theorem dX4_takeNewName_10 : decode cX4_takeNewName 10 = .ok (.aload_n 0, 1) := by decide +kernel
theorem dX4_takeNewName_11 : decode cX4_takeNewName 11 = .ok (.getfield 9, 3) := by decide +kernel
theorem dX4_takeNewName_14 : decode cX4_takeNewName 14 = .ok (.iconst 1, 1) := by decide +kernel
theorem dX4_takeNewName_15 : decode cX4_takeNewName 15 = .ok (.invokevirtual 47, 3) := by decide +kernel
theorem dX4_takeNewName_18 : decode cX4_takeNewName 18 = .ok (.lconst 0, 1) := by decide +kernel
theorem dX4_takeNewName_19 : decode cX4_takeNewName 19 = .ok (.lreturn, 1) := by decide +kernel
theorem dX4_takeNewName_20 : decode cX4_takeNewName 20 = .ok (.aload_n 0, 1) := by decide +kernel
theorem dX4_takeNewName_21 : decode cX4_takeNewName 21 = .ok (.getfield 9, 3) := by decide +kernel
theorem dX4_takeNewName_24 : decode cX4_takeNewName 24 = .ok (.getfield 98, 3) := by decide +kernel
theorem dX4_takeNewName_27 : decode cX4_takeNewName 27 = .ok (.lstore_n 2, 1) := by decide +kernel
theorem dX4_takeNewName_28 : decode cX4_takeNewName 28 = .ok (.aload_n 1, 1) := by decide +kernel
theorem dX4_takeNewName_29 : decode cX4_takeNewName 29 = .ok (.lload_n 2, 1) := by decide +kernel
theorem dX4_takeNewName_30 : decode cX4_takeNewName 30 = .ok (.invokevirtual 102, 3) := by decide +kernel
theorem dX4_takeNewName_33 : decode cX4_takeNewName 33 = .ok (.iconst (-1), 1) := by decide +kernel
theorem dX4_takeNewName_34 : decode cX4_takeNewName 34 = .ok (.if_icmp .eq 13, 3) := by decide +kernel
theorem dX4_takeNewName_37 : decode cX4_takeNewName 37 = .ok (.aload_n 0, 1) := by decide +kernel
theorem dX4_takeNewName_38 : decode cX4_takeNewName 38 = .ok (.getfield 9, 3) := by decide +kernel
theorem dX4_takeNewName_41 : decode cX4_takeNewName 41 = .ok (.iconst 3, 1) := by decide +kernel
theorem dX4_takeNewName_42 : decode cX4_takeNewName 42 = .ok (.invokevirtual 47, 3) := by decide +kernel
theorem dX4_takeNewName_45 : decode cX4_takeNewName 45 = .ok (.lconst 0, 1) := by decide +kernel
theorem dX4_takeNewName_46 : decode cX4_takeNewName 46 = .ok (.lreturn, 1) := by decide +kernel
theorem dX4_takeNewName_47 : decode cX4_takeNewName 47 = .ok (.aload_n 0, 1) := by decide +kernel
theorem dX4_takeNewName_48 : decode cX4_takeNewName 48 = .ok (.getfield 9, 3) := by decide +kernel
theorem dX4_takeNewName_51 : decode cX4_takeNewName 51 = .ok (.invokevirtual 60, 3) := by decide +kernel
theorem dX4_takeNewName_54 : decode cX4_takeNewName 54 = .ok (.lload_n 2, 1) := by decide +kernel
theorem dX4_takeNewName_55 : decode cX4_takeNewName 55 = .ok (.lreturn, 1) := by decide +kernel
def fX4_takeNewName (n : Nat) (v0 : Nat) (v1 : Nat) (h : qH) : Option (Int64 × qH) :=
  (isO h v0 4).bind fun _ =>
  (gR h v0 4 0).bind fun x1 =>
  (fX6_isName x1 h).bind fun p3 =>
  if p3.1 = 0 then
  ((gR p3.2 v0 4 0).bind fun x20 =>
  (fX6_fail x20 1 p3.2).bind fun h22 =>
  some (0, h22))
  else
  ((gR p3.2 v0 4 0).bind fun x5 =>
  (gL p3.2 x5 6 6).bind fun x7 =>
  (fX5_find n v1 x7 p3.2).bind fun p9 =>
  if p9.1 = ((-1)) then
  ((gR p9.2 v0 4 0).bind fun x11 =>
  (fX6_advance n x11 p9.2).bind fun h13 =>
  some (x7, h13))
  else
  ((gR p9.2 v0 4 0).bind fun x15 =>
  (fX6_fail x15 3 p9.2).bind fun h17 =>
  some (0, h17)))
theorem obX4_takeNewName {n : Nat} {v0 : Nat} {v1 : Nat} {h : qH} {p : Int64 × qH} (hyp : fX4_takeNewName n v0 v1 h = some p) : ∃ fs, h.1 v0 = some (.inr (4, fs)) := by
  unfold fX4_takeNewName at hyp
  exact q_bind hyp (fun _ e _ => isO_some e)
set_option maxHeartbeats 4000000 in
set_option maxRecDepth 100000 in
theorem okX4_takeNewName {l : Launch} {n : Nat} {v0 : Nat} {v1 : Nat} {h : qH} {p : Int64 × qH} (hyp : fX4_takeNewName n v0 v1 h = some p) : q_M l 11 yX4_takeNewName cX4_takeNewName 4 (some .long) [.ref v0, .ref v1] h (some (.long p.1)) p.2 := by
  obtain ⟨r, h'⟩ := p
  unfold fX4_takeNewName at hyp
  refine q_bind hyp (fun _ _ hyp => ?_)
  refine q_M.of (by decide) (Nat.le_of_ble_eq_true rfl) ?_
  refine q_to (ls' := [(0, .ref v0), (1, .ref v1)]) (st' := []) rfl rfl ?_
  refine q_aload_n 0 rfl dX4_takeNewName_0 ?_
  refine q_bind hyp (fun x1 e2 hyp => ?_)
  refine q_getR kF_X4_9 dX4_takeNewName_1 e2 ?_
  refine q_bind hyp (fun p3 e24 hyp => ?_)
  refine q_callV (as := []) (st := []) kY_X6_isName kL_X4_94 (okX6_isName (l := l) e24) (by decide) rfl (obX6_isName e24) (Nat.le_of_ble_eq_true rfl) dX4_takeNewName_4 ?_
  refine q_to (ls' := [(0, .ref v0), (1, .ref v1)]) (st' := [.int p3.1]) rfl rfl ?_
  refine q_if_ne (tgt := 20) dX4_takeNewName_7 (by decide) (fun c4 => ?_) (fun c4 => ?_)
  · have hyp := q_neg c4 hyp
    refine q_aload_n 0 rfl dX4_takeNewName_20 ?_
    refine q_bind hyp (fun x5 e6 hyp => ?_)
    refine q_getR kF_X4_9 dX4_takeNewName_21 e6 ?_
    refine q_bind hyp (fun x7 e8 hyp => ?_)
    refine q_getL kF_X4_98 dX4_takeNewName_24 e8 ?_
    refine q_lstore_n (ls' := [(2, .long x7), (0, .ref v0), (1, .ref v1)]) (by decide) rfl dX4_takeNewName_27 ?_
    refine q_aload_n 2 rfl dX4_takeNewName_28 ?_
    refine q_lload_n 0 rfl dX4_takeNewName_29 ?_
    refine q_bind hyp (fun p9 e19 hyp => ?_)
    refine q_callV (as := [.long x7]) (st := []) kY_X5_find kL_X4_102 (okX5_find (l := l) e19) (by decide) rfl (obX5_find e19) (Nat.le_of_ble_eq_true rfl) dX4_takeNewName_30 ?_
    refine q_to (ls' := [(2, .long x7), (0, .ref v0), (1, .ref v1)]) (st' := [.int p9.1]) rfl rfl ?_
    refine q_iconst (x := (-1)) rfl dX4_takeNewName_33 ?_
    refine q_icmp_eq (tgt := 47) dX4_takeNewName_34 (by decide) (fun c10 => ?_) (fun c10 => ?_)
    · have hyp := q_pos c10 hyp
      refine q_aload_n 1 rfl dX4_takeNewName_47 ?_
      refine q_bind hyp (fun x11 e12 hyp => ?_)
      refine q_getR kF_X4_9 dX4_takeNewName_48 e12 ?_
      refine q_bind hyp (fun h13 e14 hyp => ?_)
      refine q_callV (as := []) (st := []) kY_X6_advance kL_X4_60 (okX6_advance (l := l) e14) (by decide) rfl (obX6_advance e14) (Nat.le_of_ble_eq_true rfl) dX4_takeNewName_51 ?_
      refine q_to (ls' := [(2, .long x7), (0, .ref v0), (1, .ref v1)]) (st' := []) rfl rfl ?_
      refine q_lload_n 0 rfl dX4_takeNewName_54 ?_
      exact q_lretH rfl dX4_takeNewName_55 hyp
    · have hyp := q_neg c10 hyp
      refine q_aload_n 1 rfl dX4_takeNewName_37 ?_
      refine q_bind hyp (fun x15 e16 hyp => ?_)
      refine q_getR kF_X4_9 dX4_takeNewName_38 e16 ?_
      refine q_iconst (x := 3) rfl dX4_takeNewName_41 ?_
      refine q_bind hyp (fun h17 e18 hyp => ?_)
      refine q_callV (as := [.int 3]) (st := []) kY_X6_fail kL_X4_47 (okX6_fail (l := l) e18) (by decide) rfl (obX6_fail e18) (Nat.le_of_ble_eq_true rfl) dX4_takeNewName_42 ?_
      refine q_to (ls' := [(2, .long x7), (0, .ref v0), (1, .ref v1)]) (st' := []) rfl rfl ?_
      refine q_lconst (x := 0) rfl dX4_takeNewName_45 ?_
      exact q_lretH rfl dX4_takeNewName_46 hyp
  · have hyp := q_pos c4 hyp
    refine q_aload_n 0 rfl dX4_takeNewName_10 ?_
    refine q_bind hyp (fun x20 e21 hyp => ?_)
    refine q_getR kF_X4_9 dX4_takeNewName_11 e21 ?_
    refine q_iconst (x := 1) rfl dX4_takeNewName_14 ?_
    refine q_bind hyp (fun h22 e23 hyp => ?_)
    refine q_callV (as := [.int 1]) (st := []) kY_X6_fail kL_X4_47 (okX6_fail (l := l) e23) (by decide) rfl (obX6_fail e23) (Nat.le_of_ble_eq_true rfl) dX4_takeNewName_15 ?_
    refine q_to (ls' := [(0, .ref v0), (1, .ref v1)]) (st' := []) rfl rfl ?_
    refine q_lconst (x := 0) rfl dX4_takeNewName_18 ?_
    exact q_lretH rfl dX4_takeNewName_19 hyp
theorem dX6_isKey_0 : decode cX6_isKey 0 = .ok (.aload_n 0, 1) := by decide +kernel
theorem dX6_isKey_1 : decode cX6_isKey 1 = .ok (.iconst 2, 1) := by decide +kernel
theorem dX6_isKey_2 : decode cX6_isKey 2 = .ok (.invokevirtual 38, 3) := by decide +kernel
theorem dX6_isKey_5 : decode cX6_isKey 5 = .ok (.ifCond .eq 15, 3) := by decide +kernel
theorem dX6_isKey_8 : decode cX6_isKey 8 = .ok (.aload_n 0, 1) := by decide +kernel
theorem dX6_isKey_9 : decode cX6_isKey 9 = .ok (.getfield 42, 3) := by decide +kernel
theorem dX6_isKey_12 : decode cX6_isKey 12 = .ok (.iload_n 1, 1) := by decide +kernel
theorem dX6_isKey_13 : decode cX6_isKey 13 = .ok (.if_icmp .ne 7, 3) := by decide +kernel
theorem dX6_isKey_16 : decode cX6_isKey 16 = .ok (.iconst 1, 1) := by decide +kernel
theorem dX6_isKey_17 : decode cX6_isKey 17 = .ok (.goto 4, 3) := by decide +kernel
theorem dX6_isKey_20 : decode cX6_isKey 20 = .ok (.iconst 0, 1) := by decide +kernel
theorem dX6_isKey_21 : decode cX6_isKey 21 = .ok (.ireturn, 1) := by decide +kernel
def fX6_isKey (v0 : Nat) (v1 : Int32) (h : qH) : Option (Int32 × qH) :=
  (isO h v0 6).bind fun _ =>
  (fX6_isType v0 2 h).bind fun p1 =>
  if p1.1 = 0 then
  (some (0, p1.2))
  else
  ((gI p1.2 v0 6 7).bind fun x3 =>
  if x3 = v1 then
  (some (1, p1.2))
  else
  (some (0, p1.2)))
theorem obX6_isKey {v0 : Nat} {v1 : Int32} {h : qH} {p : Int32 × qH} (hyp : fX6_isKey v0 v1 h = some p) : ∃ fs, h.1 v0 = some (.inr (6, fs)) := by
  unfold fX6_isKey at hyp
  exact q_bind hyp (fun _ e _ => isO_some e)
set_option maxHeartbeats 4000000 in
set_option maxRecDepth 100000 in
theorem okX6_isKey {l : Launch} {v0 : Nat} {v1 : Int32} {h : qH} {p : Int32 × qH} (hyp : fX6_isKey v0 v1 h = some p) : q_M l 2 yX6_isKey cX6_isKey 2 (some .boolean) [.ref v0, .int v1] h (some (.int p.1)) p.2 := by
  obtain ⟨r, h'⟩ := p
  unfold fX6_isKey at hyp
  refine q_bind hyp (fun _ _ hyp => ?_)
  refine q_M.of (by decide) (Nat.le_of_ble_eq_true rfl) ?_
  refine q_to (ls' := [(0, .ref v0), (1, .int v1)]) (st' := []) rfl rfl ?_
  refine q_aload_n 0 rfl dX6_isKey_0 ?_
  refine q_iconst (x := 2) rfl dX6_isKey_1 ?_
  refine q_bind hyp (fun p1 e6 hyp => ?_)
  refine q_callV (as := [.int 2]) (st := []) kY_X6_isType kL_X6_38 (okX6_isType (l := l) e6) (by decide) rfl (obX6_isType e6) (Nat.le_of_ble_eq_true rfl) dX6_isKey_2 ?_
  refine q_to (ls' := [(0, .ref v0), (1, .int v1)]) (st' := [.int p1.1]) rfl rfl ?_
  refine q_if_eq (tgt := 20) dX6_isKey_5 (by decide) (fun c2 => ?_) (fun c2 => ?_)
  · have hyp := q_pos c2 hyp
    refine q_iconst (x := 0) rfl dX6_isKey_20 ?_
    exact q_iretH rfl rfl dX6_isKey_21 hyp
  · have hyp := q_neg c2 hyp
    refine q_aload_n 0 rfl dX6_isKey_8 ?_
    refine q_bind hyp (fun x3 e4 hyp => ?_)
    refine q_getI kF_X6_42 dX6_isKey_9 e4 ?_
    refine q_iload_n 1 rfl dX6_isKey_12 ?_
    refine q_icmp_ne (tgt := 20) dX6_isKey_13 (by decide) (fun c5 => ?_) (fun c5 => ?_)
    · have hyp := q_neg c5 hyp
      refine q_iconst (x := 0) rfl dX6_isKey_20 ?_
      exact q_iretH rfl rfl dX6_isKey_21 hyp
    · have hyp := q_pos c5 hyp
      refine q_iconst (x := 1) rfl dX6_isKey_16 ?_
      refine q_goto (tgt := 21) dX6_isKey_17 (by decide) ?_
      exact q_iretH rfl rfl dX6_isKey_21 hyp
theorem dX6_takeKey_0 : decode cX6_takeKey 0 = .ok (.aload_n 0, 1) := by decide +kernel
theorem dX6_takeKey_1 : decode cX6_takeKey 1 = .ok (.iload_n 1, 1) := by decide +kernel
theorem dX6_takeKey_2 : decode cX6_takeKey 2 = .ok (.invokevirtual 45, 3) := by decide +kernel
theorem dX6_takeKey_5 : decode cX6_takeKey 5 = .ok (.ifCond .eq 10, 3) := by decide +kernel
theorem dX6_takeKey_8 : decode cX6_takeKey 8 = .ok (.aload_n 0, 1) := by decide +kernel
theorem dX6_takeKey_9 : decode cX6_takeKey 9 = .ok (.invokevirtual 29, 3) := by decide +kernel
theorem dX6_takeKey_12 : decode cX6_takeKey 12 = .ok (.goto 8, 3) := by decide +kernel
theorem dX6_takeKey_15 : decode cX6_takeKey 15 = .ok (.aload_n 0, 1) := by decide +kernel
theorem dX6_takeKey_16 : decode cX6_takeKey 16 = .ok (.iconst 1, 1) := by decide +kernel
theorem dX6_takeKey_17 : decode cX6_takeKey 17 = .ok (.invokevirtual 48, 3) := by decide +kernel
theorem dX6_takeKey_20 : decode cX6_takeKey 20 = .ok (.return_, 1) := by decide +kernel
def fX6_takeKey (n : Nat) (v0 : Nat) (v1 : Int32) (h : qH) : Option (qH) :=
  (isO h v0 6).bind fun _ =>
  (fX6_isKey v0 v1 h).bind fun p1 =>
  if p1.1 = 0 then
  ((fX6_fail v0 1 p1.2).bind fun h3 =>
  some h3)
  else
  ((fX6_advance n v0 p1.2).bind fun h5 =>
  some h5)
theorem obX6_takeKey {n : Nat} {v0 : Nat} {v1 : Int32} {h : qH} {p : qH} (hyp : fX6_takeKey n v0 v1 h = some p) : ∃ fs, h.1 v0 = some (.inr (6, fs)) := by
  unfold fX6_takeKey at hyp
  exact q_bind hyp (fun _ e _ => isO_some e)
set_option maxHeartbeats 4000000 in
set_option maxRecDepth 100000 in
theorem okX6_takeKey {l : Launch} {n : Nat} {v0 : Nat} {v1 : Int32} {h : qH} {h' : qH} (hyp : fX6_takeKey n v0 v1 h = some h') : q_M l 11 yX6_takeKey cX6_takeKey 2 none [.ref v0, .int v1] h none h' := by
  unfold fX6_takeKey at hyp
  refine q_bind hyp (fun _ _ hyp => ?_)
  refine q_M.of (by decide) (Nat.le_of_ble_eq_true rfl) ?_
  refine q_to (ls' := [(0, .ref v0), (1, .int v1)]) (st' := []) rfl rfl ?_
  refine q_aload_n 0 rfl dX6_takeKey_0 ?_
  refine q_iload_n 1 rfl dX6_takeKey_1 ?_
  refine q_bind hyp (fun p1 e7 hyp => ?_)
  refine q_callV (as := [.int v1]) (st := []) kY_X6_isKey kL_X6_45 (okX6_isKey (l := l) e7) (by decide) rfl (obX6_isKey e7) (Nat.le_of_ble_eq_true rfl) dX6_takeKey_2 ?_
  refine q_to (ls' := [(0, .ref v0), (1, .int v1)]) (st' := [.int p1.1]) rfl rfl ?_
  refine q_if_eq (tgt := 15) dX6_takeKey_5 (by decide) (fun c2 => ?_) (fun c2 => ?_)
  · have hyp := q_pos c2 hyp
    refine q_aload_n 0 rfl dX6_takeKey_15 ?_
    refine q_iconst (x := 1) rfl dX6_takeKey_16 ?_
    refine q_bind hyp (fun h3 e4 hyp => ?_)
    refine q_callV (as := [.int 1]) (st := []) kY_X6_fail kL_X6_48 (okX6_fail (l := l) e4) (by decide) rfl (obX6_fail e4) (Nat.le_of_ble_eq_true rfl) dX6_takeKey_17 ?_
    refine q_to (ls' := [(0, .ref v0), (1, .int v1)]) (st' := []) rfl rfl ?_
    exact q_vretH rfl dX6_takeKey_20 hyp
  · have hyp := q_neg c2 hyp
    refine q_aload_n 0 rfl dX6_takeKey_8 ?_
    refine q_bind hyp (fun h5 e6 hyp => ?_)
    refine q_callV (as := []) (st := []) kY_X6_advance kL_X6_29 (okX6_advance (l := l) e6) (by decide) rfl (obX6_advance e6) (Nat.le_of_ble_eq_true rfl) dX6_takeKey_9 ?_
    refine q_to (ls' := [(0, .ref v0), (1, .int v1)]) (st' := []) rfl rfl ?_
    refine q_goto (tgt := 20) dX6_takeKey_12 (by decide) ?_
    exact q_vretH rfl dX6_takeKey_20 hyp
theorem dX6_takeNumber_0 : decode cX6_takeNumber 0 = .ok (.aload_n 0, 1) := by decide +kernel
theorem dX6_takeNumber_1 : decode cX6_takeNumber 1 = .ok (.iconst 3, 1) := by decide +kernel
theorem dX6_takeNumber_2 : decode cX6_takeNumber 2 = .ok (.invokevirtual 38, 3) := by decide +kernel
theorem dX6_takeNumber_5 : decode cX6_takeNumber 5 = .ok (.ifCond .ne 10, 3) := by decide +kernel
theorem dX6_takeNumber_8 : decode cX6_takeNumber 8 = .ok (.aload_n 0, 1) := by decide +kernel
theorem dX6_takeNumber_9 : decode cX6_takeNumber 9 = .ok (.iconst 1, 1) := by decide +kernel
theorem dX6_takeNumber_10 : decode cX6_takeNumber 10 = .ok (.invokevirtual 48, 3) := by decide +kernel
theorem dX6_takeNumber_13 : decode cX6_takeNumber 13 = .ok (.iload_n 1, 1) := by decide +kernel
theorem dX6_takeNumber_14 : decode cX6_takeNumber 14 = .ok (.ireturn, 1) := by decide +kernel
theorem dX6_takeNumber_15 : decode cX6_takeNumber 15 = .ok (.aload_n 0, 1) := by decide +kernel
theorem dX6_takeNumber_16 : decode cX6_takeNumber 16 = .ok (.getfield 51, 3) := by decide +kernel
theorem dX6_takeNumber_19 : decode cX6_takeNumber 19 = .ok (.istore_n 3, 1) := by decide +kernel
theorem dX6_takeNumber_20 : decode cX6_takeNumber 20 = .ok (.iload_n 3, 1) := by decide +kernel
theorem dX6_takeNumber_21 : decode cX6_takeNumber 21 = .ok (.iload_n 1, 1) := by decide +kernel
theorem dX6_takeNumber_22 : decode cX6_takeNumber 22 = .ok (.iload_n 2, 1) := by decide +kernel
theorem dX6_takeNumber_23 : decode cX6_takeNumber 23 = .ok (.invokestatic 54, 3) := by decide +kernel
theorem dX6_takeNumber_26 : decode cX6_takeNumber 26 = .ok (.ifCond .ne 10, 3) := by decide +kernel
theorem dX6_takeNumber_29 : decode cX6_takeNumber 29 = .ok (.aload_n 0, 1) := by decide +kernel
theorem dX6_takeNumber_30 : decode cX6_takeNumber 30 = .ok (.iconst 4, 1) := by decide +kernel
theorem dX6_takeNumber_31 : decode cX6_takeNumber 31 = .ok (.invokevirtual 48, 3) := by decide +kernel
theorem dX6_takeNumber_34 : decode cX6_takeNumber 34 = .ok (.iload_n 1, 1) := by decide +kernel
theorem dX6_takeNumber_35 : decode cX6_takeNumber 35 = .ok (.ireturn, 1) := by decide +kernel
theorem dX6_takeNumber_36 : decode cX6_takeNumber 36 = .ok (.aload_n 0, 1) := by decide +kernel
theorem dX6_takeNumber_37 : decode cX6_takeNumber 37 = .ok (.invokevirtual 29, 3) := by decide +kernel
theorem dX6_takeNumber_40 : decode cX6_takeNumber 40 = .ok (.iload_n 3, 1) := by decide +kernel
theorem dX6_takeNumber_41 : decode cX6_takeNumber 41 = .ok (.ireturn, 1) := by decide +kernel
def fX6_takeNumber (n : Nat) (v0 : Nat) (v1 : Int32) (v2 : Int32) (h : qH) : Option (Int32 × qH) :=
  (isO h v0 6).bind fun _ =>
  (fX6_isType v0 3 h).bind fun p1 =>
  if p1.1 = 0 then
  ((fX6_fail v0 1 p1.2).bind fun h12 =>
  some (v1, h12))
  else
  ((gI p1.2 v0 6 5).bind fun x3 =>
  (fX9_within x3 v1 v2 p1.2).bind fun p5 =>
  if p5.1 = 0 then
  ((fX6_fail v0 4 p5.2).bind fun h9 =>
  some (v1, h9))
  else
  ((fX6_advance n v0 p5.2).bind fun h7 =>
  some (x3, h7)))
theorem obX6_takeNumber {n : Nat} {v0 : Nat} {v1 : Int32} {v2 : Int32} {h : qH} {p : Int32 × qH} (hyp : fX6_takeNumber n v0 v1 v2 h = some p) : ∃ fs, h.1 v0 = some (.inr (6, fs)) := by
  unfold fX6_takeNumber at hyp
  exact q_bind hyp (fun _ e _ => isO_some e)
set_option maxHeartbeats 4000000 in
set_option maxRecDepth 100000 in
theorem okX6_takeNumber {l : Launch} {n : Nat} {v0 : Nat} {v1 : Int32} {v2 : Int32} {h : qH} {p : Int32 × qH} (hyp : fX6_takeNumber n v0 v1 v2 h = some p) : q_M l 11 yX6_takeNumber cX6_takeNumber 4 (some .int) [.ref v0, .int v1, .int v2] h (some (.int p.1)) p.2 := by
  obtain ⟨r, h'⟩ := p
  unfold fX6_takeNumber at hyp
  refine q_bind hyp (fun _ _ hyp => ?_)
  refine q_M.of (by decide) (Nat.le_of_ble_eq_true rfl) ?_
  refine q_to (ls' := [(0, .ref v0), (1, .int v1), (2, .int v2)]) (st' := []) rfl rfl ?_
  refine q_aload_n 0 rfl dX6_takeNumber_0 ?_
  refine q_iconst (x := 3) rfl dX6_takeNumber_1 ?_
  refine q_bind hyp (fun p1 e14 hyp => ?_)
  refine q_callV (as := [.int 3]) (st := []) kY_X6_isType kL_X6_38 (okX6_isType (l := l) e14) (by decide) rfl (obX6_isType e14) (Nat.le_of_ble_eq_true rfl) dX6_takeNumber_2 ?_
  refine q_to (ls' := [(0, .ref v0), (1, .int v1), (2, .int v2)]) (st' := [.int p1.1]) rfl rfl ?_
  refine q_if_ne (tgt := 15) dX6_takeNumber_5 (by decide) (fun c2 => ?_) (fun c2 => ?_)
  · have hyp := q_neg c2 hyp
    refine q_aload_n 0 rfl dX6_takeNumber_15 ?_
    refine q_bind hyp (fun x3 e4 hyp => ?_)
    refine q_getI kF_X6_51 dX6_takeNumber_16 e4 ?_
    refine q_istore_n (ls' := [(3, .int x3), (0, .ref v0), (1, .int v1), (2, .int v2)]) (by decide) rfl dX6_takeNumber_19 ?_
    refine q_iload_n 0 rfl dX6_takeNumber_20 ?_
    refine q_iload_n 2 rfl dX6_takeNumber_21 ?_
    refine q_iload_n 3 rfl dX6_takeNumber_22 ?_
    refine q_bind hyp (fun p5 e11 hyp => ?_)
    refine q_callS (as := [.int x3, .int v1, .int v2]) (st := []) kY_X9_within kS_X9_within kL_X6_54 (okX9_within (l := l) e11) (by decide) rfl (Nat.le_of_ble_eq_true rfl) dX6_takeNumber_23 ?_
    refine q_to (ls' := [(3, .int x3), (0, .ref v0), (1, .int v1), (2, .int v2)]) (st' := [.int p5.1]) rfl rfl ?_
    refine q_if_ne (tgt := 36) dX6_takeNumber_26 (by decide) (fun c6 => ?_) (fun c6 => ?_)
    · have hyp := q_neg c6 hyp
      refine q_aload_n 1 rfl dX6_takeNumber_36 ?_
      refine q_bind hyp (fun h7 e8 hyp => ?_)
      refine q_callV (as := []) (st := []) kY_X6_advance kL_X6_29 (okX6_advance (l := l) e8) (by decide) rfl (obX6_advance e8) (Nat.le_of_ble_eq_true rfl) dX6_takeNumber_37 ?_
      refine q_to (ls' := [(3, .int x3), (0, .ref v0), (1, .int v1), (2, .int v2)]) (st' := []) rfl rfl ?_
      refine q_iload_n 0 rfl dX6_takeNumber_40 ?_
      exact q_iretH rfl rfl dX6_takeNumber_41 hyp
    · have hyp := q_pos c6 hyp
      refine q_aload_n 1 rfl dX6_takeNumber_29 ?_
      refine q_iconst (x := 4) rfl dX6_takeNumber_30 ?_
      refine q_bind hyp (fun h9 e10 hyp => ?_)
      refine q_callV (as := [.int 4]) (st := []) kY_X6_fail kL_X6_48 (okX6_fail (l := l) e10) (by decide) rfl (obX6_fail e10) (Nat.le_of_ble_eq_true rfl) dX6_takeNumber_31 ?_
      refine q_to (ls' := [(3, .int x3), (0, .ref v0), (1, .int v1), (2, .int v2)]) (st' := []) rfl rfl ?_
      refine q_iload_n 2 rfl dX6_takeNumber_34 ?_
      exact q_iretH rfl rfl dX6_takeNumber_35 hyp
  · have hyp := q_pos c2 hyp
    refine q_aload_n 0 rfl dX6_takeNumber_8 ?_
    refine q_iconst (x := 1) rfl dX6_takeNumber_9 ?_
    refine q_bind hyp (fun h12 e13 hyp => ?_)
    refine q_callV (as := [.int 1]) (st := []) kY_X6_fail kL_X6_48 (okX6_fail (l := l) e13) (by decide) rfl (obX6_fail e13) (Nat.le_of_ble_eq_true rfl) dX6_takeNumber_10 ?_
    refine q_to (ls' := [(0, .ref v0), (1, .int v1), (2, .int v2)]) (st' := []) rfl rfl ?_
    refine q_iload_n 1 rfl dX6_takeNumber_13 ?_
    exact q_iretH rfl rfl dX6_takeNumber_14 hyp
theorem dX4_readMatter_0 : decode cX4_readMatter 0 = .ok (.aload_n 1, 1) := by decide +kernel
theorem dX4_readMatter_1 : decode cX4_readMatter 1 = .ok (.getfield 57, 3) := by decide +kernel
theorem dX4_readMatter_4 : decode cX4_readMatter 4 = .ok (.istore_n 2, 1) := by decide +kernel
theorem dX4_readMatter_5 : decode cX4_readMatter 5 = .ok (.iload_n 2, 1) := by decide +kernel
theorem dX4_readMatter_6 : decode cX4_readMatter 6 = .ok (.bipush 7, 2) := by decide +kernel
theorem dX4_readMatter_8 : decode cX4_readMatter 8 = .ok (.if_icmp .lt 12, 3) := by decide +kernel
theorem dX4_readMatter_11 : decode cX4_readMatter 11 = .ok (.aload_n 0, 1) := by decide +kernel
theorem dX4_readMatter_12 : decode cX4_readMatter 12 = .ok (.getfield 9, 3) := by decide +kernel
theorem dX4_readMatter_15 : decode cX4_readMatter 15 = .ok (.iconst 5, 1) := by decide +kernel
theorem dX4_readMatter_16 : decode cX4_readMatter 16 = .ok (.invokevirtual 47, 3) := by decide +kernel
theorem dX4_readMatter_19 : decode cX4_readMatter 19 = .ok (.return_, 1) := by decide +kernel
theorem dX4_readMatter_20 : decode cX4_readMatter 20 = .ok (.aload_n 0, 1) := by decide +kernel
theorem dX4_readMatter_21 : decode cX4_readMatter 21 = .ok (.getfield 9, 3) := by decide +kernel
theorem dX4_readMatter_24 : decode cX4_readMatter 24 = .ok (.invokevirtual 60, 3) := by decide +kernel
theorem dX4_readMatter_27 : decode cX4_readMatter 27 = .ok (.aload_n 1, 1) := by decide +kernel
theorem dX4_readMatter_28 : decode cX4_readMatter 28 = .ok (.getfield 63, 3) := by decide +kernel
theorem dX4_readMatter_31 : decode cX4_readMatter 31 = .ok (.iload_n 2, 1) := by decide +kernel
theorem dX4_readMatter_32 : decode cX4_readMatter 32 = .ok (.aload_n 0, 1) := by decide +kernel
theorem dX4_readMatter_33 : decode cX4_readMatter 33 = .ok (.aload_n 1, 1) := by decide +kernel
theorem dX4_readMatter_34 : decode cX4_readMatter 34 = .ok (.invokevirtual 67, 3) := by decide +kernel
theorem dX4_readMatter_37 : decode cX4_readMatter 37 = .ok (.lastore, 1) := by decide +kernel
theorem dX4_readMatter_38 : decode cX4_readMatter 38 = .ok (.aload_n 1, 1) := by decide +kernel
theorem dX4_readMatter_39 : decode cX4_readMatter 39 = .ok (.getfield 71, 3) := by decide +kernel
theorem dX4_readMatter_42 : decode cX4_readMatter 42 = .ok (.iload_n 2, 1) := by decide +kernel
theorem dX4_readMatter_43 : decode cX4_readMatter 43 = .ok (.aload_n 0, 1) := by decide +kernel
theorem dX4_readMatter_44 : decode cX4_readMatter 44 = .ok (.invokevirtual 75, 3) := by decide +kernel
theorem dX4_readMatter_47 : decode cX4_readMatter 47 = .ok (.iastore, 1) := by decide +kernel
theorem dX4_readMatter_48 : decode cX4_readMatter 48 = .ok (.aload_n 0, 1) := by decide +kernel
theorem dX4_readMatter_49 : decode cX4_readMatter 49 = .ok (.getfield 9, 3) := by decide +kernel
theorem dX4_readMatter_52 : decode cX4_readMatter 52 = .ok (.iconst 1, 1) := by decide +kernel
theorem dX4_readMatter_53 : decode cX4_readMatter 53 = .ok (.invokevirtual 78, 3) := by decide +kernel
theorem dX4_readMatter_56 : decode cX4_readMatter 56 = .ok (.aload_n 1, 1) := by decide +kernel
theorem dX4_readMatter_57 : decode cX4_readMatter 57 = .ok (.getfield 81, 3) := by decide +kernel
theorem dX4_readMatter_60 : decode cX4_readMatter 60 = .ok (.iload_n 2, 1) := by decide +kernel
theorem dX4_readMatter_61 : decode cX4_readMatter 61 = .ok (.aload_n 0, 1) := by decide +kernel
theorem dX4_readMatter_62 : decode cX4_readMatter 62 = .ok (.getfield 9, 3) := by decide +kernel
theorem dX4_readMatter_65 : decode cX4_readMatter 65 = .ok (.iconst 0, 1) := by decide +kernel
theorem dX4_readMatter_66 : decode cX4_readMatter 66 = .ok (.bipush 99, 2) := by decide +kernel
theorem dX4_readMatter_68 : decode cX4_readMatter 68 = .ok (.invokevirtual 84, 3) := by decide +kernel
theorem dX4_readMatter_71 : decode cX4_readMatter 71 = .ok (.iastore, 1) := by decide +kernel
theorem dX4_readMatter_72 : decode cX4_readMatter 72 = .ok (.aload_n 0, 1) := by decide +kernel
theorem dX4_readMatter_73 : decode cX4_readMatter 73 = .ok (.getfield 9, 3) := by decide +kernel
theorem dX4_readMatter_76 : decode cX4_readMatter 76 = .ok (.iconst 2, 1) := by decide +kernel
theorem dX4_readMatter_77 : decode cX4_readMatter 77 = .ok (.invokevirtual 78, 3) := by decide +kernel
theorem dX4_readMatter_80 : decode cX4_readMatter 80 = .ok (.aload_n 1, 1) := by decide +kernel
theorem dX4_readMatter_81 : decode cX4_readMatter 81 = .ok (.getfield 88, 3) := by decide +kernel
theorem dX4_readMatter_84 : decode cX4_readMatter 84 = .ok (.iload_n 2, 1) := by decide +kernel
theorem dX4_readMatter_85 : decode cX4_readMatter 85 = .ok (.aload_n 0, 1) := by decide +kernel
theorem dX4_readMatter_86 : decode cX4_readMatter 86 = .ok (.getfield 9, 3) := by decide +kernel
theorem dX4_readMatter_89 : decode cX4_readMatter 89 = .ok (.iconst 0, 1) := by decide +kernel
theorem dX4_readMatter_90 : decode cX4_readMatter 90 = .ok (.bipush 40, 2) := by decide +kernel
theorem dX4_readMatter_92 : decode cX4_readMatter 92 = .ok (.invokevirtual 84, 3) := by decide +kernel
theorem dX4_readMatter_95 : decode cX4_readMatter 95 = .ok (.iastore, 1) := by decide +kernel
theorem dX4_readMatter_96 : decode cX4_readMatter 96 = .ok (.aload_n 1, 1) := by decide +kernel
theorem dX4_readMatter_97 : decode cX4_readMatter 97 = .ok (.getfield 91, 3) := by decide +kernel
theorem dX4_readMatter_100 : decode cX4_readMatter 100 = .ok (.iload_n 2, 1) := by decide +kernel
theorem dX4_readMatter_101 : decode cX4_readMatter 101 = .ok (.iconst 0, 1) := by decide +kernel
theorem dX4_readMatter_102 : decode cX4_readMatter 102 = .ok (.iastore, 1) := by decide +kernel
theorem dX4_readMatter_103 : decode cX4_readMatter 103 = .ok (.aload_n 1, 1) := by decide +kernel
theorem dX4_readMatter_104 : decode cX4_readMatter 104 = .ok (.iload_n 2, 1) := by decide +kernel
theorem dX4_readMatter_105 : decode cX4_readMatter 105 = .ok (.iconst 1, 1) := by decide +kernel
theorem dX4_readMatter_106 : decode cX4_readMatter 106 = .ok (.iadd, 1) := by decide +kernel
theorem dX4_readMatter_107 : decode cX4_readMatter 107 = .ok (.putfield 57, 3) := by decide +kernel
theorem dX4_readMatter_110 : decode cX4_readMatter 110 = .ok (.return_, 1) := by decide +kernel
def fX4_readMatter (n : Nat) (v0 : Nat) (v1 : Nat) (h : qH) : Option (qH) :=
  (isO h v0 4).bind fun _ =>
  (gI h v1 5 6).bind fun x1 =>
  if x1 < 7 then
  ((gR h v0 4 0).bind fun x4 =>
  (fX6_advance n x4 h).bind fun h6 =>
  (gR h6 v1 5 0).bind fun x7 =>
  (fX4_takeNewName n v0 v1 h6).bind fun p9 =>
  (sL p9.2 x7 x1 p9.1).bind fun h10 =>
  (gR h10 v1 5 1).bind fun x12 =>
  (fX4_takeKind n v0 h10).bind fun p14 =>
  (sI .int p14.2 x12 x1 p14.1).bind fun h15 =>
  (gR h15 v0 4 0).bind fun x17 =>
  (fX6_takeKey n x17 1 h15).bind fun h19 =>
  (gR h19 v1 5 2).bind fun x20 =>
  (gR h19 v0 4 0).bind fun x22 =>
  (fX6_takeNumber n x22 0 99 h19).bind fun p24 =>
  (sI .int p24.2 x20 x1 p24.1).bind fun h25 =>
  (gR h25 v0 4 0).bind fun x27 =>
  (fX6_takeKey n x27 2 h25).bind fun h29 =>
  (gR h29 v1 5 3).bind fun x30 =>
  (gR h29 v0 4 0).bind fun x32 =>
  (fX6_takeNumber n x32 0 40 h29).bind fun p34 =>
  (sI .int p34.2 x30 x1 p34.1).bind fun h35 =>
  (gR h35 v1 5 4).bind fun x37 =>
  (sI .int h35 x37 x1 0).bind fun h39 =>
  (pF h39 v1 5 6 (.int (x1 + 1))).bind fun h41 =>
  some h41)
  else
  ((gR h v0 4 0).bind fun x50 =>
  (fX6_fail x50 5 h).bind fun h52 =>
  some h52)
theorem obX4_readMatter {n : Nat} {v0 : Nat} {v1 : Nat} {h : qH} {p : qH} (hyp : fX4_readMatter n v0 v1 h = some p) : ∃ fs, h.1 v0 = some (.inr (4, fs)) := by
  unfold fX4_readMatter at hyp
  exact q_bind hyp (fun _ e _ => isO_some e)
set_option maxHeartbeats 4000000 in
set_option maxRecDepth 100000 in
theorem okX4_readMatter {l : Launch} {n : Nat} {v0 : Nat} {v1 : Nat} {h : qH} {h' : qH} (hyp : fX4_readMatter n v0 v1 h = some h') : q_M l 12 yX4_readMatter cX4_readMatter 3 none [.ref v0, .ref v1] h none h' := by
  unfold fX4_readMatter at hyp
  refine q_bind hyp (fun _ _ hyp => ?_)
  refine q_M.of (by decide) (Nat.le_of_ble_eq_true rfl) ?_
  refine q_to (ls' := [(0, .ref v0), (1, .ref v1)]) (st' := []) rfl rfl ?_
  refine q_aload_n 1 rfl dX4_readMatter_0 ?_
  refine q_bind hyp (fun x1 e2 hyp => ?_)
  refine q_getI kF_X4_57 dX4_readMatter_1 e2 ?_
  refine q_istore_n (ls' := [(2, .int x1), (0, .ref v0), (1, .ref v1)]) (by decide) rfl dX4_readMatter_4 ?_
  refine q_iload_n 0 rfl dX4_readMatter_5 ?_
  refine q_bipush (x := 7) (by decide) dX4_readMatter_6 ?_
  refine q_icmp_lt (tgt := 20) dX4_readMatter_8 (by decide) (fun c3 => ?_) (fun c3 => ?_)
  · have hyp := q_pos c3 hyp
    refine q_aload_n 1 rfl dX4_readMatter_20 ?_
    refine q_bind hyp (fun x4 e5 hyp => ?_)
    refine q_getR kF_X4_9 dX4_readMatter_21 e5 ?_
    refine q_bind hyp (fun h6 e49 hyp => ?_)
    refine q_callV (as := []) (st := []) kY_X6_advance kL_X4_60 (okX6_advance (l := l) e49) (by decide) rfl (obX6_advance e49) (Nat.le_of_ble_eq_true rfl) dX4_readMatter_24 ?_
    refine q_to (ls' := [(2, .int x1), (0, .ref v0), (1, .ref v1)]) (st' := []) rfl rfl ?_
    refine q_aload_n 2 rfl dX4_readMatter_27 ?_
    refine q_bind hyp (fun x7 e8 hyp => ?_)
    refine q_getR kF_X4_63 dX4_readMatter_28 e8 ?_
    refine q_iload_n 0 rfl dX4_readMatter_31 ?_
    refine q_aload_n 1 rfl dX4_readMatter_32 ?_
    refine q_aload_n 2 rfl dX4_readMatter_33 ?_
    refine q_bind hyp (fun p9 e48 hyp => ?_)
    refine q_callV (as := [.ref v1]) (st := [.int x1, .ref x7]) kY_X4_takeNewName kL_X4_67 (okX4_takeNewName (l := l) e48) (by decide) rfl (obX4_takeNewName e48) (Nat.le_of_ble_eq_true rfl) dX4_readMatter_34 ?_
    refine q_to (ls' := [(2, .int x1), (0, .ref v0), (1, .ref v1)]) (st' := [.long p9.1, .int x1, .ref x7]) rfl rfl ?_
    refine q_bind hyp (fun h10 e11 hyp => ?_)
    refine q_last dX4_readMatter_37 e11 ?_
    refine q_aload_n 2 rfl dX4_readMatter_38 ?_
    refine q_bind hyp (fun x12 e13 hyp => ?_)
    refine q_getR kF_X4_71 dX4_readMatter_39 e13 ?_
    refine q_iload_n 0 rfl dX4_readMatter_42 ?_
    refine q_aload_n 1 rfl dX4_readMatter_43 ?_
    refine q_bind hyp (fun p14 e47 hyp => ?_)
    refine q_callV (as := []) (st := [.int x1, .ref x12]) kY_X4_takeKind kL_X4_75 (okX4_takeKind (l := l) e47) (by decide) rfl (obX4_takeKind e47) (Nat.le_of_ble_eq_true rfl) dX4_readMatter_44 ?_
    refine q_to (ls' := [(2, .int x1), (0, .ref v0), (1, .ref v1)]) (st' := [.int p14.1, .int x1, .ref x12]) rfl rfl ?_
    refine q_bind hyp (fun h15 e16 hyp => ?_)
    refine q_iast dX4_readMatter_47 e16 ?_
    refine q_aload_n 1 rfl dX4_readMatter_48 ?_
    refine q_bind hyp (fun x17 e18 hyp => ?_)
    refine q_getR kF_X4_9 dX4_readMatter_49 e18 ?_
    refine q_iconst (x := 1) rfl dX4_readMatter_52 ?_
    refine q_bind hyp (fun h19 e46 hyp => ?_)
    refine q_callV (as := [.int 1]) (st := []) kY_X6_takeKey kL_X4_78 (okX6_takeKey (l := l) e46) (by decide) rfl (obX6_takeKey e46) (Nat.le_of_ble_eq_true rfl) dX4_readMatter_53 ?_
    refine q_to (ls' := [(2, .int x1), (0, .ref v0), (1, .ref v1)]) (st' := []) rfl rfl ?_
    refine q_aload_n 2 rfl dX4_readMatter_56 ?_
    refine q_bind hyp (fun x20 e21 hyp => ?_)
    refine q_getR kF_X4_81 dX4_readMatter_57 e21 ?_
    refine q_iload_n 0 rfl dX4_readMatter_60 ?_
    refine q_aload_n 1 rfl dX4_readMatter_61 ?_
    refine q_bind hyp (fun x22 e23 hyp => ?_)
    refine q_getR kF_X4_9 dX4_readMatter_62 e23 ?_
    refine q_iconst (x := 0) rfl dX4_readMatter_65 ?_
    refine q_bipush (x := 99) (by decide) dX4_readMatter_66 ?_
    refine q_bind hyp (fun p24 e45 hyp => ?_)
    refine q_callV (as := [.int 0, .int 99]) (st := [.int x1, .ref x20]) kY_X6_takeNumber kL_X4_84 (okX6_takeNumber (l := l) e45) (by decide) rfl (obX6_takeNumber e45) (Nat.le_of_ble_eq_true rfl) dX4_readMatter_68 ?_
    refine q_to (ls' := [(2, .int x1), (0, .ref v0), (1, .ref v1)]) (st' := [.int p24.1, .int x1, .ref x20]) rfl rfl ?_
    refine q_bind hyp (fun h25 e26 hyp => ?_)
    refine q_iast dX4_readMatter_71 e26 ?_
    refine q_aload_n 1 rfl dX4_readMatter_72 ?_
    refine q_bind hyp (fun x27 e28 hyp => ?_)
    refine q_getR kF_X4_9 dX4_readMatter_73 e28 ?_
    refine q_iconst (x := 2) rfl dX4_readMatter_76 ?_
    refine q_bind hyp (fun h29 e44 hyp => ?_)
    refine q_callV (as := [.int 2]) (st := []) kY_X6_takeKey kL_X4_78 (okX6_takeKey (l := l) e44) (by decide) rfl (obX6_takeKey e44) (Nat.le_of_ble_eq_true rfl) dX4_readMatter_77 ?_
    refine q_to (ls' := [(2, .int x1), (0, .ref v0), (1, .ref v1)]) (st' := []) rfl rfl ?_
    refine q_aload_n 2 rfl dX4_readMatter_80 ?_
    refine q_bind hyp (fun x30 e31 hyp => ?_)
    refine q_getR kF_X4_88 dX4_readMatter_81 e31 ?_
    refine q_iload_n 0 rfl dX4_readMatter_84 ?_
    refine q_aload_n 1 rfl dX4_readMatter_85 ?_
    refine q_bind hyp (fun x32 e33 hyp => ?_)
    refine q_getR kF_X4_9 dX4_readMatter_86 e33 ?_
    refine q_iconst (x := 0) rfl dX4_readMatter_89 ?_
    refine q_bipush (x := 40) (by decide) dX4_readMatter_90 ?_
    refine q_bind hyp (fun p34 e43 hyp => ?_)
    refine q_callV (as := [.int 0, .int 40]) (st := [.int x1, .ref x30]) kY_X6_takeNumber kL_X4_84 (okX6_takeNumber (l := l) e43) (by decide) rfl (obX6_takeNumber e43) (Nat.le_of_ble_eq_true rfl) dX4_readMatter_92 ?_
    refine q_to (ls' := [(2, .int x1), (0, .ref v0), (1, .ref v1)]) (st' := [.int p34.1, .int x1, .ref x30]) rfl rfl ?_
    refine q_bind hyp (fun h35 e36 hyp => ?_)
    refine q_iast dX4_readMatter_95 e36 ?_
    refine q_aload_n 2 rfl dX4_readMatter_96 ?_
    refine q_bind hyp (fun x37 e38 hyp => ?_)
    refine q_getR kF_X4_91 dX4_readMatter_97 e38 ?_
    refine q_iload_n 0 rfl dX4_readMatter_100 ?_
    refine q_iconst (x := 0) rfl dX4_readMatter_101 ?_
    refine q_bind hyp (fun h39 e40 hyp => ?_)
    refine q_iast dX4_readMatter_102 e40 ?_
    refine q_aload_n 2 rfl dX4_readMatter_103 ?_
    refine q_iload_n 0 rfl dX4_readMatter_104 ?_
    refine q_iconst (x := 1) rfl dX4_readMatter_105 ?_
    refine q_iadd dX4_readMatter_106 ?_
    refine q_bind hyp (fun h41 e42 hyp => ?_)
    refine q_putF kF_X4_57 (fun _ => ⟨rfl, rfl⟩) dX4_readMatter_107 e42 ?_
    exact q_vretH rfl dX4_readMatter_110 hyp
  · have hyp := q_neg c3 hyp
    refine q_aload_n 1 rfl dX4_readMatter_11 ?_
    refine q_bind hyp (fun x50 e51 hyp => ?_)
    refine q_getR kF_X4_9 dX4_readMatter_12 e51 ?_
    refine q_iconst (x := 5) rfl dX4_readMatter_15 ?_
    refine q_bind hyp (fun h52 e53 hyp => ?_)
    refine q_callV (as := [.int 5]) (st := []) kY_X6_fail kL_X4_47 (okX6_fail (l := l) e53) (by decide) rfl (obX6_fail e53) (Nat.le_of_ble_eq_true rfl) dX4_readMatter_16 ?_
    refine q_to (ls' := [(2, .int x1), (0, .ref v0), (1, .ref v1)]) (st' := []) rfl rfl ?_
    exact q_vretH rfl dX4_readMatter_19 hyp
theorem dX6_takeSign_0 : decode cX6_takeSign 0 = .ok (.aload_n 0, 1) := by decide +kernel
theorem dX6_takeSign_1 : decode cX6_takeSign 1 = .ok (.iload_n 1, 1) := by decide +kernel
theorem dX6_takeSign_2 : decode cX6_takeSign 2 = .ok (.invokevirtual 38, 3) := by decide +kernel
theorem dX6_takeSign_5 : decode cX6_takeSign 5 = .ok (.ifCond .eq 10, 3) := by decide +kernel
theorem dX6_takeSign_8 : decode cX6_takeSign 8 = .ok (.aload_n 0, 1) := by decide +kernel
theorem dX6_takeSign_9 : decode cX6_takeSign 9 = .ok (.invokevirtual 29, 3) := by decide +kernel
theorem dX6_takeSign_12 : decode cX6_takeSign 12 = .ok (.goto 8, 3) := by decide +kernel
theorem dX6_takeSign_15 : decode cX6_takeSign 15 = .ok (.aload_n 0, 1) := by decide +kernel
theorem dX6_takeSign_16 : decode cX6_takeSign 16 = .ok (.iconst 1, 1) := by decide +kernel
theorem dX6_takeSign_17 : decode cX6_takeSign 17 = .ok (.invokevirtual 48, 3) := by decide +kernel
theorem dX6_takeSign_20 : decode cX6_takeSign 20 = .ok (.return_, 1) := by decide +kernel
def fX6_takeSign (n : Nat) (v0 : Nat) (v1 : Int32) (h : qH) : Option (qH) :=
  (isO h v0 6).bind fun _ =>
  (fX6_isType v0 v1 h).bind fun p1 =>
  if p1.1 = 0 then
  ((fX6_fail v0 1 p1.2).bind fun h3 =>
  some h3)
  else
  ((fX6_advance n v0 p1.2).bind fun h5 =>
  some h5)
theorem obX6_takeSign {n : Nat} {v0 : Nat} {v1 : Int32} {h : qH} {p : qH} (hyp : fX6_takeSign n v0 v1 h = some p) : ∃ fs, h.1 v0 = some (.inr (6, fs)) := by
  unfold fX6_takeSign at hyp
  exact q_bind hyp (fun _ e _ => isO_some e)
set_option maxHeartbeats 4000000 in
set_option maxRecDepth 100000 in
theorem okX6_takeSign {l : Launch} {n : Nat} {v0 : Nat} {v1 : Int32} {h : qH} {h' : qH} (hyp : fX6_takeSign n v0 v1 h = some h') : q_M l 11 yX6_takeSign cX6_takeSign 2 none [.ref v0, .int v1] h none h' := by
  unfold fX6_takeSign at hyp
  refine q_bind hyp (fun _ _ hyp => ?_)
  refine q_M.of (by decide) (Nat.le_of_ble_eq_true rfl) ?_
  refine q_to (ls' := [(0, .ref v0), (1, .int v1)]) (st' := []) rfl rfl ?_
  refine q_aload_n 0 rfl dX6_takeSign_0 ?_
  refine q_iload_n 1 rfl dX6_takeSign_1 ?_
  refine q_bind hyp (fun p1 e7 hyp => ?_)
  refine q_callV (as := [.int v1]) (st := []) kY_X6_isType kL_X6_38 (okX6_isType (l := l) e7) (by decide) rfl (obX6_isType e7) (Nat.le_of_ble_eq_true rfl) dX6_takeSign_2 ?_
  refine q_to (ls' := [(0, .ref v0), (1, .int v1)]) (st' := [.int p1.1]) rfl rfl ?_
  refine q_if_eq (tgt := 15) dX6_takeSign_5 (by decide) (fun c2 => ?_) (fun c2 => ?_)
  · have hyp := q_pos c2 hyp
    refine q_aload_n 0 rfl dX6_takeSign_15 ?_
    refine q_iconst (x := 1) rfl dX6_takeSign_16 ?_
    refine q_bind hyp (fun h3 e4 hyp => ?_)
    refine q_callV (as := [.int 1]) (st := []) kY_X6_fail kL_X6_48 (okX6_fail (l := l) e4) (by decide) rfl (obX6_fail e4) (Nat.le_of_ble_eq_true rfl) dX6_takeSign_17 ?_
    refine q_to (ls' := [(0, .ref v0), (1, .int v1)]) (st' := []) rfl rfl ?_
    exact q_vretH rfl dX6_takeSign_20 hyp
  · have hyp := q_neg c2 hyp
    refine q_aload_n 0 rfl dX6_takeSign_8 ?_
    refine q_bind hyp (fun h5 e6 hyp => ?_)
    refine q_callV (as := []) (st := []) kY_X6_advance kL_X6_29 (okX6_advance (l := l) e6) (by decide) rfl (obX6_advance e6) (Nat.le_of_ble_eq_true rfl) dX6_takeSign_9 ?_
    refine q_to (ls' := [(0, .ref v0), (1, .int v1)]) (st' := []) rfl rfl ?_
    refine q_goto (tgt := 20) dX6_takeSign_12 (by decide) ?_
    exact q_vretH rfl dX6_takeSign_20 hyp
theorem dX4_readPart_0 : decode cX4_readPart 0 = .ok (.aload_n 0, 1) := by decide +kernel
theorem dX4_readPart_1 : decode cX4_readPart 1 = .ok (.getfield 9, 3) := by decide +kernel
theorem dX4_readPart_4 : decode cX4_readPart 4 = .ok (.invokevirtual 32, 3) := by decide +kernel
theorem dX4_readPart_7 : decode cX4_readPart 7 = .ok (.bipush 18, 2) := by decide +kernel
theorem dX4_readPart_9 : decode cX4_readPart 9 = .ok (.bipush 21, 2) := by decide +kernel
theorem dX4_readPart_11 : decode cX4_readPart 11 = .ok (.invokestatic 106, 3) := by decide +kernel
theorem dX4_readPart_14 : decode cX4_readPart 14 = .ok (.istore_n 3, 1) := by decide +kernel
theorem dX4_readPart_15 : decode cX4_readPart 15 = .ok (.iload_n 3, 1) := by decide +kernel
theorem dX4_readPart_16 : decode cX4_readPart 16 = .ok (.ifCond .ne 49, 3) := by decide +kernel
theorem dX4_readPart_19 : decode cX4_readPart 19 = .ok (.aload_n 0, 1) := by decide +kernel
theorem dX4_readPart_20 : decode cX4_readPart 20 = .ok (.getfield 9, 3) := by decide +kernel
theorem dX4_readPart_23 : decode cX4_readPart 23 = .ok (.iconst 3, 1) := by decide +kernel
theorem dX4_readPart_24 : decode cX4_readPart 24 = .ok (.invokevirtual 169, 3) := by decide +kernel
theorem dX4_readPart_27 : decode cX4_readPart 27 = .ok (.ifCond .ne 38, 3) := by decide +kernel
theorem dX4_readPart_30 : decode cX4_readPart 30 = .ok (.aload_n 0, 1) := by decide +kernel
theorem dX4_readPart_31 : decode cX4_readPart 31 = .ok (.getfield 9, 3) := by decide +kernel
theorem dX4_readPart_34 : decode cX4_readPart 34 = .ok (.bipush 15, 2) := by decide +kernel
theorem dX4_readPart_36 : decode cX4_readPart 36 = .ok (.invokevirtual 157, 3) := by decide +kernel
theorem dX4_readPart_39 : decode cX4_readPart 39 = .ok (.ifCond .ne 26, 3) := by decide +kernel
theorem dX4_readPart_42 : decode cX4_readPart 42 = .ok (.aload_n 0, 1) := by decide +kernel
theorem dX4_readPart_43 : decode cX4_readPart 43 = .ok (.getfield 9, 3) := by decide +kernel
theorem dX4_readPart_46 : decode cX4_readPart 46 = .ok (.bipush 40, 2) := by decide +kernel
theorem dX4_readPart_48 : decode cX4_readPart 48 = .ok (.invokevirtual 169, 3) := by decide +kernel
theorem dX4_readPart_51 : decode cX4_readPart 51 = .ok (.ifCond .ne 14, 3) := by decide +kernel
theorem dX4_readPart_54 : decode cX4_readPart 54 = .ok (.aload_n 0, 1) := by decide +kernel
theorem dX4_readPart_55 : decode cX4_readPart 55 = .ok (.getfield 9, 3) := by decide +kernel
theorem dX4_readPart_58 : decode cX4_readPart 58 = .ok (.iconst 1, 1) := by decide +kernel
theorem dX4_readPart_59 : decode cX4_readPart 59 = .ok (.invokevirtual 47, 3) := by decide +kernel
theorem dX4_readPart_62 : decode cX4_readPart 62 = .ok (.goto 131, 3) := by decide +kernel
theorem dX4_readPart_65 : decode cX4_readPart 65 = .ok (.iload_n 2, 1) := by decide +kernel
theorem dX4_readPart_66 : decode cX4_readPart 66 = .ok (.iconst 5, 1) := by decide +kernel
theorem dX4_readPart_67 : decode cX4_readPart 67 = .ok (.if_icmp .lt 14, 3) := by decide +kernel
theorem dX4_readPart_70 : decode cX4_readPart 70 = .ok (.aload_n 0, 1) := by decide +kernel
theorem dX4_readPart_71 : decode cX4_readPart 71 = .ok (.getfield 9, 3) := by decide +kernel
theorem dX4_readPart_74 : decode cX4_readPart 74 = .ok (.iconst 5, 1) := by decide +kernel
theorem dX4_readPart_75 : decode cX4_readPart 75 = .ok (.invokevirtual 47, 3) := by decide +kernel
theorem dX4_readPart_78 : decode cX4_readPart 78 = .ok (.goto 115, 3) := by decide +kernel
theorem dX4_readPart_81 : decode cX4_readPart 81 = .ok (.aload_n 0, 1) := by decide +kernel
theorem dX4_readPart_82 : decode cX4_readPart 82 = .ok (.getfield 9, 3) := by decide +kernel
theorem dX4_readPart_85 : decode cX4_readPart 85 = .ok (.bipush 40, 2) := by decide +kernel
theorem dX4_readPart_87 : decode cX4_readPart 87 = .ok (.invokevirtual 169, 3) := by decide +kernel
theorem dX4_readPart_90 : decode cX4_readPart 90 = .ok (.ifCond .eq 30, 3) := by decide +kernel
theorem dX4_readPart_93 : decode cX4_readPart 93 = .ok (.aload_n 0, 1) := by decide +kernel
theorem dX4_readPart_94 : decode cX4_readPart 94 = .ok (.getfield 9, 3) := by decide +kernel
theorem dX4_readPart_97 : decode cX4_readPart 97 = .ok (.invokevirtual 60, 3) := by decide +kernel
theorem dX4_readPart_100 : decode cX4_readPart 100 = .ok (.aload_n 0, 1) := by decide +kernel
theorem dX4_readPart_101 : decode cX4_readPart 101 = .ok (.aload_n 1, 1) := by decide +kernel
theorem dX4_readPart_102 : decode cX4_readPart 102 = .ok (.iload_n 2, 1) := by decide +kernel
theorem dX4_readPart_103 : decode cX4_readPart 103 = .ok (.iconst 1, 1) := by decide +kernel
theorem dX4_readPart_104 : decode cX4_readPart 104 = .ok (.iadd, 1) := by decide +kernel
theorem dX4_readPart_105 : decode cX4_readPart 105 = .ok (.invokevirtual 136, 3) := by decide +kernel
theorem dX4_readPart_108 : decode cX4_readPart 108 = .ok (.aload_n 0, 1) := by decide +kernel
theorem dX4_readPart_109 : decode cX4_readPart 109 = .ok (.getfield 9, 3) := by decide +kernel
theorem dX4_readPart_112 : decode cX4_readPart 112 = .ok (.bipush 41, 2) := by decide +kernel
theorem dX4_readPart_114 : decode cX4_readPart 114 = .ok (.invokevirtual 51, 3) := by decide +kernel
theorem dX4_readPart_117 : decode cX4_readPart 117 = .ok (.goto 76, 3) := by decide +kernel
theorem dX4_readPart_120 : decode cX4_readPart 120 = .ok (.aload_n 0, 1) := by decide +kernel
theorem dX4_readPart_121 : decode cX4_readPart 121 = .ok (.getfield 9, 3) := by decide +kernel
theorem dX4_readPart_124 : decode cX4_readPart 124 = .ok (.bipush 15, 2) := by decide +kernel
theorem dX4_readPart_126 : decode cX4_readPart 126 = .ok (.invokevirtual 157, 3) := by decide +kernel
theorem dX4_readPart_129 : decode cX4_readPart 129 = .ok (.ifCond .eq 28, 3) := by decide +kernel
theorem dX4_readPart_132 : decode cX4_readPart 132 = .ok (.aload_n 0, 1) := by decide +kernel
theorem dX4_readPart_133 : decode cX4_readPart 133 = .ok (.getfield 9, 3) := by decide +kernel
theorem dX4_readPart_136 : decode cX4_readPart 136 = .ok (.invokevirtual 60, 3) := by decide +kernel
theorem dX4_readPart_139 : decode cX4_readPart 139 = .ok (.aload_n 0, 1) := by decide +kernel
theorem dX4_readPart_140 : decode cX4_readPart 140 = .ok (.aload_n 1, 1) := by decide +kernel
theorem dX4_readPart_141 : decode cX4_readPart 141 = .ok (.iload_n 2, 1) := by decide +kernel
theorem dX4_readPart_142 : decode cX4_readPart 142 = .ok (.iconst 1, 1) := by decide +kernel
theorem dX4_readPart_143 : decode cX4_readPart 143 = .ok (.iadd, 1) := by decide +kernel
theorem dX4_readPart_144 : decode cX4_readPart 144 = .ok (.invokevirtual 175, 3) := by decide +kernel
theorem dX4_readPart_147 : decode cX4_readPart 147 = .ok (.aload_n 1, 1) := by decide +kernel
theorem dX4_readPart_148 : decode cX4_readPart 148 = .ok (.sipush 10015, 3) := by decide +kernel
theorem dX4_readPart_151 : decode cX4_readPart 151 = .ok (.invokevirtual 164, 3) := by decide +kernel
theorem dX4_readPart_154 : decode cX4_readPart 154 = .ok (.goto 39, 3) := by decide +kernel
theorem dX4_readPart_157 : decode cX4_readPart 157 = .ok (.aload_n 1, 1) := by decide +kernel
theorem dX4_readPart_158 : decode cX4_readPart 158 = .ok (.iload_n 3, 1) := by decide +kernel
theorem dX4_readPart_159 : decode cX4_readPart 159 = .ok (.ifCond .eq 17, 3) := by decide +kernel
theorem dX4_readPart_162 : decode cX4_readPart 162 = .ok (.sipush 10000, 3) := by decide +kernel
theorem dX4_readPart_165 : decode cX4_readPart 165 = .ok (.aload_n 0, 1) := by decide +kernel
theorem dX4_readPart_166 : decode cX4_readPart 166 = .ok (.getfield 9, 3) := by decide +kernel
theorem dX4_readPart_169 : decode cX4_readPart 169 = .ok (.getfield 161, 3) := by decide +kernel
theorem dX4_readPart_172 : decode cX4_readPart 172 = .ok (.iadd, 1) := by decide +kernel
theorem dX4_readPart_173 : decode cX4_readPart 173 = .ok (.goto 10, 3) := by decide +kernel
theorem dX4_readPart_176 : decode cX4_readPart 176 = .ok (.aload_n 0, 1) := by decide +kernel
theorem dX4_readPart_177 : decode cX4_readPart 177 = .ok (.getfield 9, 3) := by decide +kernel
theorem dX4_readPart_180 : decode cX4_readPart 180 = .ok (.getfield 178, 3) := by decide +kernel
theorem dX4_readPart_183 : decode cX4_readPart 183 = .ok (.invokevirtual 164, 3) := by decide +kernel
theorem dX4_readPart_186 : decode cX4_readPart 186 = .ok (.aload_n 0, 1) := by decide +kernel
theorem dX4_readPart_187 : decode cX4_readPart 187 = .ok (.getfield 9, 3) := by decide +kernel
theorem dX4_readPart_190 : decode cX4_readPart 190 = .ok (.invokevirtual 60, 3) := by decide +kernel
theorem dX4_readPart_193 : decode cX4_readPart 193 = .ok (.return_, 1) := by decide +kernel
def fX4_readPart_b183 (RX4_readE : Nat → Nat → Int32 → qH → Option (qH)) (RX4_readPart : Nat → Nat → Int32 → qH → Option (qH)) (n : Nat) (v0 : Nat) (s0 : Int32) (s1 : Nat) (h : qH) : Option (qH) :=
  (fX1_add s1 s0 h).bind fun h1 =>
  (gR h1 v0 4 0).bind fun x2 =>
  (fX6_advance n x2 h1).bind fun h4 =>
  some h4
set_option maxHeartbeats 4000000 in
set_option maxRecDepth 100000 in
theorem okX4_readPart_b183 {l : Launch} {RX4_readE : Nat → Nat → Int32 → qH → Option (qH)} {RX4_readPart : Nat → Nat → Int32 → qH → Option (qH)} {dR0 dR1 d : Nat} {n : Nat} {v0 : Nat} {s0 : Int32} {s1 : Nat} {h : qH} {h' : qH} (hRX4_readE : ∀ {v0 : Nat} {v1 : Nat} {v2 : Int32} {h : qH} {p : qH}, RX4_readE v0 v1 v2 h = some p → q_M l dR0 yX4_readE cX4_readE 5 none [.ref v0, .ref v1, .int v2] h none p ∧ ∃ fs, h.1 v0 = some (.inr (4, fs))) (hRX4_readPart : ∀ {v0 : Nat} {v1 : Nat} {v2 : Int32} {h : qH} {p : qH}, RX4_readPart v0 v1 v2 h = some p → q_M l dR1 yX4_readPart cX4_readPart 4 none [.ref v0, .ref v1, .int v2] h none p ∧ ∃ fs, h.1 v0 = some (.inr (4, fs))) (hd1_0 : dR0 + 1 ≤ d) (hd1_1 : dR1 + 1 ≤ d) (hd2 : 12 ≤ d) (hyp : fX4_readPart_b183 RX4_readE RX4_readPart n v0 s0 s1 h = some h') : q_W l d yX4_readPart cX4_readPart 4 none none h' 183 [(0, .ref v0)] [.int s0, .ref s1] h := by
  unfold fX4_readPart_b183 at hyp
  refine q_bind hyp (fun h1 e6 hyp => ?_)
  refine q_callV (as := [.int s0]) (st := []) kY_X1_add kL_X4_164 (okX1_add (l := l) e6) (Nat.le_trans (by decide) hd2) rfl (obX1_add e6) (Nat.le_of_ble_eq_true rfl) dX4_readPart_183 ?_
  refine q_to (ls' := [(0, .ref v0)]) (st' := []) rfl rfl ?_
  refine q_aload_n 0 rfl dX4_readPart_186 ?_
  refine q_bind hyp (fun x2 e3 hyp => ?_)
  refine q_getR kF_X4_9 dX4_readPart_187 e3 ?_
  refine q_bind hyp (fun h4 e5 hyp => ?_)
  refine q_callV (as := []) (st := []) kY_X6_advance kL_X4_60 (okX6_advance (l := l) e5) (Nat.le_trans (by decide) hd2) rfl (obX6_advance e5) (Nat.le_of_ble_eq_true rfl) dX4_readPart_190 ?_
  refine q_to (ls' := [(0, .ref v0)]) (st' := []) rfl rfl ?_
  exact q_vretH rfl dX4_readPart_193 hyp
def fX4_readPart_b65 (RX4_readE : Nat → Nat → Int32 → qH → Option (qH)) (RX4_readPart : Nat → Nat → Int32 → qH → Option (qH)) (n : Nat) (v0 : Nat) (v1 : Nat) (v2 : Int32) (v3 : Int32) (h : qH) : Option (qH) :=
  if v2 < 5 then
  ((gR h v0 4 0).bind fun x2 =>
  (fX6_isType x2 40 h).bind fun p4 =>
  if p4.1 = 0 then
  ((gR p4.2 v0 4 0).bind fun x6 =>
  (fX6_isKey x6 15 p4.2).bind fun p8 =>
  if p8.1 = 0 then
  (if v3 = 0 then
  ((gR p8.2 v0 4 0).bind fun x11 =>
  (gI p8.2 x11 6 5).bind fun x13 =>
  fX4_readPart_b183 RX4_readE RX4_readPart n v0 x13 v1 p8.2)
  else
  ((gR p8.2 v0 4 0).bind fun x15 =>
  (gI p8.2 x15 6 7).bind fun x17 =>
  fX4_readPart_b183 RX4_readE RX4_readPart n v0 (10000 + x17) v1 p8.2))
  else
  ((gR p8.2 v0 4 0).bind fun x19 =>
  (fX6_advance n x19 p8.2).bind fun h21 =>
  (RX4_readPart v0 v1 (v2 + 1) h21).bind fun h22 =>
  (fX1_add v1 10015 h22).bind fun h23 =>
  some h23))
  else
  ((gR p4.2 v0 4 0).bind fun x28 =>
  (fX6_advance n x28 p4.2).bind fun h30 =>
  (RX4_readE v0 v1 (v2 + 1) h30).bind fun h31 =>
  (gR h31 v0 4 0).bind fun x32 =>
  (fX6_takeSign n x32 41 h31).bind fun h34 =>
  some h34))
  else
  ((gR h v0 4 0).bind fun x39 =>
  (fX6_fail x39 5 h).bind fun h41 =>
  some h41)
set_option maxHeartbeats 4000000 in
set_option maxRecDepth 100000 in
theorem okX4_readPart_b65 {l : Launch} {RX4_readE : Nat → Nat → Int32 → qH → Option (qH)} {RX4_readPart : Nat → Nat → Int32 → qH → Option (qH)} {dR0 dR1 d : Nat} {n : Nat} {v0 : Nat} {v1 : Nat} {v2 : Int32} {v3 : Int32} {h : qH} {h' : qH} (hRX4_readE : ∀ {v0 : Nat} {v1 : Nat} {v2 : Int32} {h : qH} {p : qH}, RX4_readE v0 v1 v2 h = some p → q_M l dR0 yX4_readE cX4_readE 5 none [.ref v0, .ref v1, .int v2] h none p ∧ ∃ fs, h.1 v0 = some (.inr (4, fs))) (hRX4_readPart : ∀ {v0 : Nat} {v1 : Nat} {v2 : Int32} {h : qH} {p : qH}, RX4_readPart v0 v1 v2 h = some p → q_M l dR1 yX4_readPart cX4_readPart 4 none [.ref v0, .ref v1, .int v2] h none p ∧ ∃ fs, h.1 v0 = some (.inr (4, fs))) (hd1_0 : dR0 + 1 ≤ d) (hd1_1 : dR1 + 1 ≤ d) (hd2 : 12 ≤ d) (hyp : fX4_readPart_b65 RX4_readE RX4_readPart n v0 v1 v2 v3 h = some h') : q_W l d yX4_readPart cX4_readPart 4 none none h' 65 [(0, .ref v0), (1, .ref v1), (2, .int v2), (3, .int v3)] [] h := by
  unfold fX4_readPart_b65 at hyp
  refine q_iload_n 2 rfl dX4_readPart_65 ?_
  refine q_iconst (x := 5) rfl dX4_readPart_66 ?_
  refine q_icmp_lt (tgt := 81) dX4_readPart_67 (by decide) (fun c1 => ?_) (fun c1 => ?_)
  · have hyp := q_pos c1 hyp
    refine q_aload_n 0 rfl dX4_readPart_81 ?_
    refine q_bind hyp (fun x2 e3 hyp => ?_)
    refine q_getR kF_X4_9 dX4_readPart_82 e3 ?_
    refine q_bipush (x := 40) (by decide) dX4_readPart_85 ?_
    refine q_bind hyp (fun p4 e38 hyp => ?_)
    refine q_callV (as := [.int 40]) (st := []) kY_X6_isType kL_X4_169 (okX6_isType (l := l) e38) (Nat.le_trans (by decide) hd2) rfl (obX6_isType e38) (Nat.le_of_ble_eq_true rfl) dX4_readPart_87 ?_
    refine q_to (ls' := [(0, .ref v0), (1, .ref v1), (2, .int v2), (3, .int v3)]) (st' := [.int p4.1]) rfl rfl ?_
    refine q_if_eq (tgt := 120) dX4_readPart_90 (by decide) (fun c5 => ?_) (fun c5 => ?_)
    · have hyp := q_pos c5 hyp
      refine q_aload_n 0 rfl dX4_readPart_120 ?_
      refine q_bind hyp (fun x6 e7 hyp => ?_)
      refine q_getR kF_X4_9 dX4_readPart_121 e7 ?_
      refine q_bipush (x := 15) (by decide) dX4_readPart_124 ?_
      refine q_bind hyp (fun p8 e27 hyp => ?_)
      refine q_callV (as := [.int 15]) (st := []) kY_X6_isKey kL_X4_157 (okX6_isKey (l := l) e27) (Nat.le_trans (by decide) hd2) rfl (obX6_isKey e27) (Nat.le_of_ble_eq_true rfl) dX4_readPart_126 ?_
      refine q_to (ls' := [(0, .ref v0), (1, .ref v1), (2, .int v2), (3, .int v3)]) (st' := [.int p8.1]) rfl rfl ?_
      refine q_if_eq (tgt := 157) dX4_readPart_129 (by decide) (fun c9 => ?_) (fun c9 => ?_)
      · have hyp := q_pos c9 hyp
        refine q_aload_n 1 rfl dX4_readPart_157 ?_
        refine q_iload_n 3 rfl dX4_readPart_158 ?_
        refine q_if_eq (tgt := 176) dX4_readPart_159 (by decide) (fun c10 => ?_) (fun c10 => ?_)
        · have hyp := q_pos c10 hyp
          refine q_aload_n 0 rfl dX4_readPart_176 ?_
          refine q_bind hyp (fun x11 e12 hyp => ?_)
          refine q_getR kF_X4_9 dX4_readPart_177 e12 ?_
          refine q_bind hyp (fun x13 e14 hyp => ?_)
          refine q_getI kF_X4_178 dX4_readPart_180 e14 ?_
          exact q_sub [0] rfl (okX4_readPart_b183 hRX4_readE hRX4_readPart hd1_0 hd1_1 hd2 hyp)
        · have hyp := q_neg c10 hyp
          refine q_sipush (x := 10000) (by decide) dX4_readPart_162 ?_
          refine q_aload_n 0 rfl dX4_readPart_165 ?_
          refine q_bind hyp (fun x15 e16 hyp => ?_)
          refine q_getR kF_X4_9 dX4_readPart_166 e16 ?_
          refine q_bind hyp (fun x17 e18 hyp => ?_)
          refine q_getI kF_X4_161 dX4_readPart_169 e18 ?_
          refine q_iadd dX4_readPart_172 ?_
          refine q_goto (tgt := 183) dX4_readPart_173 (by decide) ?_
          exact q_sub [0] rfl (okX4_readPart_b183 hRX4_readE hRX4_readPart hd1_0 hd1_1 hd2 hyp)
      · have hyp := q_neg c9 hyp
        refine q_aload_n 0 rfl dX4_readPart_132 ?_
        refine q_bind hyp (fun x19 e20 hyp => ?_)
        refine q_getR kF_X4_9 dX4_readPart_133 e20 ?_
        refine q_bind hyp (fun h21 e26 hyp => ?_)
        refine q_callV (as := []) (st := []) kY_X6_advance kL_X4_60 (okX6_advance (l := l) e26) (Nat.le_trans (by decide) hd2) rfl (obX6_advance e26) (Nat.le_of_ble_eq_true rfl) dX4_readPart_136 ?_
        refine q_to (ls' := [(0, .ref v0), (1, .ref v1), (2, .int v2), (3, .int v3)]) (st' := []) rfl rfl ?_
        refine q_aload_n 0 rfl dX4_readPart_139 ?_
        refine q_aload_n 1 rfl dX4_readPart_140 ?_
        refine q_iload_n 2 rfl dX4_readPart_141 ?_
        refine q_iconst (x := 1) rfl dX4_readPart_142 ?_
        refine q_iadd dX4_readPart_143 ?_
        refine q_bind hyp (fun h22 e25 hyp => ?_)
        refine q_callV (as := [.ref v1, .int (v2 + 1)]) (st := []) kY_X4_readPart kL_X4_175 (hRX4_readPart e25).1 hd1_1 rfl (hRX4_readPart e25).2 (Nat.le_of_ble_eq_true rfl) dX4_readPart_144 ?_
        refine q_to (ls' := [(0, .ref v0), (1, .ref v1), (2, .int v2), (3, .int v3)]) (st' := []) rfl rfl ?_
        refine q_aload_n 1 rfl dX4_readPart_147 ?_
        refine q_sipush (x := 10015) (by decide) dX4_readPart_148 ?_
        refine q_bind hyp (fun h23 e24 hyp => ?_)
        refine q_callV (as := [.int 10015]) (st := []) kY_X1_add kL_X4_164 (okX1_add (l := l) e24) (Nat.le_trans (by decide) hd2) rfl (obX1_add e24) (Nat.le_of_ble_eq_true rfl) dX4_readPart_151 ?_
        refine q_to (ls' := [(0, .ref v0), (1, .ref v1), (2, .int v2), (3, .int v3)]) (st' := []) rfl rfl ?_
        refine q_goto (tgt := 193) dX4_readPart_154 (by decide) ?_
        exact q_vretH rfl dX4_readPart_193 hyp
    · have hyp := q_neg c5 hyp
      refine q_aload_n 0 rfl dX4_readPart_93 ?_
      refine q_bind hyp (fun x28 e29 hyp => ?_)
      refine q_getR kF_X4_9 dX4_readPart_94 e29 ?_
      refine q_bind hyp (fun h30 e37 hyp => ?_)
      refine q_callV (as := []) (st := []) kY_X6_advance kL_X4_60 (okX6_advance (l := l) e37) (Nat.le_trans (by decide) hd2) rfl (obX6_advance e37) (Nat.le_of_ble_eq_true rfl) dX4_readPart_97 ?_
      refine q_to (ls' := [(0, .ref v0), (1, .ref v1), (2, .int v2), (3, .int v3)]) (st' := []) rfl rfl ?_
      refine q_aload_n 0 rfl dX4_readPart_100 ?_
      refine q_aload_n 1 rfl dX4_readPart_101 ?_
      refine q_iload_n 2 rfl dX4_readPart_102 ?_
      refine q_iconst (x := 1) rfl dX4_readPart_103 ?_
      refine q_iadd dX4_readPart_104 ?_
      refine q_bind hyp (fun h31 e36 hyp => ?_)
      refine q_callV (as := [.ref v1, .int (v2 + 1)]) (st := []) kY_X4_readE kL_X4_136 (hRX4_readE e36).1 hd1_0 rfl (hRX4_readE e36).2 (Nat.le_of_ble_eq_true rfl) dX4_readPart_105 ?_
      refine q_to (ls' := [(0, .ref v0), (1, .ref v1), (2, .int v2), (3, .int v3)]) (st' := []) rfl rfl ?_
      refine q_aload_n 0 rfl dX4_readPart_108 ?_
      refine q_bind hyp (fun x32 e33 hyp => ?_)
      refine q_getR kF_X4_9 dX4_readPart_109 e33 ?_
      refine q_bipush (x := 41) (by decide) dX4_readPart_112 ?_
      refine q_bind hyp (fun h34 e35 hyp => ?_)
      refine q_callV (as := [.int 41]) (st := []) kY_X6_takeSign kL_X4_51 (okX6_takeSign (l := l) e35) (Nat.le_trans (by decide) hd2) rfl (obX6_takeSign e35) (Nat.le_of_ble_eq_true rfl) dX4_readPart_114 ?_
      refine q_to (ls' := [(0, .ref v0), (1, .ref v1), (2, .int v2), (3, .int v3)]) (st' := []) rfl rfl ?_
      refine q_goto (tgt := 193) dX4_readPart_117 (by decide) ?_
      exact q_vretH rfl dX4_readPart_193 hyp
  · have hyp := q_neg c1 hyp
    refine q_aload_n 0 rfl dX4_readPart_70 ?_
    refine q_bind hyp (fun x39 e40 hyp => ?_)
    refine q_getR kF_X4_9 dX4_readPart_71 e40 ?_
    refine q_iconst (x := 5) rfl dX4_readPart_74 ?_
    refine q_bind hyp (fun h41 e42 hyp => ?_)
    refine q_callV (as := [.int 5]) (st := []) kY_X6_fail kL_X4_47 (okX6_fail (l := l) e42) (Nat.le_trans (by decide) hd2) rfl (obX6_fail e42) (Nat.le_of_ble_eq_true rfl) dX4_readPart_75 ?_
    refine q_to (ls' := [(0, .ref v0), (1, .ref v1), (2, .int v2), (3, .int v3)]) (st' := []) rfl rfl ?_
    refine q_goto (tgt := 193) dX4_readPart_78 (by decide) ?_
    exact q_vretH rfl dX4_readPart_193 hyp
def fX4_readPart_g (RX4_readE : Nat → Nat → Int32 → qH → Option (qH)) (RX4_readPart : Nat → Nat → Int32 → qH → Option (qH)) (n : Nat) (v0 : Nat) (v1 : Nat) (v2 : Int32) (h : qH) : Option (qH) :=
  (isO h v0 4).bind fun _ =>
  (gR h v0 4 0).bind fun x1 =>
  (fX6_keyHere x1 h).bind fun p3 =>
  (fX9_within p3.1 18 21 p3.2).bind fun p4 =>
  if p4.1 = 0 then
  ((gR p4.2 v0 4 0).bind fun x6 =>
  (fX6_isType x6 3 p4.2).bind fun p8 =>
  if p8.1 = 0 then
  ((gR p8.2 v0 4 0).bind fun x10 =>
  (fX6_isKey x10 15 p8.2).bind fun p12 =>
  if p12.1 = 0 then
  ((gR p12.2 v0 4 0).bind fun x14 =>
  (fX6_isType x14 40 p12.2).bind fun p16 =>
  if p16.1 = 0 then
  ((gR p16.2 v0 4 0).bind fun x18 =>
  (fX6_fail x18 1 p16.2).bind fun h20 =>
  some h20)
  else
  (fX4_readPart_b65 RX4_readE RX4_readPart n v0 v1 v2 p4.1 p16.2))
  else
  (fX4_readPart_b65 RX4_readE RX4_readPart n v0 v1 v2 p4.1 p12.2))
  else
  (fX4_readPart_b65 RX4_readE RX4_readPart n v0 v1 v2 p4.1 p8.2))
  else
  (fX4_readPart_b65 RX4_readE RX4_readPart n v0 v1 v2 p4.1 p4.2)
theorem obX4_readPart_g {RX4_readE : Nat → Nat → Int32 → qH → Option (qH)} {RX4_readPart : Nat → Nat → Int32 → qH → Option (qH)} {n : Nat} {v0 : Nat} {v1 : Nat} {v2 : Int32} {h : qH} {p : qH} (hyp : fX4_readPart_g RX4_readE RX4_readPart n v0 v1 v2 h = some p) : ∃ fs, h.1 v0 = some (.inr (4, fs)) := by
  unfold fX4_readPart_g at hyp
  exact q_bind hyp (fun _ e _ => isO_some e)
set_option maxHeartbeats 4000000 in
set_option maxRecDepth 100000 in
theorem okX4_readPart_g {l : Launch} {RX4_readE : Nat → Nat → Int32 → qH → Option (qH)} {RX4_readPart : Nat → Nat → Int32 → qH → Option (qH)} {dR0 dR1 d : Nat} {n : Nat} {v0 : Nat} {v1 : Nat} {v2 : Int32} {h : qH} {h' : qH} (hRX4_readE : ∀ {v0 : Nat} {v1 : Nat} {v2 : Int32} {h : qH} {p : qH}, RX4_readE v0 v1 v2 h = some p → q_M l dR0 yX4_readE cX4_readE 5 none [.ref v0, .ref v1, .int v2] h none p ∧ ∃ fs, h.1 v0 = some (.inr (4, fs))) (hRX4_readPart : ∀ {v0 : Nat} {v1 : Nat} {v2 : Int32} {h : qH} {p : qH}, RX4_readPart v0 v1 v2 h = some p → q_M l dR1 yX4_readPart cX4_readPart 4 none [.ref v0, .ref v1, .int v2] h none p ∧ ∃ fs, h.1 v0 = some (.inr (4, fs))) (hd1_0 : dR0 + 1 ≤ d) (hd1_1 : dR1 + 1 ≤ d) (hd2 : 12 ≤ d) (hyp : fX4_readPart_g RX4_readE RX4_readPart n v0 v1 v2 h = some h') : q_M l d yX4_readPart cX4_readPart 4 none [.ref v0, .ref v1, .int v2] h none h' := by
  unfold fX4_readPart_g at hyp
  refine q_bind hyp (fun _ _ hyp => ?_)
  refine q_M.of (by decide) (Nat.le_of_ble_eq_true rfl) ?_
  refine q_to (ls' := [(0, .ref v0), (1, .ref v1), (2, .int v2)]) (st' := []) rfl rfl ?_
  refine q_aload_n 0 rfl dX4_readPart_0 ?_
  refine q_bind hyp (fun x1 e2 hyp => ?_)
  refine q_getR kF_X4_9 dX4_readPart_1 e2 ?_
  refine q_bind hyp (fun p3 e26 hyp => ?_)
  refine q_callV (as := []) (st := []) kY_X6_keyHere kL_X4_32 (okX6_keyHere (l := l) e26) (Nat.le_trans (by decide) hd2) rfl (obX6_keyHere e26) (Nat.le_of_ble_eq_true rfl) dX4_readPart_4 ?_
  refine q_to (ls' := [(0, .ref v0), (1, .ref v1), (2, .int v2)]) (st' := [.int p3.1]) rfl rfl ?_
  refine q_bipush (x := 18) (by decide) dX4_readPart_7 ?_
  refine q_bipush (x := 21) (by decide) dX4_readPart_9 ?_
  refine q_bind hyp (fun p4 e25 hyp => ?_)
  refine q_callS (as := [.int p3.1, .int 18, .int 21]) (st := []) kY_X9_within kS_X9_within kL_X4_106 (okX9_within (l := l) e25) (Nat.le_trans (by decide) hd2) rfl (Nat.le_of_ble_eq_true rfl) dX4_readPart_11 ?_
  refine q_to (ls' := [(0, .ref v0), (1, .ref v1), (2, .int v2)]) (st' := [.int p4.1]) rfl rfl ?_
  refine q_istore_n (ls' := [(3, .int p4.1), (0, .ref v0), (1, .ref v1), (2, .int v2)]) (by decide) rfl dX4_readPart_14 ?_
  refine q_iload_n 0 rfl dX4_readPart_15 ?_
  refine q_if_ne (tgt := 65) dX4_readPart_16 (by decide) (fun c5 => ?_) (fun c5 => ?_)
  · have hyp := q_neg c5 hyp
    exact q_sub [1, 2, 3, 0] rfl (okX4_readPart_b65 hRX4_readE hRX4_readPart hd1_0 hd1_1 hd2 hyp)
  · have hyp := q_pos c5 hyp
    refine q_aload_n 1 rfl dX4_readPart_19 ?_
    refine q_bind hyp (fun x6 e7 hyp => ?_)
    refine q_getR kF_X4_9 dX4_readPart_20 e7 ?_
    refine q_iconst (x := 3) rfl dX4_readPart_23 ?_
    refine q_bind hyp (fun p8 e24 hyp => ?_)
    refine q_callV (as := [.int 3]) (st := []) kY_X6_isType kL_X4_169 (okX6_isType (l := l) e24) (Nat.le_trans (by decide) hd2) rfl (obX6_isType e24) (Nat.le_of_ble_eq_true rfl) dX4_readPart_24 ?_
    refine q_to (ls' := [(3, .int p4.1), (0, .ref v0), (1, .ref v1), (2, .int v2)]) (st' := [.int p8.1]) rfl rfl ?_
    refine q_if_ne (tgt := 65) dX4_readPart_27 (by decide) (fun c9 => ?_) (fun c9 => ?_)
    · have hyp := q_neg c9 hyp
      exact q_sub [1, 2, 3, 0] rfl (okX4_readPart_b65 hRX4_readE hRX4_readPart hd1_0 hd1_1 hd2 hyp)
    · have hyp := q_pos c9 hyp
      refine q_aload_n 1 rfl dX4_readPart_30 ?_
      refine q_bind hyp (fun x10 e11 hyp => ?_)
      refine q_getR kF_X4_9 dX4_readPart_31 e11 ?_
      refine q_bipush (x := 15) (by decide) dX4_readPart_34 ?_
      refine q_bind hyp (fun p12 e23 hyp => ?_)
      refine q_callV (as := [.int 15]) (st := []) kY_X6_isKey kL_X4_157 (okX6_isKey (l := l) e23) (Nat.le_trans (by decide) hd2) rfl (obX6_isKey e23) (Nat.le_of_ble_eq_true rfl) dX4_readPart_36 ?_
      refine q_to (ls' := [(3, .int p4.1), (0, .ref v0), (1, .ref v1), (2, .int v2)]) (st' := [.int p12.1]) rfl rfl ?_
      refine q_if_ne (tgt := 65) dX4_readPart_39 (by decide) (fun c13 => ?_) (fun c13 => ?_)
      · have hyp := q_neg c13 hyp
        exact q_sub [1, 2, 3, 0] rfl (okX4_readPart_b65 hRX4_readE hRX4_readPart hd1_0 hd1_1 hd2 hyp)
      · have hyp := q_pos c13 hyp
        refine q_aload_n 1 rfl dX4_readPart_42 ?_
        refine q_bind hyp (fun x14 e15 hyp => ?_)
        refine q_getR kF_X4_9 dX4_readPart_43 e15 ?_
        refine q_bipush (x := 40) (by decide) dX4_readPart_46 ?_
        refine q_bind hyp (fun p16 e22 hyp => ?_)
        refine q_callV (as := [.int 40]) (st := []) kY_X6_isType kL_X4_169 (okX6_isType (l := l) e22) (Nat.le_trans (by decide) hd2) rfl (obX6_isType e22) (Nat.le_of_ble_eq_true rfl) dX4_readPart_48 ?_
        refine q_to (ls' := [(3, .int p4.1), (0, .ref v0), (1, .ref v1), (2, .int v2)]) (st' := [.int p16.1]) rfl rfl ?_
        refine q_if_ne (tgt := 65) dX4_readPart_51 (by decide) (fun c17 => ?_) (fun c17 => ?_)
        · have hyp := q_neg c17 hyp
          exact q_sub [1, 2, 3, 0] rfl (okX4_readPart_b65 hRX4_readE hRX4_readPart hd1_0 hd1_1 hd2 hyp)
        · have hyp := q_pos c17 hyp
          refine q_aload_n 1 rfl dX4_readPart_54 ?_
          refine q_bind hyp (fun x18 e19 hyp => ?_)
          refine q_getR kF_X4_9 dX4_readPart_55 e19 ?_
          refine q_iconst (x := 1) rfl dX4_readPart_58 ?_
          refine q_bind hyp (fun h20 e21 hyp => ?_)
          refine q_callV (as := [.int 1]) (st := []) kY_X6_fail kL_X4_47 (okX6_fail (l := l) e21) (Nat.le_trans (by decide) hd2) rfl (obX6_fail e21) (Nat.le_of_ble_eq_true rfl) dX4_readPart_59 ?_
          refine q_to (ls' := [(3, .int p4.1), (0, .ref v0), (1, .ref v1), (2, .int v2)]) (st' := []) rfl rfl ?_
          refine q_goto (tgt := 193) dX4_readPart_62 (by decide) ?_
          exact q_vretH rfl dX4_readPart_193 hyp
theorem dX4_readProduct_0 : decode cX4_readProduct 0 = .ok (.aload_n 0, 1) := by decide +kernel
theorem dX4_readProduct_1 : decode cX4_readProduct 1 = .ok (.aload_n 1, 1) := by decide +kernel
theorem dX4_readProduct_2 : decode cX4_readProduct 2 = .ok (.iload_n 2, 1) := by decide +kernel
theorem dX4_readProduct_3 : decode cX4_readProduct 3 = .ok (.invokevirtual 175, 3) := by decide +kernel
theorem dX4_readProduct_6 : decode cX4_readProduct 6 = .ok (.iconst 0, 1) := by decide +kernel
theorem dX4_readProduct_7 : decode cX4_readProduct 7 = .ok (.istore_n 3, 1) := by decide +kernel
theorem dX4_readProduct_8 : decode cX4_readProduct 8 = .ok (.iload_n 3, 1) := by decide +kernel
theorem dX4_readProduct_9 : decode cX4_readProduct 9 = .ok (.sipush 1000, 3) := by decide +kernel
theorem dX4_readProduct_12 : decode cX4_readProduct 12 = .ok (.if_icmp .ge 41, 3) := by decide +kernel
theorem dX4_readProduct_15 : decode cX4_readProduct 15 = .ok (.aload_n 0, 1) := by decide +kernel
theorem dX4_readProduct_16 : decode cX4_readProduct 16 = .ok (.getfield 9, 3) := by decide +kernel
theorem dX4_readProduct_19 : decode cX4_readProduct 19 = .ok (.bipush 42, 2) := by decide +kernel
theorem dX4_readProduct_21 : decode cX4_readProduct 21 = .ok (.invokevirtual 169, 3) := by decide +kernel
theorem dX4_readProduct_24 : decode cX4_readProduct 24 = .ok (.ifCond .eq 29, 3) := by decide +kernel
theorem dX4_readProduct_27 : decode cX4_readProduct 27 = .ok (.aload_n 0, 1) := by decide +kernel
theorem dX4_readProduct_28 : decode cX4_readProduct 28 = .ok (.getfield 9, 3) := by decide +kernel
theorem dX4_readProduct_31 : decode cX4_readProduct 31 = .ok (.invokevirtual 60, 3) := by decide +kernel
theorem dX4_readProduct_34 : decode cX4_readProduct 34 = .ok (.aload_n 0, 1) := by decide +kernel
theorem dX4_readProduct_35 : decode cX4_readProduct 35 = .ok (.aload_n 1, 1) := by decide +kernel
theorem dX4_readProduct_36 : decode cX4_readProduct 36 = .ok (.iload_n 2, 1) := by decide +kernel
theorem dX4_readProduct_37 : decode cX4_readProduct 37 = .ok (.invokevirtual 175, 3) := by decide +kernel
theorem dX4_readProduct_40 : decode cX4_readProduct 40 = .ok (.aload_n 1, 1) := by decide +kernel
theorem dX4_readProduct_41 : decode cX4_readProduct 41 = .ok (.sipush 10042, 3) := by decide +kernel
theorem dX4_readProduct_44 : decode cX4_readProduct 44 = .ok (.invokevirtual 164, 3) := by decide +kernel
theorem dX4_readProduct_47 : decode cX4_readProduct 47 = .ok (.iinc 3 1, 3) := by decide +kernel
theorem dX4_readProduct_50 : decode cX4_readProduct 50 = .ok (.goto (-42), 3) := by decide +kernel
theorem dX4_readProduct_53 : decode cX4_readProduct 53 = .ok (.return_, 1) := by decide +kernel
def fX4_readProduct_b8 (RX4_readPart : Nat → Nat → Int32 → qH → Option (qH)) (n : Nat) : Nat → Nat → Nat → Int32 → Int32 → qH → Option (qH)
  | 0, _, _, _, _, _ => none
  | w + 1, v0, v1, v2, v3, h =>
    if 1000 ≤ v3 then
    (some h)
    else
    ((gR h v0 4 0).bind fun x2 =>
    (fX6_isType x2 42 h).bind fun p4 =>
    if p4.1 = 0 then
    (some p4.2)
    else
    ((gR p4.2 v0 4 0).bind fun x6 =>
    (fX6_advance n x6 p4.2).bind fun h8 =>
    (RX4_readPart v0 v1 v2 h8).bind fun h9 =>
    (fX1_add v1 10042 h9).bind fun h10 =>
    fX4_readProduct_b8 RX4_readPart n w v0 v1 v2 (v3 + 1) h10))
set_option maxHeartbeats 4000000 in
set_option maxRecDepth 100000 in
theorem okX4_readProduct_b8 {l : Launch} {RX4_readPart : Nat → Nat → Int32 → qH → Option (qH)} {dR0 d : Nat} {n : Nat} {h' : qH} (hRX4_readPart : ∀ {v0 : Nat} {v1 : Nat} {v2 : Int32} {h : qH} {p : qH}, RX4_readPart v0 v1 v2 h = some p → q_M l dR0 yX4_readPart cX4_readPart 4 none [.ref v0, .ref v1, .int v2] h none p ∧ ∃ fs, h.1 v0 = some (.inr (4, fs))) (hd1_0 : dR0 + 1 ≤ d) (hd2 : 11 ≤ d) : ∀ (w : Nat) (v0 : Nat) (v1 : Nat) (v2 : Int32) (v3 : Int32) (h : qH), fX4_readProduct_b8 RX4_readPart n w v0 v1 v2 v3 h = some h' → q_W l d yX4_readProduct cX4_readProduct 4 none none h' 8 [(0, .ref v0), (1, .ref v1), (2, .int v2), (3, .int v3)] [] h := by
  intro w
  induction w with
  | zero => intro v0 v1 v2 v3 h hyp; cases hyp
  | succ w ih =>
    intro v0 v1 v2 v3 h hyp
    unfold fX4_readProduct_b8 at hyp
    refine q_iload_n 3 rfl dX4_readProduct_8 ?_
    refine q_sipush (x := 1000) (by decide) dX4_readProduct_9 ?_
    refine q_icmp_ge (tgt := 53) dX4_readProduct_12 (by decide) (fun c1 => ?_) (fun c1 => ?_)
    · have hyp := q_pos c1 hyp
      exact q_vretH rfl dX4_readProduct_53 hyp
    · have hyp := q_neg c1 hyp
      refine q_aload_n 0 rfl dX4_readProduct_15 ?_
      refine q_bind hyp (fun x2 e3 hyp => ?_)
      refine q_getR kF_X4_9 dX4_readProduct_16 e3 ?_
      refine q_bipush (x := 42) (by decide) dX4_readProduct_19 ?_
      refine q_bind hyp (fun p4 e14 hyp => ?_)
      refine q_callV (as := [.int 42]) (st := []) kY_X6_isType kL_X4_169 (okX6_isType (l := l) e14) (Nat.le_trans (by decide) hd2) rfl (obX6_isType e14) (Nat.le_of_ble_eq_true rfl) dX4_readProduct_21 ?_
      refine q_to (ls' := [(0, .ref v0), (1, .ref v1), (2, .int v2), (3, .int v3)]) (st' := [.int p4.1]) rfl rfl ?_
      refine q_if_eq (tgt := 53) dX4_readProduct_24 (by decide) (fun c5 => ?_) (fun c5 => ?_)
      · have hyp := q_pos c5 hyp
        exact q_vretH rfl dX4_readProduct_53 hyp
      · have hyp := q_neg c5 hyp
        refine q_aload_n 0 rfl dX4_readProduct_27 ?_
        refine q_bind hyp (fun x6 e7 hyp => ?_)
        refine q_getR kF_X4_9 dX4_readProduct_28 e7 ?_
        refine q_bind hyp (fun h8 e13 hyp => ?_)
        refine q_callV (as := []) (st := []) kY_X6_advance kL_X4_60 (okX6_advance (l := l) e13) (Nat.le_trans (by decide) hd2) rfl (obX6_advance e13) (Nat.le_of_ble_eq_true rfl) dX4_readProduct_31 ?_
        refine q_to (ls' := [(0, .ref v0), (1, .ref v1), (2, .int v2), (3, .int v3)]) (st' := []) rfl rfl ?_
        refine q_aload_n 0 rfl dX4_readProduct_34 ?_
        refine q_aload_n 1 rfl dX4_readProduct_35 ?_
        refine q_iload_n 2 rfl dX4_readProduct_36 ?_
        refine q_bind hyp (fun h9 e12 hyp => ?_)
        refine q_callV (as := [.ref v1, .int v2]) (st := []) kY_X4_readPart kL_X4_175 (hRX4_readPart e12).1 hd1_0 rfl (hRX4_readPart e12).2 (Nat.le_of_ble_eq_true rfl) dX4_readProduct_37 ?_
        refine q_to (ls' := [(0, .ref v0), (1, .ref v1), (2, .int v2), (3, .int v3)]) (st' := []) rfl rfl ?_
        refine q_aload_n 1 rfl dX4_readProduct_40 ?_
        refine q_sipush (x := 10042) (by decide) dX4_readProduct_41 ?_
        refine q_bind hyp (fun h10 e11 hyp => ?_)
        refine q_callV (as := [.int 10042]) (st := []) kY_X1_add kL_X4_164 (okX1_add (l := l) e11) (Nat.le_trans (by decide) hd2) rfl (obX1_add e11) (Nat.le_of_ble_eq_true rfl) dX4_readProduct_44 ?_
        refine q_to (ls' := [(0, .ref v0), (1, .ref v1), (2, .int v2), (3, .int v3)]) (st' := []) rfl rfl ?_
        refine q_iinc (ls' := [(3, .int (v3 + 1)), (0, .ref v0), (1, .ref v1), (2, .int v2)]) 3 rfl rfl (by decide) rfl dX4_readProduct_47 ?_
        refine q_goto (tgt := 8) dX4_readProduct_50 (by decide) ?_
        exact q_sub [1, 2, 3, 0] rfl (ih v0 v1 v2 (v3 + 1) h10 hyp)
def fX4_readProduct_g (RX4_readPart : Nat → Nat → Int32 → qH → Option (qH)) (n : Nat) (v0 : Nat) (v1 : Nat) (v2 : Int32) (h : qH) : Option (qH) :=
  (isO h v0 4).bind fun _ =>
  (RX4_readPart v0 v1 v2 h).bind fun h1 =>
  fX4_readProduct_b8 RX4_readPart n n v0 v1 v2 0 h1
theorem obX4_readProduct_g {RX4_readPart : Nat → Nat → Int32 → qH → Option (qH)} {n : Nat} {v0 : Nat} {v1 : Nat} {v2 : Int32} {h : qH} {p : qH} (hyp : fX4_readProduct_g RX4_readPart n v0 v1 v2 h = some p) : ∃ fs, h.1 v0 = some (.inr (4, fs)) := by
  unfold fX4_readProduct_g at hyp
  exact q_bind hyp (fun _ e _ => isO_some e)
set_option maxHeartbeats 4000000 in
set_option maxRecDepth 100000 in
theorem okX4_readProduct_g {l : Launch} {RX4_readPart : Nat → Nat → Int32 → qH → Option (qH)} {dR0 d : Nat} {n : Nat} {v0 : Nat} {v1 : Nat} {v2 : Int32} {h : qH} {h' : qH} (hRX4_readPart : ∀ {v0 : Nat} {v1 : Nat} {v2 : Int32} {h : qH} {p : qH}, RX4_readPart v0 v1 v2 h = some p → q_M l dR0 yX4_readPart cX4_readPart 4 none [.ref v0, .ref v1, .int v2] h none p ∧ ∃ fs, h.1 v0 = some (.inr (4, fs))) (hd1_0 : dR0 + 1 ≤ d) (hd2 : 11 ≤ d) (hyp : fX4_readProduct_g RX4_readPart n v0 v1 v2 h = some h') : q_M l d yX4_readProduct cX4_readProduct 4 none [.ref v0, .ref v1, .int v2] h none h' := by
  unfold fX4_readProduct_g at hyp
  refine q_bind hyp (fun _ _ hyp => ?_)
  refine q_M.of (by decide) (Nat.le_of_ble_eq_true rfl) ?_
  refine q_to (ls' := [(0, .ref v0), (1, .ref v1), (2, .int v2)]) (st' := []) rfl rfl ?_
  refine q_aload_n 0 rfl dX4_readProduct_0 ?_
  refine q_aload_n 1 rfl dX4_readProduct_1 ?_
  refine q_iload_n 2 rfl dX4_readProduct_2 ?_
  refine q_bind hyp (fun h1 e2 hyp => ?_)
  refine q_callV (as := [.ref v1, .int v2]) (st := []) kY_X4_readPart kL_X4_175 (hRX4_readPart e2).1 hd1_0 rfl (hRX4_readPart e2).2 (Nat.le_of_ble_eq_true rfl) dX4_readProduct_3 ?_
  refine q_to (ls' := [(0, .ref v0), (1, .ref v1), (2, .int v2)]) (st' := []) rfl rfl ?_
  refine q_iconst (x := 0) rfl dX4_readProduct_6 ?_
  refine q_istore_n (ls' := [(3, .int 0), (0, .ref v0), (1, .ref v1), (2, .int v2)]) (by decide) rfl dX4_readProduct_7 ?_
  exact q_sub [1, 2, 3, 0] rfl (okX4_readProduct_b8 hRX4_readPart hd1_0 hd2 _ v0 v1 v2 0 h1 hyp)
theorem dX4_readSum_0 : decode cX4_readSum 0 = .ok (.aload_n 0, 1) := by decide +kernel
theorem dX4_readSum_1 : decode cX4_readSum 1 = .ok (.aload_n 1, 1) := by decide +kernel
theorem dX4_readSum_2 : decode cX4_readSum 2 = .ok (.iload_n 2, 1) := by decide +kernel
theorem dX4_readSum_3 : decode cX4_readSum 3 = .ok (.invokevirtual 172, 3) := by decide +kernel
theorem dX4_readSum_6 : decode cX4_readSum 6 = .ok (.iconst 0, 1) := by decide +kernel
theorem dX4_readSum_7 : decode cX4_readSum 7 = .ok (.istore_n 3, 1) := by decide +kernel
theorem dX4_readSum_8 : decode cX4_readSum 8 = .ok (.iload_n 3, 1) := by decide +kernel
theorem dX4_readSum_9 : decode cX4_readSum 9 = .ok (.sipush 1000, 3) := by decide +kernel
theorem dX4_readSum_12 : decode cX4_readSum 12 = .ok (.if_icmp .ge 65, 3) := by decide +kernel
theorem dX4_readSum_15 : decode cX4_readSum 15 = .ok (.aload_n 0, 1) := by decide +kernel
theorem dX4_readSum_16 : decode cX4_readSum 16 = .ok (.getfield 9, 3) := by decide +kernel
theorem dX4_readSum_19 : decode cX4_readSum 19 = .ok (.bipush 43, 2) := by decide +kernel
theorem dX4_readSum_21 : decode cX4_readSum 21 = .ok (.invokevirtual 169, 3) := by decide +kernel
theorem dX4_readSum_24 : decode cX4_readSum 24 = .ok (.ifCond .ne 15, 3) := by decide +kernel
theorem dX4_readSum_27 : decode cX4_readSum 27 = .ok (.aload_n 0, 1) := by decide +kernel
theorem dX4_readSum_28 : decode cX4_readSum 28 = .ok (.getfield 9, 3) := by decide +kernel
theorem dX4_readSum_31 : decode cX4_readSum 31 = .ok (.bipush 45, 2) := by decide +kernel
theorem dX4_readSum_33 : decode cX4_readSum 33 = .ok (.invokevirtual 169, 3) := by decide +kernel
theorem dX4_readSum_36 : decode cX4_readSum 36 = .ok (.ifCond .eq 41, 3) := by decide +kernel
theorem dX4_readSum_39 : decode cX4_readSum 39 = .ok (.aload_n 0, 1) := by decide +kernel
theorem dX4_readSum_40 : decode cX4_readSum 40 = .ok (.getfield 9, 3) := by decide +kernel
theorem dX4_readSum_43 : decode cX4_readSum 43 = .ok (.getfield 29, 3) := by decide +kernel
theorem dX4_readSum_46 : decode cX4_readSum 46 = .ok (.istore 4, 2) := by decide +kernel
theorem dX4_readSum_48 : decode cX4_readSum 48 = .ok (.aload_n 0, 1) := by decide +kernel
theorem dX4_readSum_49 : decode cX4_readSum 49 = .ok (.getfield 9, 3) := by decide +kernel
theorem dX4_readSum_52 : decode cX4_readSum 52 = .ok (.invokevirtual 60, 3) := by decide +kernel
theorem dX4_readSum_55 : decode cX4_readSum 55 = .ok (.aload_n 0, 1) := by decide +kernel
theorem dX4_readSum_56 : decode cX4_readSum 56 = .ok (.aload_n 1, 1) := by decide +kernel
theorem dX4_readSum_57 : decode cX4_readSum 57 = .ok (.iload_n 2, 1) := by decide +kernel
theorem dX4_readSum_58 : decode cX4_readSum 58 = .ok (.invokevirtual 172, 3) := by decide +kernel
theorem dX4_readSum_61 : decode cX4_readSum 61 = .ok (.aload_n 1, 1) := by decide +kernel
theorem dX4_readSum_62 : decode cX4_readSum 62 = .ok (.sipush 10000, 3) := by decide +kernel
theorem dX4_readSum_65 : decode cX4_readSum 65 = .ok (.iload 4, 2) := by decide +kernel
theorem dX4_readSum_67 : decode cX4_readSum 67 = .ok (.iadd, 1) := by decide +kernel
theorem dX4_readSum_68 : decode cX4_readSum 68 = .ok (.invokevirtual 164, 3) := by decide +kernel
theorem dX4_readSum_71 : decode cX4_readSum 71 = .ok (.iinc 3 1, 3) := by decide +kernel
theorem dX4_readSum_74 : decode cX4_readSum 74 = .ok (.goto (-66), 3) := by decide +kernel
theorem dX4_readSum_77 : decode cX4_readSum 77 = .ok (.return_, 1) := by decide +kernel
def fX4_readSum_b39 (RX4_readProduct : Nat → Nat → Int32 → qH → Option (qH)) (n : Nat) (K8 : Nat → Nat → Int32 → Int32 → qH → Option (qH)) (v0 : Nat) (v1 : Nat) (v2 : Int32) (v3 : Int32) (h : qH) : Option (qH) :=
  (gR h v0 4 0).bind fun x1 =>
  (gI h x1 6 4).bind fun x3 =>
  (gR h v0 4 0).bind fun x5 =>
  (fX6_advance n x5 h).bind fun h7 =>
  (RX4_readProduct v0 v1 v2 h7).bind fun h8 =>
  (fX1_add v1 (10000 + x3) h8).bind fun h9 =>
  K8 v0 v1 v2 (v3 + 1) h9
set_option maxHeartbeats 4000000 in
set_option maxRecDepth 100000 in
theorem okX4_readSum_b39 {l : Launch} {RX4_readProduct : Nat → Nat → Int32 → qH → Option (qH)} {dR0 d : Nat} {n : Nat} {K8 : Nat → Nat → Int32 → Int32 → qH → Option (qH)} {v0 : Nat} {v1 : Nat} {v2 : Int32} {v3 : Int32} {h : qH} {h' : qH} (hRX4_readProduct : ∀ {v0 : Nat} {v1 : Nat} {v2 : Int32} {h : qH} {p : qH}, RX4_readProduct v0 v1 v2 h = some p → q_M l dR0 yX4_readProduct cX4_readProduct 4 none [.ref v0, .ref v1, .int v2] h none p ∧ ∃ fs, h.1 v0 = some (.inr (4, fs))) (hd1_0 : dR0 + 1 ≤ d) (hd2 : 11 ≤ d) (hK8 : ∀ (v0 : Nat) (v1 : Nat) (v2 : Int32) (v3 : Int32) (h : qH), K8 v0 v1 v2 v3 h = some h' → q_W l d yX4_readSum cX4_readSum 5 none none h' 8 [(0, .ref v0), (1, .ref v1), (2, .int v2), (3, .int v3)] [] h) (hyp : fX4_readSum_b39 RX4_readProduct n K8 v0 v1 v2 v3 h = some h') : q_W l d yX4_readSum cX4_readSum 5 none none h' 39 [(0, .ref v0), (1, .ref v1), (2, .int v2), (3, .int v3)] [] h := by
  unfold fX4_readSum_b39 at hyp
  refine q_aload_n 0 rfl dX4_readSum_39 ?_
  refine q_bind hyp (fun x1 e2 hyp => ?_)
  refine q_getR kF_X4_9 dX4_readSum_40 e2 ?_
  refine q_bind hyp (fun x3 e4 hyp => ?_)
  refine q_getI kF_X4_29 dX4_readSum_43 e4 ?_
  refine q_istore (ls' := [(4, .int x3), (0, .ref v0), (1, .ref v1), (2, .int v2), (3, .int v3)]) (by decide) rfl dX4_readSum_46 ?_
  refine q_aload_n 1 rfl dX4_readSum_48 ?_
  refine q_bind hyp (fun x5 e6 hyp => ?_)
  refine q_getR kF_X4_9 dX4_readSum_49 e6 ?_
  refine q_bind hyp (fun h7 e12 hyp => ?_)
  refine q_callV (as := []) (st := []) kY_X6_advance kL_X4_60 (okX6_advance (l := l) e12) (Nat.le_trans (by decide) hd2) rfl (obX6_advance e12) (Nat.le_of_ble_eq_true rfl) dX4_readSum_52 ?_
  refine q_to (ls' := [(4, .int x3), (0, .ref v0), (1, .ref v1), (2, .int v2), (3, .int v3)]) (st' := []) rfl rfl ?_
  refine q_aload_n 1 rfl dX4_readSum_55 ?_
  refine q_aload_n 2 rfl dX4_readSum_56 ?_
  refine q_iload_n 3 rfl dX4_readSum_57 ?_
  refine q_bind hyp (fun h8 e11 hyp => ?_)
  refine q_callV (as := [.ref v1, .int v2]) (st := []) kY_X4_readProduct kL_X4_172 (hRX4_readProduct e11).1 hd1_0 rfl (hRX4_readProduct e11).2 (Nat.le_of_ble_eq_true rfl) dX4_readSum_58 ?_
  refine q_to (ls' := [(4, .int x3), (0, .ref v0), (1, .ref v1), (2, .int v2), (3, .int v3)]) (st' := []) rfl rfl ?_
  refine q_aload_n 2 rfl dX4_readSum_61 ?_
  refine q_sipush (x := 10000) (by decide) dX4_readSum_62 ?_
  refine q_iload 0 rfl dX4_readSum_65 ?_
  refine q_iadd dX4_readSum_67 ?_
  refine q_bind hyp (fun h9 e10 hyp => ?_)
  refine q_callV (as := [.int (10000 + x3)]) (st := []) kY_X1_add kL_X4_164 (okX1_add (l := l) e10) (Nat.le_trans (by decide) hd2) rfl (obX1_add e10) (Nat.le_of_ble_eq_true rfl) dX4_readSum_68 ?_
  refine q_to (ls' := [(4, .int x3), (0, .ref v0), (1, .ref v1), (2, .int v2), (3, .int v3)]) (st' := []) rfl rfl ?_
  refine q_iinc (ls' := [(3, .int (v3 + 1)), (4, .int x3), (0, .ref v0), (1, .ref v1), (2, .int v2)]) 4 rfl rfl (by decide) rfl dX4_readSum_71 ?_
  refine q_goto (tgt := 8) dX4_readSum_74 (by decide) ?_
  exact q_sub [2, 3, 4, 0] rfl (hK8 v0 v1 v2 (v3 + 1) h9 hyp)
def fX4_readSum_b8 (RX4_readProduct : Nat → Nat → Int32 → qH → Option (qH)) (n : Nat) : Nat → Nat → Nat → Int32 → Int32 → qH → Option (qH)
  | 0, _, _, _, _, _ => none
  | w + 1, v0, v1, v2, v3, h =>
    if 1000 ≤ v3 then
    (some h)
    else
    ((gR h v0 4 0).bind fun x2 =>
    (fX6_isType x2 43 h).bind fun p4 =>
    if p4.1 = 0 then
    ((gR p4.2 v0 4 0).bind fun x6 =>
    (fX6_isType x6 45 p4.2).bind fun p8 =>
    if p8.1 = 0 then
    (some p8.2)
    else
    (fX4_readSum_b39 RX4_readProduct n (fX4_readSum_b8 RX4_readProduct n w) v0 v1 v2 v3 p8.2))
    else
    (fX4_readSum_b39 RX4_readProduct n (fX4_readSum_b8 RX4_readProduct n w) v0 v1 v2 v3 p4.2))
set_option maxHeartbeats 4000000 in
set_option maxRecDepth 100000 in
theorem okX4_readSum_b8 {l : Launch} {RX4_readProduct : Nat → Nat → Int32 → qH → Option (qH)} {dR0 d : Nat} {n : Nat} {h' : qH} (hRX4_readProduct : ∀ {v0 : Nat} {v1 : Nat} {v2 : Int32} {h : qH} {p : qH}, RX4_readProduct v0 v1 v2 h = some p → q_M l dR0 yX4_readProduct cX4_readProduct 4 none [.ref v0, .ref v1, .int v2] h none p ∧ ∃ fs, h.1 v0 = some (.inr (4, fs))) (hd1_0 : dR0 + 1 ≤ d) (hd2 : 11 ≤ d) : ∀ (w : Nat) (v0 : Nat) (v1 : Nat) (v2 : Int32) (v3 : Int32) (h : qH), fX4_readSum_b8 RX4_readProduct n w v0 v1 v2 v3 h = some h' → q_W l d yX4_readSum cX4_readSum 5 none none h' 8 [(0, .ref v0), (1, .ref v1), (2, .int v2), (3, .int v3)] [] h := by
  intro w
  induction w with
  | zero => intro v0 v1 v2 v3 h hyp; cases hyp
  | succ w ih =>
    intro v0 v1 v2 v3 h hyp
    unfold fX4_readSum_b8 at hyp
    refine q_iload_n 3 rfl dX4_readSum_8 ?_
    refine q_sipush (x := 1000) (by decide) dX4_readSum_9 ?_
    refine q_icmp_ge (tgt := 77) dX4_readSum_12 (by decide) (fun c1 => ?_) (fun c1 => ?_)
    · have hyp := q_pos c1 hyp
      exact q_vretH rfl dX4_readSum_77 hyp
    · have hyp := q_neg c1 hyp
      refine q_aload_n 0 rfl dX4_readSum_15 ?_
      refine q_bind hyp (fun x2 e3 hyp => ?_)
      refine q_getR kF_X4_9 dX4_readSum_16 e3 ?_
      refine q_bipush (x := 43) (by decide) dX4_readSum_19 ?_
      refine q_bind hyp (fun p4 e11 hyp => ?_)
      refine q_callV (as := [.int 43]) (st := []) kY_X6_isType kL_X4_169 (okX6_isType (l := l) e11) (Nat.le_trans (by decide) hd2) rfl (obX6_isType e11) (Nat.le_of_ble_eq_true rfl) dX4_readSum_21 ?_
      refine q_to (ls' := [(0, .ref v0), (1, .ref v1), (2, .int v2), (3, .int v3)]) (st' := [.int p4.1]) rfl rfl ?_
      refine q_if_ne (tgt := 39) dX4_readSum_24 (by decide) (fun c5 => ?_) (fun c5 => ?_)
      · have hyp := q_neg c5 hyp
        exact q_sub [0, 1, 2, 3] rfl (okX4_readSum_b39 hRX4_readProduct hd1_0 hd2 ih hyp)
      · have hyp := q_pos c5 hyp
        refine q_aload_n 0 rfl dX4_readSum_27 ?_
        refine q_bind hyp (fun x6 e7 hyp => ?_)
        refine q_getR kF_X4_9 dX4_readSum_28 e7 ?_
        refine q_bipush (x := 45) (by decide) dX4_readSum_31 ?_
        refine q_bind hyp (fun p8 e10 hyp => ?_)
        refine q_callV (as := [.int 45]) (st := []) kY_X6_isType kL_X4_169 (okX6_isType (l := l) e10) (Nat.le_trans (by decide) hd2) rfl (obX6_isType e10) (Nat.le_of_ble_eq_true rfl) dX4_readSum_33 ?_
        refine q_to (ls' := [(0, .ref v0), (1, .ref v1), (2, .int v2), (3, .int v3)]) (st' := [.int p8.1]) rfl rfl ?_
        refine q_if_eq (tgt := 77) dX4_readSum_36 (by decide) (fun c9 => ?_) (fun c9 => ?_)
        · have hyp := q_pos c9 hyp
          exact q_vretH rfl dX4_readSum_77 hyp
        · have hyp := q_neg c9 hyp
          exact q_sub [0, 1, 2, 3] rfl (okX4_readSum_b39 hRX4_readProduct hd1_0 hd2 ih hyp)
def fX4_readSum_g (RX4_readProduct : Nat → Nat → Int32 → qH → Option (qH)) (n : Nat) (v0 : Nat) (v1 : Nat) (v2 : Int32) (h : qH) : Option (qH) :=
  (isO h v0 4).bind fun _ =>
  (RX4_readProduct v0 v1 v2 h).bind fun h1 =>
  fX4_readSum_b8 RX4_readProduct n n v0 v1 v2 0 h1
theorem obX4_readSum_g {RX4_readProduct : Nat → Nat → Int32 → qH → Option (qH)} {n : Nat} {v0 : Nat} {v1 : Nat} {v2 : Int32} {h : qH} {p : qH} (hyp : fX4_readSum_g RX4_readProduct n v0 v1 v2 h = some p) : ∃ fs, h.1 v0 = some (.inr (4, fs)) := by
  unfold fX4_readSum_g at hyp
  exact q_bind hyp (fun _ e _ => isO_some e)
set_option maxHeartbeats 4000000 in
set_option maxRecDepth 100000 in
theorem okX4_readSum_g {l : Launch} {RX4_readProduct : Nat → Nat → Int32 → qH → Option (qH)} {dR0 d : Nat} {n : Nat} {v0 : Nat} {v1 : Nat} {v2 : Int32} {h : qH} {h' : qH} (hRX4_readProduct : ∀ {v0 : Nat} {v1 : Nat} {v2 : Int32} {h : qH} {p : qH}, RX4_readProduct v0 v1 v2 h = some p → q_M l dR0 yX4_readProduct cX4_readProduct 4 none [.ref v0, .ref v1, .int v2] h none p ∧ ∃ fs, h.1 v0 = some (.inr (4, fs))) (hd1_0 : dR0 + 1 ≤ d) (hd2 : 11 ≤ d) (hyp : fX4_readSum_g RX4_readProduct n v0 v1 v2 h = some h') : q_M l d yX4_readSum cX4_readSum 5 none [.ref v0, .ref v1, .int v2] h none h' := by
  unfold fX4_readSum_g at hyp
  refine q_bind hyp (fun _ _ hyp => ?_)
  refine q_M.of (by decide) (Nat.le_of_ble_eq_true rfl) ?_
  refine q_to (ls' := [(0, .ref v0), (1, .ref v1), (2, .int v2)]) (st' := []) rfl rfl ?_
  refine q_aload_n 0 rfl dX4_readSum_0 ?_
  refine q_aload_n 1 rfl dX4_readSum_1 ?_
  refine q_iload_n 2 rfl dX4_readSum_2 ?_
  refine q_bind hyp (fun h1 e2 hyp => ?_)
  refine q_callV (as := [.ref v1, .int v2]) (st := []) kY_X4_readProduct kL_X4_172 (hRX4_readProduct e2).1 hd1_0 rfl (hRX4_readProduct e2).2 (Nat.le_of_ble_eq_true rfl) dX4_readSum_3 ?_
  refine q_to (ls' := [(0, .ref v0), (1, .ref v1), (2, .int v2)]) (st' := []) rfl rfl ?_
  refine q_iconst (x := 0) rfl dX4_readSum_6 ?_
  refine q_istore_n (ls' := [(3, .int 0), (0, .ref v0), (1, .ref v1), (2, .int v2)]) (by decide) rfl dX4_readSum_7 ?_
  exact q_sub [1, 2, 3, 0] rfl (okX4_readSum_b8 hRX4_readProduct hd1_0 hd2 _ v0 v1 v2 0 h1 hyp)
theorem dX4_readTest_0 : decode cX4_readTest 0 = .ok (.aload_n 0, 1) := by decide +kernel
theorem dX4_readTest_1 : decode cX4_readTest 1 = .ok (.aload_n 1, 1) := by decide +kernel
theorem dX4_readTest_2 : decode cX4_readTest 2 = .ok (.iload_n 2, 1) := by decide +kernel
theorem dX4_readTest_3 : decode cX4_readTest 3 = .ok (.invokevirtual 166, 3) := by decide +kernel
theorem dX4_readTest_6 : decode cX4_readTest 6 = .ok (.aload_n 0, 1) := by decide +kernel
theorem dX4_readTest_7 : decode cX4_readTest 7 = .ok (.getfield 9, 3) := by decide +kernel
theorem dX4_readTest_10 : decode cX4_readTest 10 = .ok (.bipush 60, 2) := by decide +kernel
theorem dX4_readTest_12 : decode cX4_readTest 12 = .ok (.invokevirtual 169, 3) := by decide +kernel
theorem dX4_readTest_15 : decode cX4_readTest 15 = .ok (.ifCond .ne 15, 3) := by decide +kernel
theorem dX4_readTest_18 : decode cX4_readTest 18 = .ok (.aload_n 0, 1) := by decide +kernel
theorem dX4_readTest_19 : decode cX4_readTest 19 = .ok (.getfield 9, 3) := by decide +kernel
theorem dX4_readTest_22 : decode cX4_readTest 22 = .ok (.bipush 61, 2) := by decide +kernel
theorem dX4_readTest_24 : decode cX4_readTest 24 = .ok (.invokevirtual 169, 3) := by decide +kernel
theorem dX4_readTest_27 : decode cX4_readTest 27 = .ok (.ifCond .eq 33, 3) := by decide +kernel
theorem dX4_readTest_30 : decode cX4_readTest 30 = .ok (.aload_n 0, 1) := by decide +kernel
theorem dX4_readTest_31 : decode cX4_readTest 31 = .ok (.getfield 9, 3) := by decide +kernel
theorem dX4_readTest_34 : decode cX4_readTest 34 = .ok (.getfield 29, 3) := by decide +kernel
theorem dX4_readTest_37 : decode cX4_readTest 37 = .ok (.istore_n 3, 1) := by decide +kernel
theorem dX4_readTest_38 : decode cX4_readTest 38 = .ok (.aload_n 0, 1) := by decide +kernel
theorem dX4_readTest_39 : decode cX4_readTest 39 = .ok (.getfield 9, 3) := by decide +kernel
theorem dX4_readTest_42 : decode cX4_readTest 42 = .ok (.invokevirtual 60, 3) := by decide +kernel
theorem dX4_readTest_45 : decode cX4_readTest 45 = .ok (.aload_n 0, 1) := by decide +kernel
theorem dX4_readTest_46 : decode cX4_readTest 46 = .ok (.aload_n 1, 1) := by decide +kernel
theorem dX4_readTest_47 : decode cX4_readTest 47 = .ok (.iload_n 2, 1) := by decide +kernel
theorem dX4_readTest_48 : decode cX4_readTest 48 = .ok (.invokevirtual 166, 3) := by decide +kernel
theorem dX4_readTest_51 : decode cX4_readTest 51 = .ok (.aload_n 1, 1) := by decide +kernel
theorem dX4_readTest_52 : decode cX4_readTest 52 = .ok (.sipush 10000, 3) := by decide +kernel
theorem dX4_readTest_55 : decode cX4_readTest 55 = .ok (.iload_n 3, 1) := by decide +kernel
theorem dX4_readTest_56 : decode cX4_readTest 56 = .ok (.iadd, 1) := by decide +kernel
theorem dX4_readTest_57 : decode cX4_readTest 57 = .ok (.invokevirtual 164, 3) := by decide +kernel
theorem dX4_readTest_60 : decode cX4_readTest 60 = .ok (.return_, 1) := by decide +kernel
def fX4_readTest_b30 (RX4_readSum : Nat → Nat → Int32 → qH → Option (qH)) (n : Nat) (v0 : Nat) (v1 : Nat) (v2 : Int32) (h : qH) : Option (qH) :=
  (gR h v0 4 0).bind fun x1 =>
  (gI h x1 6 4).bind fun x3 =>
  (gR h v0 4 0).bind fun x5 =>
  (fX6_advance n x5 h).bind fun h7 =>
  (RX4_readSum v0 v1 v2 h7).bind fun h8 =>
  (fX1_add v1 (10000 + x3) h8).bind fun h9 =>
  some h9
set_option maxHeartbeats 4000000 in
set_option maxRecDepth 100000 in
theorem okX4_readTest_b30 {l : Launch} {RX4_readSum : Nat → Nat → Int32 → qH → Option (qH)} {dR0 d : Nat} {n : Nat} {v0 : Nat} {v1 : Nat} {v2 : Int32} {h : qH} {h' : qH} (hRX4_readSum : ∀ {v0 : Nat} {v1 : Nat} {v2 : Int32} {h : qH} {p : qH}, RX4_readSum v0 v1 v2 h = some p → q_M l dR0 yX4_readSum cX4_readSum 5 none [.ref v0, .ref v1, .int v2] h none p ∧ ∃ fs, h.1 v0 = some (.inr (4, fs))) (hd1_0 : dR0 + 1 ≤ d) (hd2 : 11 ≤ d) (hyp : fX4_readTest_b30 RX4_readSum n v0 v1 v2 h = some h') : q_W l d yX4_readTest cX4_readTest 4 none none h' 30 [(0, .ref v0), (1, .ref v1), (2, .int v2)] [] h := by
  unfold fX4_readTest_b30 at hyp
  refine q_aload_n 0 rfl dX4_readTest_30 ?_
  refine q_bind hyp (fun x1 e2 hyp => ?_)
  refine q_getR kF_X4_9 dX4_readTest_31 e2 ?_
  refine q_bind hyp (fun x3 e4 hyp => ?_)
  refine q_getI kF_X4_29 dX4_readTest_34 e4 ?_
  refine q_istore_n (ls' := [(3, .int x3), (0, .ref v0), (1, .ref v1), (2, .int v2)]) (by decide) rfl dX4_readTest_37 ?_
  refine q_aload_n 1 rfl dX4_readTest_38 ?_
  refine q_bind hyp (fun x5 e6 hyp => ?_)
  refine q_getR kF_X4_9 dX4_readTest_39 e6 ?_
  refine q_bind hyp (fun h7 e12 hyp => ?_)
  refine q_callV (as := []) (st := []) kY_X6_advance kL_X4_60 (okX6_advance (l := l) e12) (Nat.le_trans (by decide) hd2) rfl (obX6_advance e12) (Nat.le_of_ble_eq_true rfl) dX4_readTest_42 ?_
  refine q_to (ls' := [(3, .int x3), (0, .ref v0), (1, .ref v1), (2, .int v2)]) (st' := []) rfl rfl ?_
  refine q_aload_n 1 rfl dX4_readTest_45 ?_
  refine q_aload_n 2 rfl dX4_readTest_46 ?_
  refine q_iload_n 3 rfl dX4_readTest_47 ?_
  refine q_bind hyp (fun h8 e11 hyp => ?_)
  refine q_callV (as := [.ref v1, .int v2]) (st := []) kY_X4_readSum kL_X4_166 (hRX4_readSum e11).1 hd1_0 rfl (hRX4_readSum e11).2 (Nat.le_of_ble_eq_true rfl) dX4_readTest_48 ?_
  refine q_to (ls' := [(3, .int x3), (0, .ref v0), (1, .ref v1), (2, .int v2)]) (st' := []) rfl rfl ?_
  refine q_aload_n 2 rfl dX4_readTest_51 ?_
  refine q_sipush (x := 10000) (by decide) dX4_readTest_52 ?_
  refine q_iload_n 0 rfl dX4_readTest_55 ?_
  refine q_iadd dX4_readTest_56 ?_
  refine q_bind hyp (fun h9 e10 hyp => ?_)
  refine q_callV (as := [.int (10000 + x3)]) (st := []) kY_X1_add kL_X4_164 (okX1_add (l := l) e10) (Nat.le_trans (by decide) hd2) rfl (obX1_add e10) (Nat.le_of_ble_eq_true rfl) dX4_readTest_57 ?_
  refine q_to (ls' := [(3, .int x3), (0, .ref v0), (1, .ref v1), (2, .int v2)]) (st' := []) rfl rfl ?_
  exact q_vretH rfl dX4_readTest_60 hyp
def fX4_readTest_g (RX4_readSum : Nat → Nat → Int32 → qH → Option (qH)) (n : Nat) (v0 : Nat) (v1 : Nat) (v2 : Int32) (h : qH) : Option (qH) :=
  (isO h v0 4).bind fun _ =>
  (RX4_readSum v0 v1 v2 h).bind fun h1 =>
  (gR h1 v0 4 0).bind fun x2 =>
  (fX6_isType x2 60 h1).bind fun p4 =>
  if p4.1 = 0 then
  ((gR p4.2 v0 4 0).bind fun x6 =>
  (fX6_isType x6 61 p4.2).bind fun p8 =>
  if p8.1 = 0 then
  (some p8.2)
  else
  (fX4_readTest_b30 RX4_readSum n v0 v1 v2 p8.2))
  else
  (fX4_readTest_b30 RX4_readSum n v0 v1 v2 p4.2)
theorem obX4_readTest_g {RX4_readSum : Nat → Nat → Int32 → qH → Option (qH)} {n : Nat} {v0 : Nat} {v1 : Nat} {v2 : Int32} {h : qH} {p : qH} (hyp : fX4_readTest_g RX4_readSum n v0 v1 v2 h = some p) : ∃ fs, h.1 v0 = some (.inr (4, fs)) := by
  unfold fX4_readTest_g at hyp
  exact q_bind hyp (fun _ e _ => isO_some e)
set_option maxHeartbeats 4000000 in
set_option maxRecDepth 100000 in
theorem okX4_readTest_g {l : Launch} {RX4_readSum : Nat → Nat → Int32 → qH → Option (qH)} {dR0 d : Nat} {n : Nat} {v0 : Nat} {v1 : Nat} {v2 : Int32} {h : qH} {h' : qH} (hRX4_readSum : ∀ {v0 : Nat} {v1 : Nat} {v2 : Int32} {h : qH} {p : qH}, RX4_readSum v0 v1 v2 h = some p → q_M l dR0 yX4_readSum cX4_readSum 5 none [.ref v0, .ref v1, .int v2] h none p ∧ ∃ fs, h.1 v0 = some (.inr (4, fs))) (hd1_0 : dR0 + 1 ≤ d) (hd2 : 11 ≤ d) (hyp : fX4_readTest_g RX4_readSum n v0 v1 v2 h = some h') : q_M l d yX4_readTest cX4_readTest 4 none [.ref v0, .ref v1, .int v2] h none h' := by
  unfold fX4_readTest_g at hyp
  refine q_bind hyp (fun _ _ hyp => ?_)
  refine q_M.of (by decide) (Nat.le_of_ble_eq_true rfl) ?_
  refine q_to (ls' := [(0, .ref v0), (1, .ref v1), (2, .int v2)]) (st' := []) rfl rfl ?_
  refine q_aload_n 0 rfl dX4_readTest_0 ?_
  refine q_aload_n 1 rfl dX4_readTest_1 ?_
  refine q_iload_n 2 rfl dX4_readTest_2 ?_
  refine q_bind hyp (fun h1 e12 hyp => ?_)
  refine q_callV (as := [.ref v1, .int v2]) (st := []) kY_X4_readSum kL_X4_166 (hRX4_readSum e12).1 hd1_0 rfl (hRX4_readSum e12).2 (Nat.le_of_ble_eq_true rfl) dX4_readTest_3 ?_
  refine q_to (ls' := [(0, .ref v0), (1, .ref v1), (2, .int v2)]) (st' := []) rfl rfl ?_
  refine q_aload_n 0 rfl dX4_readTest_6 ?_
  refine q_bind hyp (fun x2 e3 hyp => ?_)
  refine q_getR kF_X4_9 dX4_readTest_7 e3 ?_
  refine q_bipush (x := 60) (by decide) dX4_readTest_10 ?_
  refine q_bind hyp (fun p4 e11 hyp => ?_)
  refine q_callV (as := [.int 60]) (st := []) kY_X6_isType kL_X4_169 (okX6_isType (l := l) e11) (Nat.le_trans (by decide) hd2) rfl (obX6_isType e11) (Nat.le_of_ble_eq_true rfl) dX4_readTest_12 ?_
  refine q_to (ls' := [(0, .ref v0), (1, .ref v1), (2, .int v2)]) (st' := [.int p4.1]) rfl rfl ?_
  refine q_if_ne (tgt := 30) dX4_readTest_15 (by decide) (fun c5 => ?_) (fun c5 => ?_)
  · have hyp := q_neg c5 hyp
    exact q_sub [0, 1, 2] rfl (okX4_readTest_b30 hRX4_readSum hd1_0 hd2 hyp)
  · have hyp := q_pos c5 hyp
    refine q_aload_n 0 rfl dX4_readTest_18 ?_
    refine q_bind hyp (fun x6 e7 hyp => ?_)
    refine q_getR kF_X4_9 dX4_readTest_19 e7 ?_
    refine q_bipush (x := 61) (by decide) dX4_readTest_22 ?_
    refine q_bind hyp (fun p8 e10 hyp => ?_)
    refine q_callV (as := [.int 61]) (st := []) kY_X6_isType kL_X4_169 (okX6_isType (l := l) e10) (Nat.le_trans (by decide) hd2) rfl (obX6_isType e10) (Nat.le_of_ble_eq_true rfl) dX4_readTest_24 ?_
    refine q_to (ls' := [(0, .ref v0), (1, .ref v1), (2, .int v2)]) (st' := [.int p8.1]) rfl rfl ?_
    refine q_if_eq (tgt := 60) dX4_readTest_27 (by decide) (fun c9 => ?_) (fun c9 => ?_)
    · have hyp := q_pos c9 hyp
      exact q_vretH rfl dX4_readTest_60 hyp
    · have hyp := q_neg c9 hyp
      exact q_sub [0, 1, 2] rfl (okX4_readTest_b30 hRX4_readSum hd1_0 hd2 hyp)
theorem dX4_readE_0 : decode cX4_readE 0 = .ok (.aload_n 0, 1) := by decide +kernel
theorem dX4_readE_1 : decode cX4_readE 1 = .ok (.aload_n 1, 1) := by decide +kernel
theorem dX4_readE_2 : decode cX4_readE 2 = .ok (.iload_n 2, 1) := by decide +kernel
theorem dX4_readE_3 : decode cX4_readE 3 = .ok (.invokevirtual 154, 3) := by decide +kernel
theorem dX4_readE_6 : decode cX4_readE 6 = .ok (.iconst 0, 1) := by decide +kernel
theorem dX4_readE_7 : decode cX4_readE 7 = .ok (.istore_n 3, 1) := by decide +kernel
theorem dX4_readE_8 : decode cX4_readE 8 = .ok (.iload_n 3, 1) := by decide +kernel
theorem dX4_readE_9 : decode cX4_readE 9 = .ok (.sipush 1000, 3) := by decide +kernel
theorem dX4_readE_12 : decode cX4_readE 12 = .ok (.if_icmp .ge 65, 3) := by decide +kernel
theorem dX4_readE_15 : decode cX4_readE 15 = .ok (.aload_n 0, 1) := by decide +kernel
theorem dX4_readE_16 : decode cX4_readE 16 = .ok (.getfield 9, 3) := by decide +kernel
theorem dX4_readE_19 : decode cX4_readE 19 = .ok (.bipush 16, 2) := by decide +kernel
theorem dX4_readE_21 : decode cX4_readE 21 = .ok (.invokevirtual 157, 3) := by decide +kernel
theorem dX4_readE_24 : decode cX4_readE 24 = .ok (.ifCond .ne 15, 3) := by decide +kernel
theorem dX4_readE_27 : decode cX4_readE 27 = .ok (.aload_n 0, 1) := by decide +kernel
theorem dX4_readE_28 : decode cX4_readE 28 = .ok (.getfield 9, 3) := by decide +kernel
theorem dX4_readE_31 : decode cX4_readE 31 = .ok (.bipush 17, 2) := by decide +kernel
theorem dX4_readE_33 : decode cX4_readE 33 = .ok (.invokevirtual 157, 3) := by decide +kernel
theorem dX4_readE_36 : decode cX4_readE 36 = .ok (.ifCond .eq 41, 3) := by decide +kernel
theorem dX4_readE_39 : decode cX4_readE 39 = .ok (.aload_n 0, 1) := by decide +kernel
theorem dX4_readE_40 : decode cX4_readE 40 = .ok (.getfield 9, 3) := by decide +kernel
theorem dX4_readE_43 : decode cX4_readE 43 = .ok (.getfield 161, 3) := by decide +kernel
theorem dX4_readE_46 : decode cX4_readE 46 = .ok (.istore 4, 2) := by decide +kernel
theorem dX4_readE_48 : decode cX4_readE 48 = .ok (.aload_n 0, 1) := by decide +kernel
theorem dX4_readE_49 : decode cX4_readE 49 = .ok (.getfield 9, 3) := by decide +kernel
theorem dX4_readE_52 : decode cX4_readE 52 = .ok (.invokevirtual 60, 3) := by decide +kernel
theorem dX4_readE_55 : decode cX4_readE 55 = .ok (.aload_n 0, 1) := by decide +kernel
theorem dX4_readE_56 : decode cX4_readE 56 = .ok (.aload_n 1, 1) := by decide +kernel
theorem dX4_readE_57 : decode cX4_readE 57 = .ok (.iload_n 2, 1) := by decide +kernel
theorem dX4_readE_58 : decode cX4_readE 58 = .ok (.invokevirtual 154, 3) := by decide +kernel
theorem dX4_readE_61 : decode cX4_readE 61 = .ok (.aload_n 1, 1) := by decide +kernel
theorem dX4_readE_62 : decode cX4_readE 62 = .ok (.sipush 10000, 3) := by decide +kernel
theorem dX4_readE_65 : decode cX4_readE 65 = .ok (.iload 4, 2) := by decide +kernel
theorem dX4_readE_67 : decode cX4_readE 67 = .ok (.iadd, 1) := by decide +kernel
theorem dX4_readE_68 : decode cX4_readE 68 = .ok (.invokevirtual 164, 3) := by decide +kernel
theorem dX4_readE_71 : decode cX4_readE 71 = .ok (.iinc 3 1, 3) := by decide +kernel
theorem dX4_readE_74 : decode cX4_readE 74 = .ok (.goto (-66), 3) := by decide +kernel
theorem dX4_readE_77 : decode cX4_readE 77 = .ok (.return_, 1) := by decide +kernel
def fX4_readE_b39 (RX4_readTest : Nat → Nat → Int32 → qH → Option (qH)) (n : Nat) (K8 : Nat → Nat → Int32 → Int32 → qH → Option (qH)) (v0 : Nat) (v1 : Nat) (v2 : Int32) (v3 : Int32) (h : qH) : Option (qH) :=
  (gR h v0 4 0).bind fun x1 =>
  (gI h x1 6 7).bind fun x3 =>
  (gR h v0 4 0).bind fun x5 =>
  (fX6_advance n x5 h).bind fun h7 =>
  (RX4_readTest v0 v1 v2 h7).bind fun h8 =>
  (fX1_add v1 (10000 + x3) h8).bind fun h9 =>
  K8 v0 v1 v2 (v3 + 1) h9
set_option maxHeartbeats 4000000 in
set_option maxRecDepth 100000 in
theorem okX4_readE_b39 {l : Launch} {RX4_readTest : Nat → Nat → Int32 → qH → Option (qH)} {dR0 d : Nat} {n : Nat} {K8 : Nat → Nat → Int32 → Int32 → qH → Option (qH)} {v0 : Nat} {v1 : Nat} {v2 : Int32} {v3 : Int32} {h : qH} {h' : qH} (hRX4_readTest : ∀ {v0 : Nat} {v1 : Nat} {v2 : Int32} {h : qH} {p : qH}, RX4_readTest v0 v1 v2 h = some p → q_M l dR0 yX4_readTest cX4_readTest 4 none [.ref v0, .ref v1, .int v2] h none p ∧ ∃ fs, h.1 v0 = some (.inr (4, fs))) (hd1_0 : dR0 + 1 ≤ d) (hd2 : 11 ≤ d) (hK8 : ∀ (v0 : Nat) (v1 : Nat) (v2 : Int32) (v3 : Int32) (h : qH), K8 v0 v1 v2 v3 h = some h' → q_W l d yX4_readE cX4_readE 5 none none h' 8 [(0, .ref v0), (1, .ref v1), (2, .int v2), (3, .int v3)] [] h) (hyp : fX4_readE_b39 RX4_readTest n K8 v0 v1 v2 v3 h = some h') : q_W l d yX4_readE cX4_readE 5 none none h' 39 [(0, .ref v0), (1, .ref v1), (2, .int v2), (3, .int v3)] [] h := by
  unfold fX4_readE_b39 at hyp
  refine q_aload_n 0 rfl dX4_readE_39 ?_
  refine q_bind hyp (fun x1 e2 hyp => ?_)
  refine q_getR kF_X4_9 dX4_readE_40 e2 ?_
  refine q_bind hyp (fun x3 e4 hyp => ?_)
  refine q_getI kF_X4_161 dX4_readE_43 e4 ?_
  refine q_istore (ls' := [(4, .int x3), (0, .ref v0), (1, .ref v1), (2, .int v2), (3, .int v3)]) (by decide) rfl dX4_readE_46 ?_
  refine q_aload_n 1 rfl dX4_readE_48 ?_
  refine q_bind hyp (fun x5 e6 hyp => ?_)
  refine q_getR kF_X4_9 dX4_readE_49 e6 ?_
  refine q_bind hyp (fun h7 e12 hyp => ?_)
  refine q_callV (as := []) (st := []) kY_X6_advance kL_X4_60 (okX6_advance (l := l) e12) (Nat.le_trans (by decide) hd2) rfl (obX6_advance e12) (Nat.le_of_ble_eq_true rfl) dX4_readE_52 ?_
  refine q_to (ls' := [(4, .int x3), (0, .ref v0), (1, .ref v1), (2, .int v2), (3, .int v3)]) (st' := []) rfl rfl ?_
  refine q_aload_n 1 rfl dX4_readE_55 ?_
  refine q_aload_n 2 rfl dX4_readE_56 ?_
  refine q_iload_n 3 rfl dX4_readE_57 ?_
  refine q_bind hyp (fun h8 e11 hyp => ?_)
  refine q_callV (as := [.ref v1, .int v2]) (st := []) kY_X4_readTest kL_X4_154 (hRX4_readTest e11).1 hd1_0 rfl (hRX4_readTest e11).2 (Nat.le_of_ble_eq_true rfl) dX4_readE_58 ?_
  refine q_to (ls' := [(4, .int x3), (0, .ref v0), (1, .ref v1), (2, .int v2), (3, .int v3)]) (st' := []) rfl rfl ?_
  refine q_aload_n 2 rfl dX4_readE_61 ?_
  refine q_sipush (x := 10000) (by decide) dX4_readE_62 ?_
  refine q_iload 0 rfl dX4_readE_65 ?_
  refine q_iadd dX4_readE_67 ?_
  refine q_bind hyp (fun h9 e10 hyp => ?_)
  refine q_callV (as := [.int (10000 + x3)]) (st := []) kY_X1_add kL_X4_164 (okX1_add (l := l) e10) (Nat.le_trans (by decide) hd2) rfl (obX1_add e10) (Nat.le_of_ble_eq_true rfl) dX4_readE_68 ?_
  refine q_to (ls' := [(4, .int x3), (0, .ref v0), (1, .ref v1), (2, .int v2), (3, .int v3)]) (st' := []) rfl rfl ?_
  refine q_iinc (ls' := [(3, .int (v3 + 1)), (4, .int x3), (0, .ref v0), (1, .ref v1), (2, .int v2)]) 4 rfl rfl (by decide) rfl dX4_readE_71 ?_
  refine q_goto (tgt := 8) dX4_readE_74 (by decide) ?_
  exact q_sub [2, 3, 4, 0] rfl (hK8 v0 v1 v2 (v3 + 1) h9 hyp)
def fX4_readE_b8 (RX4_readTest : Nat → Nat → Int32 → qH → Option (qH)) (n : Nat) : Nat → Nat → Nat → Int32 → Int32 → qH → Option (qH)
  | 0, _, _, _, _, _ => none
  | w + 1, v0, v1, v2, v3, h =>
    if 1000 ≤ v3 then
    (some h)
    else
    ((gR h v0 4 0).bind fun x2 =>
    (fX6_isKey x2 16 h).bind fun p4 =>
    if p4.1 = 0 then
    ((gR p4.2 v0 4 0).bind fun x6 =>
    (fX6_isKey x6 17 p4.2).bind fun p8 =>
    if p8.1 = 0 then
    (some p8.2)
    else
    (fX4_readE_b39 RX4_readTest n (fX4_readE_b8 RX4_readTest n w) v0 v1 v2 v3 p8.2))
    else
    (fX4_readE_b39 RX4_readTest n (fX4_readE_b8 RX4_readTest n w) v0 v1 v2 v3 p4.2))
set_option maxHeartbeats 4000000 in
set_option maxRecDepth 100000 in
theorem okX4_readE_b8 {l : Launch} {RX4_readTest : Nat → Nat → Int32 → qH → Option (qH)} {dR0 d : Nat} {n : Nat} {h' : qH} (hRX4_readTest : ∀ {v0 : Nat} {v1 : Nat} {v2 : Int32} {h : qH} {p : qH}, RX4_readTest v0 v1 v2 h = some p → q_M l dR0 yX4_readTest cX4_readTest 4 none [.ref v0, .ref v1, .int v2] h none p ∧ ∃ fs, h.1 v0 = some (.inr (4, fs))) (hd1_0 : dR0 + 1 ≤ d) (hd2 : 11 ≤ d) : ∀ (w : Nat) (v0 : Nat) (v1 : Nat) (v2 : Int32) (v3 : Int32) (h : qH), fX4_readE_b8 RX4_readTest n w v0 v1 v2 v3 h = some h' → q_W l d yX4_readE cX4_readE 5 none none h' 8 [(0, .ref v0), (1, .ref v1), (2, .int v2), (3, .int v3)] [] h := by
  intro w
  induction w with
  | zero => intro v0 v1 v2 v3 h hyp; cases hyp
  | succ w ih =>
    intro v0 v1 v2 v3 h hyp
    unfold fX4_readE_b8 at hyp
    refine q_iload_n 3 rfl dX4_readE_8 ?_
    refine q_sipush (x := 1000) (by decide) dX4_readE_9 ?_
    refine q_icmp_ge (tgt := 77) dX4_readE_12 (by decide) (fun c1 => ?_) (fun c1 => ?_)
    · have hyp := q_pos c1 hyp
      exact q_vretH rfl dX4_readE_77 hyp
    · have hyp := q_neg c1 hyp
      refine q_aload_n 0 rfl dX4_readE_15 ?_
      refine q_bind hyp (fun x2 e3 hyp => ?_)
      refine q_getR kF_X4_9 dX4_readE_16 e3 ?_
      refine q_bipush (x := 16) (by decide) dX4_readE_19 ?_
      refine q_bind hyp (fun p4 e11 hyp => ?_)
      refine q_callV (as := [.int 16]) (st := []) kY_X6_isKey kL_X4_157 (okX6_isKey (l := l) e11) (Nat.le_trans (by decide) hd2) rfl (obX6_isKey e11) (Nat.le_of_ble_eq_true rfl) dX4_readE_21 ?_
      refine q_to (ls' := [(0, .ref v0), (1, .ref v1), (2, .int v2), (3, .int v3)]) (st' := [.int p4.1]) rfl rfl ?_
      refine q_if_ne (tgt := 39) dX4_readE_24 (by decide) (fun c5 => ?_) (fun c5 => ?_)
      · have hyp := q_neg c5 hyp
        exact q_sub [0, 1, 2, 3] rfl (okX4_readE_b39 hRX4_readTest hd1_0 hd2 ih hyp)
      · have hyp := q_pos c5 hyp
        refine q_aload_n 0 rfl dX4_readE_27 ?_
        refine q_bind hyp (fun x6 e7 hyp => ?_)
        refine q_getR kF_X4_9 dX4_readE_28 e7 ?_
        refine q_bipush (x := 17) (by decide) dX4_readE_31 ?_
        refine q_bind hyp (fun p8 e10 hyp => ?_)
        refine q_callV (as := [.int 17]) (st := []) kY_X6_isKey kL_X4_157 (okX6_isKey (l := l) e10) (Nat.le_trans (by decide) hd2) rfl (obX6_isKey e10) (Nat.le_of_ble_eq_true rfl) dX4_readE_33 ?_
        refine q_to (ls' := [(0, .ref v0), (1, .ref v1), (2, .int v2), (3, .int v3)]) (st' := [.int p8.1]) rfl rfl ?_
        refine q_if_eq (tgt := 77) dX4_readE_36 (by decide) (fun c9 => ?_) (fun c9 => ?_)
        · have hyp := q_pos c9 hyp
          exact q_vretH rfl dX4_readE_77 hyp
        · have hyp := q_neg c9 hyp
          exact q_sub [0, 1, 2, 3] rfl (okX4_readE_b39 hRX4_readTest hd1_0 hd2 ih hyp)
def fX4_readE_g (RX4_readTest : Nat → Nat → Int32 → qH → Option (qH)) (n : Nat) (v0 : Nat) (v1 : Nat) (v2 : Int32) (h : qH) : Option (qH) :=
  (isO h v0 4).bind fun _ =>
  (RX4_readTest v0 v1 v2 h).bind fun h1 =>
  fX4_readE_b8 RX4_readTest n n v0 v1 v2 0 h1
theorem obX4_readE_g {RX4_readTest : Nat → Nat → Int32 → qH → Option (qH)} {n : Nat} {v0 : Nat} {v1 : Nat} {v2 : Int32} {h : qH} {p : qH} (hyp : fX4_readE_g RX4_readTest n v0 v1 v2 h = some p) : ∃ fs, h.1 v0 = some (.inr (4, fs)) := by
  unfold fX4_readE_g at hyp
  exact q_bind hyp (fun _ e _ => isO_some e)
set_option maxHeartbeats 4000000 in
set_option maxRecDepth 100000 in
theorem okX4_readE_g {l : Launch} {RX4_readTest : Nat → Nat → Int32 → qH → Option (qH)} {dR0 d : Nat} {n : Nat} {v0 : Nat} {v1 : Nat} {v2 : Int32} {h : qH} {h' : qH} (hRX4_readTest : ∀ {v0 : Nat} {v1 : Nat} {v2 : Int32} {h : qH} {p : qH}, RX4_readTest v0 v1 v2 h = some p → q_M l dR0 yX4_readTest cX4_readTest 4 none [.ref v0, .ref v1, .int v2] h none p ∧ ∃ fs, h.1 v0 = some (.inr (4, fs))) (hd1_0 : dR0 + 1 ≤ d) (hd2 : 11 ≤ d) (hyp : fX4_readE_g RX4_readTest n v0 v1 v2 h = some h') : q_M l d yX4_readE cX4_readE 5 none [.ref v0, .ref v1, .int v2] h none h' := by
  unfold fX4_readE_g at hyp
  refine q_bind hyp (fun _ _ hyp => ?_)
  refine q_M.of (by decide) (Nat.le_of_ble_eq_true rfl) ?_
  refine q_to (ls' := [(0, .ref v0), (1, .ref v1), (2, .int v2)]) (st' := []) rfl rfl ?_
  refine q_aload_n 0 rfl dX4_readE_0 ?_
  refine q_aload_n 1 rfl dX4_readE_1 ?_
  refine q_iload_n 2 rfl dX4_readE_2 ?_
  refine q_bind hyp (fun h1 e2 hyp => ?_)
  refine q_callV (as := [.ref v1, .int v2]) (st := []) kY_X4_readTest kL_X4_154 (hRX4_readTest e2).1 hd1_0 rfl (hRX4_readTest e2).2 (Nat.le_of_ble_eq_true rfl) dX4_readE_3 ?_
  refine q_to (ls' := [(0, .ref v0), (1, .ref v1), (2, .int v2)]) (st' := []) rfl rfl ?_
  refine q_iconst (x := 0) rfl dX4_readE_6 ?_
  refine q_istore_n (ls' := [(3, .int 0), (0, .ref v0), (1, .ref v1), (2, .int v2)]) (by decide) rfl dX4_readE_7 ?_
  exact q_sub [1, 2, 3, 0] rfl (okX4_readE_b8 hRX4_readTest hd1_0 hd2 _ v0 v1 v2 0 h1 hyp)
def fX4_prod (P : Nat → Nat → Int32 → qH → Option qH) (n : Nat) : Nat → Nat → Int32 → qH → Option qH := fX4_readProduct_g P n
def fX4_sum (P : Nat → Nat → Int32 → qH → Option qH) (n : Nat) : Nat → Nat → Int32 → qH → Option qH := fX4_readSum_g (fX4_prod P n) n
def fX4_test (P : Nat → Nat → Int32 → qH → Option qH) (n : Nat) : Nat → Nat → Int32 → qH → Option qH := fX4_readTest_g (fX4_sum P n) n
def fX4_e (P : Nat → Nat → Int32 → qH → Option qH) (n : Nat) : Nat → Nat → Int32 → qH → Option qH := fX4_readE_g (fX4_test P n) n
def fX4_part (n : Nat) : Nat → Nat → Nat → Int32 → qH → Option qH
  | 0, _, _, _, _ => none
  | k + 1, v0, v1, v2, h => fX4_readPart_g (fX4_e (fX4_part n k) n) (fX4_part n k) n v0 v1 v2 h
theorem okX4_chain {l : Launch} {n D : Nat} {P : Nat → Nat → Int32 → qH → Option qH} (hD : 12 ≤ D) (hP : (∀ {v0 : Nat} {v1 : Nat} {v2 : Int32} {h : qH} {p : qH}, P v0 v1 v2 h = some p → q_M l (D) yX4_readPart cX4_readPart 4 none [.ref v0, .ref v1, .int v2] h none p ∧ ∃ fs, h.1 v0 = some (.inr (4, fs)))) :
    (∀ {v0 : Nat} {v1 : Nat} {v2 : Int32} {h : qH} {p : qH}, fX4_prod P n v0 v1 v2 h = some p → q_M l (D + 1) yX4_readProduct cX4_readProduct 4 none [.ref v0, .ref v1, .int v2] h none p ∧ ∃ fs, h.1 v0 = some (.inr (4, fs))) ∧ (∀ {v0 : Nat} {v1 : Nat} {v2 : Int32} {h : qH} {p : qH}, fX4_sum P n v0 v1 v2 h = some p → q_M l (D + 2) yX4_readSum cX4_readSum 5 none [.ref v0, .ref v1, .int v2] h none p ∧ ∃ fs, h.1 v0 = some (.inr (4, fs))) ∧ (∀ {v0 : Nat} {v1 : Nat} {v2 : Int32} {h : qH} {p : qH}, fX4_test P n v0 v1 v2 h = some p → q_M l (D + 3) yX4_readTest cX4_readTest 4 none [.ref v0, .ref v1, .int v2] h none p ∧ ∃ fs, h.1 v0 = some (.inr (4, fs))) ∧ (∀ {v0 : Nat} {v1 : Nat} {v2 : Int32} {h : qH} {p : qH}, fX4_e P n v0 v1 v2 h = some p → q_M l (D + 4) yX4_readE cX4_readE 5 none [.ref v0, .ref v1, .int v2] h none p ∧ ∃ fs, h.1 v0 = some (.inr (4, fs))) := by
  have h1 : (∀ {v0 : Nat} {v1 : Nat} {v2 : Int32} {h : qH} {p : qH}, fX4_prod P n v0 v1 v2 h = some p → q_M l (D + 1) yX4_readProduct cX4_readProduct 4 none [.ref v0, .ref v1, .int v2] h none p ∧ ∃ fs, h.1 v0 = some (.inr (4, fs))) := fun hyp => ⟨okX4_readProduct_g (dR0 := D) hP (Nat.le_refl _) (by omega) hyp, obX4_readProduct_g hyp⟩
  have h2 : (∀ {v0 : Nat} {v1 : Nat} {v2 : Int32} {h : qH} {p : qH}, fX4_sum P n v0 v1 v2 h = some p → q_M l (D + 2) yX4_readSum cX4_readSum 5 none [.ref v0, .ref v1, .int v2] h none p ∧ ∃ fs, h.1 v0 = some (.inr (4, fs))) := fun hyp => ⟨okX4_readSum_g (dR0 := D + 1) h1 (Nat.le_refl _) (by omega) hyp, obX4_readSum_g hyp⟩
  have h3 : (∀ {v0 : Nat} {v1 : Nat} {v2 : Int32} {h : qH} {p : qH}, fX4_test P n v0 v1 v2 h = some p → q_M l (D + 3) yX4_readTest cX4_readTest 4 none [.ref v0, .ref v1, .int v2] h none p ∧ ∃ fs, h.1 v0 = some (.inr (4, fs))) := fun hyp => ⟨okX4_readTest_g (dR0 := D + 2) h2 (Nat.le_refl _) (by omega) hyp, obX4_readTest_g hyp⟩
  exact ⟨h1, h2, h3, fun hyp => ⟨okX4_readE_g (dR0 := D + 3) h3 (Nat.le_refl _) (by omega) hyp, obX4_readE_g hyp⟩⟩
theorem okX4_part {l : Launch} {n : Nat} : ∀ k : Nat, (∀ {v0 : Nat} {v1 : Nat} {v2 : Int32} {h : qH} {p : qH}, fX4_part n k v0 v1 v2 h = some p → q_M l (12 + 5 * k) yX4_readPart cX4_readPart 4 none [.ref v0, .ref v1, .int v2] h none p ∧ ∃ fs, h.1 v0 = some (.inr (4, fs))) := by
  intro k
  induction k with
  | zero => intro v0 v1 v2 h p hyp; unfold fX4_part at hyp; cases hyp
  | succ k ih =>
    intro v0 v1 v2 h p hyp
    unfold fX4_part at hyp
    obtain ⟨-, -, -, hE⟩ := okX4_chain (l := l) (n := n) (D := 12 + 5 * k) (P := fX4_part n k) (Nat.le_add_right _ _) ih
    exact ⟨okX4_readPart_g (dR0 := 12 + 5 * k + 4) (dR1 := 12 + 5 * k) hE ih (by omega) (by omega) (by omega) hyp, obX4_readPart_g hyp⟩
def fX4_readE (n : Nat) : Nat → Nat → Int32 → qH → Option qH := fX4_e (fX4_part n 7) n
theorem obX4_readE {n : Nat} {v0 : Nat} {v1 : Nat} {v2 : Int32} {h : qH} {p : qH} (hyp : fX4_readE n v0 v1 v2 h = some p) : ∃ fs, h.1 v0 = some (.inr (4, fs)) := ((okX4_chain (l := launch0) (n := n) (Nat.le_add_right _ _) (okX4_part 7)).2.2.2 hyp).2
theorem okX4_readE {l : Launch} {n : Nat} {v0 : Nat} {v1 : Nat} {v2 : Int32} {h : qH} {p : qH} (hyp : fX4_readE n v0 v1 v2 h = some p) : q_M l 51 yX4_readE cX4_readE 5 none [.ref v0, .ref v1, .int v2] h none p := ((okX4_chain (l := l) (n := n) (Nat.le_add_right _ _) (okX4_part 7)).2.2.2 hyp).1
theorem dX4_readSetting_0 : decode cX4_readSetting 0 = .ok (.aload_n 1, 1) := by decide +kernel
theorem dX4_readSetting_1 : decode cX4_readSetting 1 = .ok (.getfield 117, 3) := by decide +kernel
theorem dX4_readSetting_4 : decode cX4_readSetting 4 = .ok (.iload_n 2, 1) := by decide +kernel
theorem dX4_readSetting_5 : decode cX4_readSetting 5 = .ok (.invokestatic 114, 3) := by decide +kernel
theorem dX4_readSetting_8 : decode cX4_readSetting 8 = .ok (.iconst 1, 1) := by decide +kernel
theorem dX4_readSetting_9 : decode cX4_readSetting 9 = .ok (.if_icmp .ne 12, 3) := by decide +kernel
theorem dX4_readSetting_12 : decode cX4_readSetting 12 = .ok (.aload_n 0, 1) := by decide +kernel
theorem dX4_readSetting_13 : decode cX4_readSetting 13 = .ok (.getfield 9, 3) := by decide +kernel
theorem dX4_readSetting_16 : decode cX4_readSetting 16 = .ok (.iconst 3, 1) := by decide +kernel
theorem dX4_readSetting_17 : decode cX4_readSetting 17 = .ok (.invokevirtual 47, 3) := by decide +kernel
theorem dX4_readSetting_20 : decode cX4_readSetting 20 = .ok (.return_, 1) := by decide +kernel
theorem dX4_readSetting_21 : decode cX4_readSetting 21 = .ok (.aload_n 1, 1) := by decide +kernel
theorem dX4_readSetting_22 : decode cX4_readSetting 22 = .ok (.dup, 1) := by decide +kernel
theorem dX4_readSetting_23 : decode cX4_readSetting 23 = .ok (.getfield 117, 3) := by decide +kernel
theorem dX4_readSetting_26 : decode cX4_readSetting 26 = .ok (.iconst 1, 1) := by decide +kernel
theorem dX4_readSetting_27 : decode cX4_readSetting 27 = .ok (.iload_n 2, 1) := by decide +kernel
theorem dX4_readSetting_28 : decode cX4_readSetting 28 = .ok (.ishl, 1) := by decide +kernel
theorem dX4_readSetting_29 : decode cX4_readSetting 29 = .ok (.ior, 1) := by decide +kernel
theorem dX4_readSetting_30 : decode cX4_readSetting 30 = .ok (.putfield 117, 3) := by decide +kernel
theorem dX4_readSetting_33 : decode cX4_readSetting 33 = .ok (.aload_n 0, 1) := by decide +kernel
theorem dX4_readSetting_34 : decode cX4_readSetting 34 = .ok (.getfield 9, 3) := by decide +kernel
theorem dX4_readSetting_37 : decode cX4_readSetting 37 = .ok (.invokevirtual 60, 3) := by decide +kernel
theorem dX4_readSetting_40 : decode cX4_readSetting 40 = .ok (.iload_n 2, 1) := by decide +kernel
theorem dX4_readSetting_41 : decode cX4_readSetting 41 = .ok (.tableswitch 79 4 6 #[27, 44, 62], 27) := by decide +kernel
theorem dX4_readSetting_68 : decode cX4_readSetting 68 = .ok (.aload_n 1, 1) := by decide +kernel
theorem dX4_readSetting_69 : decode cX4_readSetting 69 = .ok (.aload_n 0, 1) := by decide +kernel
theorem dX4_readSetting_70 : decode cX4_readSetting 70 = .ok (.getfield 9, 3) := by decide +kernel
theorem dX4_readSetting_73 : decode cX4_readSetting 73 = .ok (.iconst 1, 1) := by decide +kernel
theorem dX4_readSetting_74 : decode cX4_readSetting 74 = .ok (.bipush 9, 2) := by decide +kernel
theorem dX4_readSetting_76 : decode cX4_readSetting 76 = .ok (.invokevirtual 84, 3) := by decide +kernel
theorem dX4_readSetting_79 : decode cX4_readSetting 79 = .ok (.putfield 120, 3) := by decide +kernel
theorem dX4_readSetting_82 : decode cX4_readSetting 82 = .ok (.goto 54, 3) := by decide +kernel
theorem dX4_readSetting_85 : decode cX4_readSetting 85 = .ok (.aload_n 1, 1) := by decide +kernel
theorem dX4_readSetting_86 : decode cX4_readSetting 86 = .ok (.aload_n 0, 1) := by decide +kernel
theorem dX4_readSetting_87 : decode cX4_readSetting 87 = .ok (.getfield 9, 3) := by decide +kernel
theorem dX4_readSetting_90 : decode cX4_readSetting 90 = .ok (.iconst 0, 1) := by decide +kernel
theorem dX4_readSetting_91 : decode cX4_readSetting 91 = .ok (.sipush 200, 3) := by decide +kernel
theorem dX4_readSetting_94 : decode cX4_readSetting 94 = .ok (.invokevirtual 84, 3) := by decide +kernel
theorem dX4_readSetting_97 : decode cX4_readSetting 97 = .ok (.putfield 123, 3) := by decide +kernel
theorem dX4_readSetting_100 : decode cX4_readSetting 100 = .ok (.goto 36, 3) := by decide +kernel
theorem dX4_readSetting_103 : decode cX4_readSetting 103 = .ok (.aload_n 1, 1) := by decide +kernel
theorem dX4_readSetting_104 : decode cX4_readSetting 104 = .ok (.aload_n 0, 1) := by decide +kernel
theorem dX4_readSetting_105 : decode cX4_readSetting 105 = .ok (.getfield 9, 3) := by decide +kernel
theorem dX4_readSetting_108 : decode cX4_readSetting 108 = .ok (.iconst 0, 1) := by decide +kernel
theorem dX4_readSetting_109 : decode cX4_readSetting 109 = .ok (.bipush 20, 2) := by decide +kernel
theorem dX4_readSetting_111 : decode cX4_readSetting 111 = .ok (.invokevirtual 84, 3) := by decide +kernel
theorem dX4_readSetting_114 : decode cX4_readSetting 114 = .ok (.putfield 126, 3) := by decide +kernel
theorem dX4_readSetting_117 : decode cX4_readSetting 117 = .ok (.goto 19, 3) := by decide +kernel
theorem dX4_readSetting_120 : decode cX4_readSetting 120 = .ok (.aload_n 1, 1) := by decide +kernel
theorem dX4_readSetting_121 : decode cX4_readSetting 121 = .ok (.getfield 129, 3) := by decide +kernel
theorem dX4_readSetting_124 : decode cX4_readSetting 124 = .ok (.invokevirtual 133, 3) := by decide +kernel
theorem dX4_readSetting_127 : decode cX4_readSetting 127 = .ok (.aload_n 0, 1) := by decide +kernel
theorem dX4_readSetting_128 : decode cX4_readSetting 128 = .ok (.aload_n 1, 1) := by decide +kernel
theorem dX4_readSetting_129 : decode cX4_readSetting 129 = .ok (.getfield 129, 3) := by decide +kernel
theorem dX4_readSetting_132 : decode cX4_readSetting 132 = .ok (.iconst 0, 1) := by decide +kernel
theorem dX4_readSetting_133 : decode cX4_readSetting 133 = .ok (.invokevirtual 136, 3) := by decide +kernel
theorem dX4_readSetting_136 : decode cX4_readSetting 136 = .ok (.return_, 1) := by decide +kernel
def fX4_readSetting (n : Nat) (v0 : Nat) (v1 : Nat) (v2 : Int32) (h : qH) : Option (qH) :=
  (isO h v0 4).bind fun _ =>
  (gI h v1 5 10).bind fun x1 =>
  (fX9_bit x1 v2 h).bind fun p3 =>
  if p3.1 = 1 then
  ((gR p3.2 v0 4 0).bind fun x42 =>
  (fX6_fail x42 3 p3.2).bind fun h44 =>
  some h44)
  else
  ((gI p3.2 v1 5 10).bind fun x5 =>
  (pF p3.2 v1 5 10 (.int (x5 ||| ((1 : Int32) <<< (v2 &&& 31))))).bind fun h7 =>
  (gR h7 v0 4 0).bind fun x9 =>
  (fX6_advance n x9 h7).bind fun h11 =>
  if v2 = 4 then
  ((gR h11 v0 4 0).bind fun x13 =>
  (fX6_takeNumber n x13 1 9 h11).bind fun p15 =>
  (pF p15.2 v1 5 7 (.int p15.1)).bind fun h16 =>
  some h16)
  else
  (if v2 = 5 then
  ((gR h11 v0 4 0).bind fun x20 =>
  (fX6_takeNumber n x20 0 200 h11).bind fun p22 =>
  (pF p22.2 v1 5 8 (.int p22.1)).bind fun h23 =>
  some h23)
  else
  (if v2 = 6 then
  ((gR h11 v0 4 0).bind fun x27 =>
  (fX6_takeNumber n x27 0 20 h11).bind fun p29 =>
  (pF p29.2 v1 5 9 (.int p29.1)).bind fun h30 =>
  some h30)
  else
  ((gR h11 v1 5 5).bind fun x33 =>
  (fX1_clear x33 h11).bind fun h35 =>
  (gR h35 v1 5 5).bind fun x36 =>
  (fX4_readE n v0 x36 0 h35).bind fun h38 =>
  some h38))))
theorem obX4_readSetting {n : Nat} {v0 : Nat} {v1 : Nat} {v2 : Int32} {h : qH} {p : qH} (hyp : fX4_readSetting n v0 v1 v2 h = some p) : ∃ fs, h.1 v0 = some (.inr (4, fs)) := by
  unfold fX4_readSetting at hyp
  exact q_bind hyp (fun _ e _ => isO_some e)
set_option maxHeartbeats 4000000 in
set_option maxRecDepth 100000 in
theorem okX4_readSetting {l : Launch} {n : Nat} {v0 : Nat} {v1 : Nat} {v2 : Int32} {h : qH} {h' : qH} (hyp : fX4_readSetting n v0 v1 v2 h = some h') : q_M l 52 yX4_readSetting cX4_readSetting 3 none [.ref v0, .ref v1, .int v2] h none h' := by
  unfold fX4_readSetting at hyp
  refine q_bind hyp (fun _ _ hyp => ?_)
  refine q_M.of (by decide) (Nat.le_of_ble_eq_true rfl) ?_
  refine q_to (ls' := [(0, .ref v0), (1, .ref v1), (2, .int v2)]) (st' := []) rfl rfl ?_
  refine q_aload_n 1 rfl dX4_readSetting_0 ?_
  refine q_bind hyp (fun x1 e2 hyp => ?_)
  refine q_getI kF_X4_117 dX4_readSetting_1 e2 ?_
  refine q_iload_n 2 rfl dX4_readSetting_4 ?_
  refine q_bind hyp (fun p3 e46 hyp => ?_)
  refine q_callS (as := [.int x1, .int v2]) (st := []) kY_X9_bit kS_X9_bit kL_X4_114 (okX9_bit (l := l) e46) (by decide) rfl (Nat.le_of_ble_eq_true rfl) dX4_readSetting_5 ?_
  refine q_to (ls' := [(0, .ref v0), (1, .ref v1), (2, .int v2)]) (st' := [.int p3.1]) rfl rfl ?_
  refine q_iconst (x := 1) rfl dX4_readSetting_8 ?_
  refine q_icmp_ne (tgt := 21) dX4_readSetting_9 (by decide) (fun c4 => ?_) (fun c4 => ?_)
  · have hyp := q_neg c4 hyp
    refine q_aload_n 1 rfl dX4_readSetting_21 ?_
    refine q_dup rfl dX4_readSetting_22 ?_
    refine q_bind hyp (fun x5 e6 hyp => ?_)
    refine q_getI kF_X4_117 dX4_readSetting_23 e6 ?_
    refine q_iconst (x := 1) rfl dX4_readSetting_26 ?_
    refine q_iload_n 2 rfl dX4_readSetting_27 ?_
    refine q_ishl dX4_readSetting_28 ?_
    refine q_ior dX4_readSetting_29 ?_
    refine q_bind hyp (fun h7 e8 hyp => ?_)
    refine q_putF kF_X4_117 (fun _ => ⟨rfl, rfl⟩) dX4_readSetting_30 e8 ?_
    refine q_aload_n 0 rfl dX4_readSetting_33 ?_
    refine q_bind hyp (fun x9 e10 hyp => ?_)
    refine q_getR kF_X4_9 dX4_readSetting_34 e10 ?_
    refine q_bind hyp (fun h11 e41 hyp => ?_)
    refine q_callV (as := []) (st := []) kY_X6_advance kL_X4_60 (okX6_advance (l := l) e41) (by decide) rfl (obX6_advance e41) (Nat.le_of_ble_eq_true rfl) dX4_readSetting_37 ?_
    refine q_to (ls' := [(0, .ref v0), (1, .ref v1), (2, .int v2)]) (st' := []) rfl rfl ?_
    refine q_iload_n 2 rfl dX4_readSetting_40 ?_
    refine q_ite hyp (fun c12 hyp => ?_) (fun c12 hyp => ?_)
    · refine q_tableIn (off := 27) (tgt := 68) dX4_readSetting_41 (by rw [c12]; decide) (by rw [c12]; decide) (by rw [c12]; rfl) (by decide) ?_
      refine q_aload_n 1 rfl dX4_readSetting_68 ?_
      refine q_aload_n 0 rfl dX4_readSetting_69 ?_
      refine q_bind hyp (fun x13 e14 hyp => ?_)
      refine q_getR kF_X4_9 dX4_readSetting_70 e14 ?_
      refine q_iconst (x := 1) rfl dX4_readSetting_73 ?_
      refine q_bipush (x := 9) (by decide) dX4_readSetting_74 ?_
      refine q_bind hyp (fun p15 e18 hyp => ?_)
      refine q_callV (as := [.int 1, .int 9]) (st := [.ref v1]) kY_X6_takeNumber kL_X4_84 (okX6_takeNumber (l := l) e18) (by decide) rfl (obX6_takeNumber e18) (Nat.le_of_ble_eq_true rfl) dX4_readSetting_76 ?_
      refine q_to (ls' := [(0, .ref v0), (1, .ref v1), (2, .int v2)]) (st' := [.int p15.1, .ref v1]) rfl rfl ?_
      refine q_bind hyp (fun h16 e17 hyp => ?_)
      refine q_putF kF_X4_120 (fun _ => ⟨rfl, rfl⟩) dX4_readSetting_79 e17 ?_
      refine q_goto (tgt := 136) dX4_readSetting_82 (by decide) ?_
      exact q_vretH rfl dX4_readSetting_136 hyp
    · refine q_ite hyp (fun c19 hyp => ?_) (fun c19 hyp => ?_)
      · refine q_tableIn (off := 44) (tgt := 85) dX4_readSetting_41 (by rw [c19]; decide) (by rw [c19]; decide) (by rw [c19]; rfl) (by decide) ?_
        refine q_aload_n 1 rfl dX4_readSetting_85 ?_
        refine q_aload_n 0 rfl dX4_readSetting_86 ?_
        refine q_bind hyp (fun x20 e21 hyp => ?_)
        refine q_getR kF_X4_9 dX4_readSetting_87 e21 ?_
        refine q_iconst (x := 0) rfl dX4_readSetting_90 ?_
        refine q_sipush (x := 200) (by decide) dX4_readSetting_91 ?_
        refine q_bind hyp (fun p22 e25 hyp => ?_)
        refine q_callV (as := [.int 0, .int 200]) (st := [.ref v1]) kY_X6_takeNumber kL_X4_84 (okX6_takeNumber (l := l) e25) (by decide) rfl (obX6_takeNumber e25) (Nat.le_of_ble_eq_true rfl) dX4_readSetting_94 ?_
        refine q_to (ls' := [(0, .ref v0), (1, .ref v1), (2, .int v2)]) (st' := [.int p22.1, .ref v1]) rfl rfl ?_
        refine q_bind hyp (fun h23 e24 hyp => ?_)
        refine q_putF kF_X4_123 (fun _ => ⟨rfl, rfl⟩) dX4_readSetting_97 e24 ?_
        refine q_goto (tgt := 136) dX4_readSetting_100 (by decide) ?_
        exact q_vretH rfl dX4_readSetting_136 hyp
      · refine q_ite hyp (fun c26 hyp => ?_) (fun c26 hyp => ?_)
        · refine q_tableIn (off := 62) (tgt := 103) dX4_readSetting_41 (by rw [c26]; decide) (by rw [c26]; decide) (by rw [c26]; rfl) (by decide) ?_
          refine q_aload_n 1 rfl dX4_readSetting_103 ?_
          refine q_aload_n 0 rfl dX4_readSetting_104 ?_
          refine q_bind hyp (fun x27 e28 hyp => ?_)
          refine q_getR kF_X4_9 dX4_readSetting_105 e28 ?_
          refine q_iconst (x := 0) rfl dX4_readSetting_108 ?_
          refine q_bipush (x := 20) (by decide) dX4_readSetting_109 ?_
          refine q_bind hyp (fun p29 e32 hyp => ?_)
          refine q_callV (as := [.int 0, .int 20]) (st := [.ref v1]) kY_X6_takeNumber kL_X4_84 (okX6_takeNumber (l := l) e32) (by decide) rfl (obX6_takeNumber e32) (Nat.le_of_ble_eq_true rfl) dX4_readSetting_111 ?_
          refine q_to (ls' := [(0, .ref v0), (1, .ref v1), (2, .int v2)]) (st' := [.int p29.1, .ref v1]) rfl rfl ?_
          refine q_bind hyp (fun h30 e31 hyp => ?_)
          refine q_putF kF_X4_126 (fun _ => ⟨rfl, rfl⟩) dX4_readSetting_114 e31 ?_
          refine q_goto (tgt := 136) dX4_readSetting_117 (by decide) ?_
          exact q_vretH rfl dX4_readSetting_136 hyp
        · have zc12 := q_ni c12
          have zc19 := q_ni c19
          have zc26 := q_ni c26
          have zz : v2.toInt < 4 ∨ 6 < v2.toInt := by
            rw [show (4 : Int32).toInt = 4 from rfl] at zc12
            rw [show (5 : Int32).toInt = 5 from rfl] at zc19
            rw [show (6 : Int32).toInt = 6 from rfl] at zc26
            omega
          refine q_tableOut (tgt := 120) dX4_readSetting_41 zz (by decide) ?_
          refine q_aload_n 1 rfl dX4_readSetting_120 ?_
          refine q_bind hyp (fun x33 e34 hyp => ?_)
          refine q_getR kF_X4_129 dX4_readSetting_121 e34 ?_
          refine q_bind hyp (fun h35 e40 hyp => ?_)
          refine q_callV (as := []) (st := []) kY_X1_clear kL_X4_133 (okX1_clear (l := l) e40) (by decide) rfl (obX1_clear e40) (Nat.le_of_ble_eq_true rfl) dX4_readSetting_124 ?_
          refine q_to (ls' := [(0, .ref v0), (1, .ref v1), (2, .int v2)]) (st' := []) rfl rfl ?_
          refine q_aload_n 0 rfl dX4_readSetting_127 ?_
          refine q_aload_n 1 rfl dX4_readSetting_128 ?_
          refine q_bind hyp (fun x36 e37 hyp => ?_)
          refine q_getR kF_X4_129 dX4_readSetting_129 e37 ?_
          refine q_iconst (x := 0) rfl dX4_readSetting_132 ?_
          refine q_bind hyp (fun h38 e39 hyp => ?_)
          refine q_callV (as := [.ref x36, .int 0]) (st := []) kY_X4_readE kL_X4_136 (okX4_readE (l := l) e39) (by decide) rfl (obX4_readE e39) (Nat.le_of_ble_eq_true rfl) dX4_readSetting_133 ?_
          refine q_to (ls' := [(0, .ref v0), (1, .ref v1), (2, .int v2)]) (st' := []) rfl rfl ?_
          exact q_vretH rfl dX4_readSetting_136 hyp
  · have hyp := q_pos c4 hyp
    refine q_aload_n 0 rfl dX4_readSetting_12 ?_
    refine q_bind hyp (fun x42 e43 hyp => ?_)
    refine q_getR kF_X4_9 dX4_readSetting_13 e43 ?_
    refine q_iconst (x := 3) rfl dX4_readSetting_16 ?_
    refine q_bind hyp (fun h44 e45 hyp => ?_)
    refine q_callV (as := [.int 3]) (st := []) kY_X6_fail kL_X4_47 (okX6_fail (l := l) e45) (by decide) rfl (obX6_fail e45) (Nat.le_of_ble_eq_true rfl) dX4_readSetting_17 ?_
    refine q_to (ls' := [(0, .ref v0), (1, .ref v1), (2, .int v2)]) (st' := []) rfl rfl ?_
    exact q_vretH rfl dX4_readSetting_20 hyp
