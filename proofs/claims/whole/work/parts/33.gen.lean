/-! Functions over the abstract heap, and that the machine computes them (written by gen.py). -/
theorem dX5_clear_0 : decode cX5_clear 0 = .ok (.aload_n 0, 1) := by decide +kernel
theorem dX5_clear_1 : decode cX5_clear 1 = .ok (.iconst 0, 1) := by decide +kernel
theorem dX5_clear_2 : decode cX5_clear 2 = .ok (.putfield 35, 3) := by decide +kernel
theorem dX5_clear_5 : decode cX5_clear 5 = .ok (.aload_n 0, 1) := by decide +kernel
theorem dX5_clear_6 : decode cX5_clear 6 = .ok (.iconst 3, 1) := by decide +kernel
theorem dX5_clear_7 : decode cX5_clear 7 = .ok (.putfield 39, 3) := by decide +kernel
theorem dX5_clear_10 : decode cX5_clear 10 = .ok (.aload_n 0, 1) := by decide +kernel
theorem dX5_clear_11 : decode cX5_clear 11 = .ok (.bipush 50, 2) := by decide +kernel
theorem dX5_clear_13 : decode cX5_clear 13 = .ok (.putfield 42, 3) := by decide +kernel
theorem dX5_clear_16 : decode cX5_clear 16 = .ok (.aload_n 0, 1) := by decide +kernel
theorem dX5_clear_17 : decode cX5_clear 17 = .ok (.iconst 4, 1) := by decide +kernel
theorem dX5_clear_18 : decode cX5_clear 18 = .ok (.putfield 45, 3) := by decide +kernel
theorem dX5_clear_21 : decode cX5_clear 21 = .ok (.aload_n 0, 1) := by decide +kernel
theorem dX5_clear_22 : decode cX5_clear 22 = .ok (.iconst 0, 1) := by decide +kernel
theorem dX5_clear_23 : decode cX5_clear 23 = .ok (.putfield 48, 3) := by decide +kernel
theorem dX5_clear_26 : decode cX5_clear 26 = .ok (.aload_n 0, 1) := by decide +kernel
theorem dX5_clear_27 : decode cX5_clear 27 = .ok (.getfield 31, 3) := by decide +kernel
theorem dX5_clear_30 : decode cX5_clear 30 = .ok (.invokevirtual 51, 3) := by decide +kernel
theorem dX5_clear_33 : decode cX5_clear 33 = .ok (.aload_n 0, 1) := by decide +kernel
theorem dX5_clear_34 : decode cX5_clear 34 = .ok (.getfield 31, 3) := by decide +kernel
theorem dX5_clear_37 : decode cX5_clear 37 = .ok (.sipush 10021, 3) := by decide +kernel
theorem dX5_clear_40 : decode cX5_clear 40 = .ok (.invokevirtual 54, 3) := by decide +kernel
theorem dX5_clear_43 : decode cX5_clear 43 = .ok (.return_, 1) := by decide +kernel
def fX5_clear (v0 : Nat) (h : qH) : Option (qH) :=
  (isO h v0 5).bind fun _ =>
  (pF h v0 5 6 (.int 0)).bind fun h1 =>
  (pF h1 v0 5 7 (.int 3)).bind fun h3 =>
  (pF h3 v0 5 8 (.int 50)).bind fun h5 =>
  (pF h5 v0 5 9 (.int 4)).bind fun h7 =>
  (pF h7 v0 5 10 (.int 0)).bind fun h9 =>
  (gR h9 v0 5 5).bind fun x11 =>
  (fX1_clear x11 h9).bind fun h13 =>
  (gR h13 v0 5 5).bind fun x14 =>
  (fX1_add x14 10021 h13).bind fun h16 =>
  some h16
theorem obX5_clear {v0 : Nat} {h : qH} {p : qH} (hyp : fX5_clear v0 h = some p) : ∃ fs, h.1 v0 = some (.inr (5, fs)) := by
  unfold fX5_clear at hyp
  exact q_bind hyp (fun _ e _ => isO_some e)
set_option maxHeartbeats 4000000 in
set_option maxRecDepth 100000 in
theorem okX5_clear {l : Launch} {v0 : Nat} {h : qH} {h' : qH} (hyp : fX5_clear v0 h = some h') : q_M l 2 yX5_clear cX5_clear 1 none [.ref v0] h none h' := by
  unfold fX5_clear at hyp
  refine q_bind hyp (fun _ _ hyp => ?_)
  refine q_M.of (by decide) (Nat.le_of_ble_eq_true rfl) ?_
  refine q_to (ls' := [(0, .ref v0)]) (st' := []) rfl rfl ?_
  refine q_aload_n 0 rfl dX5_clear_0 ?_
  refine q_iconst (x := 0) rfl dX5_clear_1 ?_
  refine q_bind hyp (fun h1 e2 hyp => ?_)
  refine q_putF kF_X5_35 (fun _ => ⟨rfl, rfl⟩) dX5_clear_2 e2 ?_
  refine q_aload_n 0 rfl dX5_clear_5 ?_
  refine q_iconst (x := 3) rfl dX5_clear_6 ?_
  refine q_bind hyp (fun h3 e4 hyp => ?_)
  refine q_putF kF_X5_39 (fun _ => ⟨rfl, rfl⟩) dX5_clear_7 e4 ?_
  refine q_aload_n 0 rfl dX5_clear_10 ?_
  refine q_bipush (x := 50) (by decide) dX5_clear_11 ?_
  refine q_bind hyp (fun h5 e6 hyp => ?_)
  refine q_putF kF_X5_42 (fun _ => ⟨rfl, rfl⟩) dX5_clear_13 e6 ?_
  refine q_aload_n 0 rfl dX5_clear_16 ?_
  refine q_iconst (x := 4) rfl dX5_clear_17 ?_
  refine q_bind hyp (fun h7 e8 hyp => ?_)
  refine q_putF kF_X5_45 (fun _ => ⟨rfl, rfl⟩) dX5_clear_18 e8 ?_
  refine q_aload_n 0 rfl dX5_clear_21 ?_
  refine q_iconst (x := 0) rfl dX5_clear_22 ?_
  refine q_bind hyp (fun h9 e10 hyp => ?_)
  refine q_putF kF_X5_48 (fun _ => ⟨rfl, rfl⟩) dX5_clear_23 e10 ?_
  refine q_aload_n 0 rfl dX5_clear_26 ?_
  refine q_bind hyp (fun x11 e12 hyp => ?_)
  refine q_getR kF_X5_31 dX5_clear_27 e12 ?_
  refine q_bind hyp (fun h13 e18 hyp => ?_)
  refine q_callV (as := []) (st := []) kY_X1_clear kL_X5_51 (okX1_clear (l := l) e18) (by decide) rfl (obX1_clear e18) (Nat.le_of_ble_eq_true rfl) dX5_clear_30 ?_
  refine q_to (ls' := [(0, .ref v0)]) (st' := []) rfl rfl ?_
  refine q_aload_n 0 rfl dX5_clear_33 ?_
  refine q_bind hyp (fun x14 e15 hyp => ?_)
  refine q_getR kF_X5_31 dX5_clear_34 e15 ?_
  refine q_sipush (x := 10021) (by decide) dX5_clear_37 ?_
  refine q_bind hyp (fun h16 e17 hyp => ?_)
  refine q_callV (as := [.int 10021]) (st := []) kY_X1_add kL_X5_54 (okX1_add (l := l) e17) (by decide) rfl (obX1_add e17) (Nat.le_of_ble_eq_true rfl) dX5_clear_40 ?_
  refine q_to (ls' := [(0, .ref v0)]) (st' := []) rfl rfl ?_
  exact q_vretH rfl dX5_clear_43 hyp
theorem dX6_close_0 : decode cX6_close 0 = .ok (.aload_n 0, 1) := by decide +kernel
theorem dX6_close_1 : decode cX6_close 1 = .ok (.iconst 0, 1) := by decide +kernel
theorem dX6_close_2 : decode cX6_close 2 = .ok (.putfield 19, 3) := by decide +kernel
theorem dX6_close_5 : decode cX6_close 5 = .ok (.aload_n 0, 1) := by decide +kernel
theorem dX6_close_6 : decode cX6_close 6 = .ok (.getfield 26, 3) := by decide +kernel
theorem dX6_close_9 : decode cX6_close 9 = .ok (.ireturn, 1) := by decide +kernel
def fX6_close (v0 : Nat) (h : qH) : Option (Int32 × qH) :=
  (isO h v0 6).bind fun _ =>
  (pF h v0 6 1 (.int 0)).bind fun h1 =>
  (gI h1 v0 6 8).bind fun x3 =>
  some (x3, h1)
theorem obX6_close {v0 : Nat} {h : qH} {p : Int32 × qH} (hyp : fX6_close v0 h = some p) : ∃ fs, h.1 v0 = some (.inr (6, fs)) := by
  unfold fX6_close at hyp
  exact q_bind hyp (fun _ e _ => isO_some e)
set_option maxHeartbeats 4000000 in
set_option maxRecDepth 100000 in
theorem okX6_close {l : Launch} {v0 : Nat} {h : qH} {p : Int32 × qH} (hyp : fX6_close v0 h = some p) : q_M l 1 yX6_close cX6_close 1 (some .int) [.ref v0] h (some (.int p.1)) p.2 := by
  obtain ⟨r, h'⟩ := p
  unfold fX6_close at hyp
  refine q_bind hyp (fun _ _ hyp => ?_)
  refine q_M.of (by decide) (Nat.le_of_ble_eq_true rfl) ?_
  refine q_to (ls' := [(0, .ref v0)]) (st' := []) rfl rfl ?_
  refine q_aload_n 0 rfl dX6_close_0 ?_
  refine q_iconst (x := 0) rfl dX6_close_1 ?_
  refine q_bind hyp (fun h1 e2 hyp => ?_)
  refine q_putF kF_X6_19 (fun _ => ⟨rfl, rfl⟩) dX6_close_2 e2 ?_
  refine q_aload_n 0 rfl dX6_close_5 ?_
  refine q_bind hyp (fun x3 e4 hyp => ?_)
  refine q_getI kF_X6_26 dX6_close_6 e4 ?_
  exact q_iretH rfl rfl dX6_close_9 hyp
theorem dX6_open_0 : decode cX6_open 0 = .ok (.aload_n 0, 1) := by decide +kernel
theorem dX6_open_1 : decode cX6_open 1 = .ok (.iconst 0, 1) := by decide +kernel
theorem dX6_open_2 : decode cX6_open 2 = .ok (.putfield 23, 3) := by decide +kernel
theorem dX6_open_5 : decode cX6_open 5 = .ok (.aload_n 0, 1) := by decide +kernel
theorem dX6_open_6 : decode cX6_open 6 = .ok (.iconst 0, 1) := by decide +kernel
theorem dX6_open_7 : decode cX6_open 7 = .ok (.putfield 26, 3) := by decide +kernel
theorem dX6_open_10 : decode cX6_open 10 = .ok (.aload_n 0, 1) := by decide +kernel
theorem dX6_open_11 : decode cX6_open 11 = .ok (.invokevirtual 29, 3) := by decide +kernel
theorem dX6_open_14 : decode cX6_open 14 = .ok (.return_, 1) := by decide +kernel
def fX6_open (n : Nat) (v0 : Nat) (h : qH) : Option (qH) :=
  (isO h v0 6).bind fun _ =>
  (pF h v0 6 2 (.int 0)).bind fun h1 =>
  (pF h1 v0 6 8 (.int 0)).bind fun h3 =>
  (fX6_advance n v0 h3).bind fun h5 =>
  some h5
theorem obX6_open {n : Nat} {v0 : Nat} {h : qH} {p : qH} (hyp : fX6_open n v0 h = some p) : ∃ fs, h.1 v0 = some (.inr (6, fs)) := by
  unfold fX6_open at hyp
  exact q_bind hyp (fun _ e _ => isO_some e)
set_option maxHeartbeats 4000000 in
set_option maxRecDepth 100000 in
theorem okX6_open {l : Launch} {n : Nat} {v0 : Nat} {h : qH} {h' : qH} (hyp : fX6_open n v0 h = some h') : q_M l 11 yX6_open cX6_open 1 none [.ref v0] h none h' := by
  unfold fX6_open at hyp
  refine q_bind hyp (fun _ _ hyp => ?_)
  refine q_M.of (by decide) (Nat.le_of_ble_eq_true rfl) ?_
  refine q_to (ls' := [(0, .ref v0)]) (st' := []) rfl rfl ?_
  refine q_aload_n 0 rfl dX6_open_0 ?_
  refine q_iconst (x := 0) rfl dX6_open_1 ?_
  refine q_bind hyp (fun h1 e2 hyp => ?_)
  refine q_putF kF_X6_23 (fun _ => ⟨rfl, rfl⟩) dX6_open_2 e2 ?_
  refine q_aload_n 0 rfl dX6_open_5 ?_
  refine q_iconst (x := 0) rfl dX6_open_6 ?_
  refine q_bind hyp (fun h3 e4 hyp => ?_)
  refine q_putF kF_X6_26 (fun _ => ⟨rfl, rfl⟩) dX6_open_7 e4 ?_
  refine q_aload_n 0 rfl dX6_open_10 ?_
  refine q_bind hyp (fun h5 e6 hyp => ?_)
  refine q_callV (as := []) (st := []) kY_X6_advance kL_X6_29 (okX6_advance (l := l) e6) (by decide) rfl (obX6_advance e6) (Nat.le_of_ble_eq_true rfl) dX6_open_11 ?_
  refine q_to (ls' := [(0, .ref v0)]) (st' := []) rfl rfl ?_
  exact q_vretH rfl dX6_open_14 hyp
theorem dX4_readPast_0 : decode cX4_readPast 0 = .ok (.aload_n 1, 1) := by decide +kernel
theorem dX4_readPast_1 : decode cX4_readPast 1 = .ok (.invokevirtual 15, 3) := by decide +kernel
theorem dX4_readPast_4 : decode cX4_readPast 4 = .ok (.aload_n 0, 1) := by decide +kernel
theorem dX4_readPast_5 : decode cX4_readPast 5 = .ok (.getfield 9, 3) := by decide +kernel
theorem dX4_readPast_8 : decode cX4_readPast 8 = .ok (.invokevirtual 20, 3) := by decide +kernel
theorem dX4_readPast_11 : decode cX4_readPast 11 = .ok (.iconst 0, 1) := by decide +kernel
theorem dX4_readPast_12 : decode cX4_readPast 12 = .ok (.istore_n 2, 1) := by decide +kernel
theorem dX4_readPast_13 : decode cX4_readPast 13 = .ok (.iload_n 2, 1) := by decide +kernel
theorem dX4_readPast_14 : decode cX4_readPast 14 = .ok (.sipush 1000, 3) := by decide +kernel
theorem dX4_readPast_17 : decode cX4_readPast 17 = .ok (.if_icmp .gt 129, 3) := by decide +kernel
theorem dX4_readPast_20 : decode cX4_readPast 20 = .ok (.aload_n 0, 1) := by decide +kernel
theorem dX4_readPast_21 : decode cX4_readPast 21 = .ok (.getfield 9, 3) := by decide +kernel
theorem dX4_readPast_24 : decode cX4_readPast 24 = .ok (.getfield 25, 3) := by decide +kernel
theorem dX4_readPast_27 : decode cX4_readPast 27 = .ok (.ifCond .ne 119, 3) := by decide +kernel
theorem dX4_readPast_30 : decode cX4_readPast 30 = .ok (.aload_n 0, 1) := by decide +kernel
theorem dX4_readPast_31 : decode cX4_readPast 31 = .ok (.getfield 9, 3) := by decide +kernel
theorem dX4_readPast_34 : decode cX4_readPast 34 = .ok (.getfield 29, 3) := by decide +kernel
theorem dX4_readPast_37 : decode cX4_readPast 37 = .ok (.ifCond .eq 109, 3) := by decide +kernel
theorem dX4_readPast_40 : decode cX4_readPast 40 = .ok (.aload_n 0, 1) := by decide +kernel
theorem dX4_readPast_41 : decode cX4_readPast 41 = .ok (.getfield 9, 3) := by decide +kernel
theorem dX4_readPast_44 : decode cX4_readPast 44 = .ok (.invokevirtual 32, 3) := by decide +kernel
theorem dX4_readPast_47 : decode cX4_readPast 47 = .ok (.tableswitch 76 0 7 #[45, 76, 76, 53, 61, 61, 61, 61], 45) := by decide +kernel
theorem dX4_readPast_92 : decode cX4_readPast 92 = .ok (.aload_n 0, 1) := by decide +kernel
theorem dX4_readPast_93 : decode cX4_readPast 93 = .ok (.aload_n 1, 1) := by decide +kernel
theorem dX4_readPast_94 : decode cX4_readPast 94 = .ok (.invokevirtual 36, 3) := by decide +kernel
theorem dX4_readPast_97 : decode cX4_readPast 97 = .ok (.goto 34, 3) := by decide +kernel
theorem dX4_readPast_100 : decode cX4_readPast 100 = .ok (.aload_n 0, 1) := by decide +kernel
theorem dX4_readPast_101 : decode cX4_readPast 101 = .ok (.aload_n 1, 1) := by decide +kernel
theorem dX4_readPast_102 : decode cX4_readPast 102 = .ok (.invokevirtual 40, 3) := by decide +kernel
theorem dX4_readPast_105 : decode cX4_readPast 105 = .ok (.goto 26, 3) := by decide +kernel
theorem dX4_readPast_108 : decode cX4_readPast 108 = .ok (.aload_n 0, 1) := by decide +kernel
theorem dX4_readPast_109 : decode cX4_readPast 109 = .ok (.aload_n 1, 1) := by decide +kernel
theorem dX4_readPast_110 : decode cX4_readPast 110 = .ok (.aload_n 0, 1) := by decide +kernel
theorem dX4_readPast_111 : decode cX4_readPast 111 = .ok (.getfield 9, 3) := by decide +kernel
theorem dX4_readPast_114 : decode cX4_readPast 114 = .ok (.invokevirtual 32, 3) := by decide +kernel
theorem dX4_readPast_117 : decode cX4_readPast 117 = .ok (.invokevirtual 43, 3) := by decide +kernel
theorem dX4_readPast_120 : decode cX4_readPast 120 = .ok (.goto 11, 3) := by decide +kernel
theorem dX4_readPast_123 : decode cX4_readPast 123 = .ok (.aload_n 0, 1) := by decide +kernel
theorem dX4_readPast_124 : decode cX4_readPast 124 = .ok (.getfield 9, 3) := by decide +kernel
theorem dX4_readPast_127 : decode cX4_readPast 127 = .ok (.iconst 1, 1) := by decide +kernel
theorem dX4_readPast_128 : decode cX4_readPast 128 = .ok (.invokevirtual 47, 3) := by decide +kernel
theorem dX4_readPast_131 : decode cX4_readPast 131 = .ok (.aload_n 0, 1) := by decide +kernel
theorem dX4_readPast_132 : decode cX4_readPast 132 = .ok (.getfield 9, 3) := by decide +kernel
theorem dX4_readPast_135 : decode cX4_readPast 135 = .ok (.bipush 59, 2) := by decide +kernel
theorem dX4_readPast_137 : decode cX4_readPast 137 = .ok (.invokevirtual 51, 3) := by decide +kernel
theorem dX4_readPast_140 : decode cX4_readPast 140 = .ok (.iinc 2 1, 3) := by decide +kernel
theorem dX4_readPast_143 : decode cX4_readPast 143 = .ok (.goto (-130), 3) := by decide +kernel
theorem dX4_readPast_146 : decode cX4_readPast 146 = .ok (.aload_n 0, 1) := by decide +kernel
theorem dX4_readPast_147 : decode cX4_readPast 147 = .ok (.getfield 9, 3) := by decide +kernel
theorem dX4_readPast_150 : decode cX4_readPast 150 = .ok (.invokevirtual 54, 3) := by decide +kernel
theorem dX4_readPast_153 : decode cX4_readPast 153 = .ok (.ireturn, 1) := by decide +kernel
def fX4_readPast_b146 (n : Nat) (v0 : Nat) (h : qH) : Option (Int32 × qH) :=
  (gR h v0 4 0).bind fun x1 =>
  (fX6_close x1 h).bind fun p3 =>
  some (p3.1, p3.2)
set_option maxHeartbeats 4000000 in
set_option maxRecDepth 100000 in
theorem okX4_readPast_b146 {l : Launch} {n : Nat} {v0 : Nat} {h : qH} {r : Int32} {h' : qH} (hyp : fX4_readPast_b146 n v0 h = some (r, h')) : q_W l 53 yX4_readPast cX4_readPast 3 (some .int) (some (.int r)) h' 146 [(0, .ref v0)] [] h := by
  unfold fX4_readPast_b146 at hyp
  refine q_aload_n 0 rfl dX4_readPast_146 ?_
  refine q_bind hyp (fun x1 e2 hyp => ?_)
  refine q_getR kF_X4_9 dX4_readPast_147 e2 ?_
  refine q_bind hyp (fun p3 e4 hyp => ?_)
  refine q_callV (as := []) (st := []) kY_X6_close kL_X4_54 (okX6_close (l := l) e4) (by decide) rfl (obX6_close e4) (Nat.le_of_ble_eq_true rfl) dX4_readPast_150 ?_
  refine q_to (ls' := [(0, .ref v0)]) (st' := [.int p3.1]) rfl rfl ?_
  exact q_iretH rfl rfl dX4_readPast_153 hyp
def fX4_readPast_b131 (n : Nat) (K13 : Nat → Nat → Int32 → qH → Option (Int32 × qH)) (v0 : Nat) (v1 : Nat) (v2 : Int32) (h : qH) : Option (Int32 × qH) :=
  (gR h v0 4 0).bind fun x1 =>
  (fX6_takeSign n x1 59 h).bind fun h3 =>
  K13 v0 v1 (v2 + 1) h3
set_option maxHeartbeats 4000000 in
set_option maxRecDepth 100000 in
theorem okX4_readPast_b131 {l : Launch} {n : Nat} {K13 : Nat → Nat → Int32 → qH → Option (Int32 × qH)} {v0 : Nat} {v1 : Nat} {v2 : Int32} {h : qH} {r : Int32} {h' : qH} (hK13 : ∀ (v0 : Nat) (v1 : Nat) (v2 : Int32) (h : qH), K13 v0 v1 v2 h = some (r, h') → q_W l 53 yX4_readPast cX4_readPast 3 (some .int) (some (.int r)) h' 13 [(0, .ref v0), (1, .ref v1), (2, .int v2)] [] h) (hyp : fX4_readPast_b131 n K13 v0 v1 v2 h = some (r, h')) : q_W l 53 yX4_readPast cX4_readPast 3 (some .int) (some (.int r)) h' 131 [(0, .ref v0), (1, .ref v1), (2, .int v2)] [] h := by
  unfold fX4_readPast_b131 at hyp
  refine q_aload_n 0 rfl dX4_readPast_131 ?_
  refine q_bind hyp (fun x1 e2 hyp => ?_)
  refine q_getR kF_X4_9 dX4_readPast_132 e2 ?_
  refine q_bipush (x := 59) (by decide) dX4_readPast_135 ?_
  refine q_bind hyp (fun h3 e4 hyp => ?_)
  refine q_callV (as := [.int 59]) (st := []) kY_X6_takeSign kL_X4_51 (okX6_takeSign (l := l) e4) (by decide) rfl (obX6_takeSign e4) (Nat.le_of_ble_eq_true rfl) dX4_readPast_137 ?_
  refine q_to (ls' := [(0, .ref v0), (1, .ref v1), (2, .int v2)]) (st' := []) rfl rfl ?_
  refine q_iinc (ls' := [(2, .int (v2 + 1)), (0, .ref v0), (1, .ref v1)]) 2 rfl rfl (by decide) rfl dX4_readPast_140 ?_
  refine q_goto (tgt := 13) dX4_readPast_143 (by decide) ?_
  exact q_sub [1, 2, 0] rfl (hK13 v0 v1 (v2 + 1) h3 hyp)
def fX4_readPast_b123 (n : Nat) (K13 : Nat → Nat → Int32 → qH → Option (Int32 × qH)) (v0 : Nat) (v1 : Nat) (v2 : Int32) (h : qH) : Option (Int32 × qH) :=
  (gR h v0 4 0).bind fun x1 =>
  (fX6_fail x1 1 h).bind fun h3 =>
  fX4_readPast_b131 n K13 v0 v1 v2 h3
set_option maxHeartbeats 4000000 in
set_option maxRecDepth 100000 in
theorem okX4_readPast_b123 {l : Launch} {n : Nat} {K13 : Nat → Nat → Int32 → qH → Option (Int32 × qH)} {v0 : Nat} {v1 : Nat} {v2 : Int32} {h : qH} {r : Int32} {h' : qH} (hK13 : ∀ (v0 : Nat) (v1 : Nat) (v2 : Int32) (h : qH), K13 v0 v1 v2 h = some (r, h') → q_W l 53 yX4_readPast cX4_readPast 3 (some .int) (some (.int r)) h' 13 [(0, .ref v0), (1, .ref v1), (2, .int v2)] [] h) (hyp : fX4_readPast_b123 n K13 v0 v1 v2 h = some (r, h')) : q_W l 53 yX4_readPast cX4_readPast 3 (some .int) (some (.int r)) h' 123 [(0, .ref v0), (1, .ref v1), (2, .int v2)] [] h := by
  unfold fX4_readPast_b123 at hyp
  refine q_aload_n 0 rfl dX4_readPast_123 ?_
  refine q_bind hyp (fun x1 e2 hyp => ?_)
  refine q_getR kF_X4_9 dX4_readPast_124 e2 ?_
  refine q_iconst (x := 1) rfl dX4_readPast_127 ?_
  refine q_bind hyp (fun h3 e4 hyp => ?_)
  refine q_callV (as := [.int 1]) (st := []) kY_X6_fail kL_X4_47 (okX6_fail (l := l) e4) (by decide) rfl (obX6_fail e4) (Nat.le_of_ble_eq_true rfl) dX4_readPast_128 ?_
  refine q_to (ls' := [(0, .ref v0), (1, .ref v1), (2, .int v2)]) (st' := []) rfl rfl ?_
  exact q_sub [0, 1, 2] rfl (okX4_readPast_b131 hK13 hyp)
def fX4_readPast_b108 (n : Nat) (K13 : Nat → Nat → Int32 → qH → Option (Int32 × qH)) (v0 : Nat) (v1 : Nat) (v2 : Int32) (h : qH) : Option (Int32 × qH) :=
  (gR h v0 4 0).bind fun x1 =>
  (fX6_keyHere x1 h).bind fun p3 =>
  (fX4_readSetting n v0 v1 p3.1 p3.2).bind fun h4 =>
  fX4_readPast_b131 n K13 v0 v1 v2 h4
set_option maxHeartbeats 4000000 in
set_option maxRecDepth 100000 in
theorem okX4_readPast_b108 {l : Launch} {n : Nat} {K13 : Nat → Nat → Int32 → qH → Option (Int32 × qH)} {v0 : Nat} {v1 : Nat} {v2 : Int32} {h : qH} {r : Int32} {h' : qH} (hK13 : ∀ (v0 : Nat) (v1 : Nat) (v2 : Int32) (h : qH), K13 v0 v1 v2 h = some (r, h') → q_W l 53 yX4_readPast cX4_readPast 3 (some .int) (some (.int r)) h' 13 [(0, .ref v0), (1, .ref v1), (2, .int v2)] [] h) (hyp : fX4_readPast_b108 n K13 v0 v1 v2 h = some (r, h')) : q_W l 53 yX4_readPast cX4_readPast 3 (some .int) (some (.int r)) h' 108 [(0, .ref v0), (1, .ref v1), (2, .int v2)] [] h := by
  unfold fX4_readPast_b108 at hyp
  refine q_aload_n 0 rfl dX4_readPast_108 ?_
  refine q_aload_n 1 rfl dX4_readPast_109 ?_
  refine q_aload_n 0 rfl dX4_readPast_110 ?_
  refine q_bind hyp (fun x1 e2 hyp => ?_)
  refine q_getR kF_X4_9 dX4_readPast_111 e2 ?_
  refine q_bind hyp (fun p3 e6 hyp => ?_)
  refine q_callV (as := []) (st := [.ref v1, .ref v0]) kY_X6_keyHere kL_X4_32 (okX6_keyHere (l := l) e6) (by decide) rfl (obX6_keyHere e6) (Nat.le_of_ble_eq_true rfl) dX4_readPast_114 ?_
  refine q_to (ls' := [(0, .ref v0), (1, .ref v1), (2, .int v2)]) (st' := [.int p3.1, .ref v1, .ref v0]) rfl rfl ?_
  refine q_bind hyp (fun h4 e5 hyp => ?_)
  refine q_callV (as := [.ref v1, .int p3.1]) (st := []) kY_X4_readSetting kL_X4_43 (okX4_readSetting (l := l) e5) (by decide) rfl (obX4_readSetting e5) (Nat.le_of_ble_eq_true rfl) dX4_readPast_117 ?_
  refine q_to (ls' := [(0, .ref v0), (1, .ref v1), (2, .int v2)]) (st' := []) rfl rfl ?_
  refine q_goto (tgt := 131) dX4_readPast_120 (by decide) ?_
  exact q_sub [0, 1, 2] rfl (okX4_readPast_b131 hK13 hyp)
def fX4_readPast_b13 (n : Nat) : Nat → Nat → Nat → Int32 → qH → Option (Int32 × qH)
  | 0, _, _, _, _ => none
  | w + 1, v0, v1, v2, h =>
    if 1000 < v2 then
    (fX4_readPast_b146 n v0 h)
    else
    ((gR h v0 4 0).bind fun x2 =>
    (gI h x2 6 8).bind fun x4 =>
    if x4 = 0 then
    ((gR h v0 4 0).bind fun x7 =>
    (gI h x7 6 4).bind fun x9 =>
    if x9 = 0 then
    (fX4_readPast_b146 n v0 h)
    else
    ((gR h v0 4 0).bind fun x12 =>
    (fX6_keyHere x12 h).bind fun p14 =>
    if p14.1 = 0 then
    ((fX4_readMatter n v0 v1 p14.2).bind fun h16 =>
    fX4_readPast_b131 n (fX4_readPast_b13 n w) v0 v1 v2 h16)
    else
    (if p14.1 = 1 then
    (fX4_readPast_b123 n (fX4_readPast_b13 n w) v0 v1 v2 p14.2)
    else
    (if p14.1 = 2 then
    (fX4_readPast_b123 n (fX4_readPast_b13 n w) v0 v1 v2 p14.2)
    else
    (if p14.1 = 3 then
    ((fX4_readLed n v0 v1 p14.2).bind fun h21 =>
    fX4_readPast_b131 n (fX4_readPast_b13 n w) v0 v1 v2 h21)
    else
    (if p14.1 = 4 then
    (fX4_readPast_b108 n (fX4_readPast_b13 n w) v0 v1 v2 p14.2)
    else
    (if p14.1 = 5 then
    (fX4_readPast_b108 n (fX4_readPast_b13 n w) v0 v1 v2 p14.2)
    else
    (if p14.1 = 6 then
    (fX4_readPast_b108 n (fX4_readPast_b13 n w) v0 v1 v2 p14.2)
    else
    (if p14.1 = 7 then
    (fX4_readPast_b108 n (fX4_readPast_b13 n w) v0 v1 v2 p14.2)
    else
    (fX4_readPast_b123 n (fX4_readPast_b13 n w) v0 v1 v2 p14.2))))))))))
    else
    (fX4_readPast_b146 n v0 h))
set_option maxHeartbeats 4000000 in
set_option maxRecDepth 100000 in
theorem okX4_readPast_b13 {l : Launch} {n : Nat} {r : Int32} {h' : qH} : ∀ (w : Nat) (v0 : Nat) (v1 : Nat) (v2 : Int32) (h : qH), fX4_readPast_b13 n w v0 v1 v2 h = some (r, h') → q_W l 53 yX4_readPast cX4_readPast 3 (some .int) (some (.int r)) h' 13 [(0, .ref v0), (1, .ref v1), (2, .int v2)] [] h := by
  intro w
  induction w with
  | zero => intro v0 v1 v2 h hyp; cases hyp
  | succ w ih =>
    intro v0 v1 v2 h hyp
    unfold fX4_readPast_b13 at hyp
    refine q_iload_n 2 rfl dX4_readPast_13 ?_
    refine q_sipush (x := 1000) (by decide) dX4_readPast_14 ?_
    refine q_icmp_gt (tgt := 146) dX4_readPast_17 (by decide) (fun c1 => ?_) (fun c1 => ?_)
    · have hyp := q_pos c1 hyp
      exact q_sub [0] rfl (okX4_readPast_b146 hyp)
    · have hyp := q_neg c1 hyp
      refine q_aload_n 0 rfl dX4_readPast_20 ?_
      refine q_bind hyp (fun x2 e3 hyp => ?_)
      refine q_getR kF_X4_9 dX4_readPast_21 e3 ?_
      refine q_bind hyp (fun x4 e5 hyp => ?_)
      refine q_getI kF_X4_25 dX4_readPast_24 e5 ?_
      refine q_if_ne (tgt := 146) dX4_readPast_27 (by decide) (fun c6 => ?_) (fun c6 => ?_)
      · have hyp := q_neg c6 hyp
        exact q_sub [0] rfl (okX4_readPast_b146 hyp)
      · have hyp := q_pos c6 hyp
        refine q_aload_n 0 rfl dX4_readPast_30 ?_
        refine q_bind hyp (fun x7 e8 hyp => ?_)
        refine q_getR kF_X4_9 dX4_readPast_31 e8 ?_
        refine q_bind hyp (fun x9 e10 hyp => ?_)
        refine q_getI kF_X4_29 dX4_readPast_34 e10 ?_
        refine q_if_eq (tgt := 146) dX4_readPast_37 (by decide) (fun c11 => ?_) (fun c11 => ?_)
        · have hyp := q_pos c11 hyp
          exact q_sub [0] rfl (okX4_readPast_b146 hyp)
        · have hyp := q_neg c11 hyp
          refine q_aload_n 0 rfl dX4_readPast_40 ?_
          refine q_bind hyp (fun x12 e13 hyp => ?_)
          refine q_getR kF_X4_9 dX4_readPast_41 e13 ?_
          refine q_bind hyp (fun p14 e27 hyp => ?_)
          refine q_callV (as := []) (st := []) kY_X6_keyHere kL_X4_32 (okX6_keyHere (l := l) e27) (by decide) rfl (obX6_keyHere e27) (Nat.le_of_ble_eq_true rfl) dX4_readPast_44 ?_
          refine q_to (ls' := [(0, .ref v0), (1, .ref v1), (2, .int v2)]) (st' := [.int p14.1]) rfl rfl ?_
          refine q_ite hyp (fun c15 hyp => ?_) (fun c15 hyp => ?_)
          · refine q_tableIn (off := 45) (tgt := 92) dX4_readPast_47 (by rw [c15]; decide) (by rw [c15]; decide) (by rw [c15]; rfl) (by decide) ?_
            refine q_aload_n 0 rfl dX4_readPast_92 ?_
            refine q_aload_n 1 rfl dX4_readPast_93 ?_
            refine q_bind hyp (fun h16 e17 hyp => ?_)
            refine q_callV (as := [.ref v1]) (st := []) kY_X4_readMatter kL_X4_36 (okX4_readMatter (l := l) e17) (by decide) rfl (obX4_readMatter e17) (Nat.le_of_ble_eq_true rfl) dX4_readPast_94 ?_
            refine q_to (ls' := [(0, .ref v0), (1, .ref v1), (2, .int v2)]) (st' := []) rfl rfl ?_
            refine q_goto (tgt := 131) dX4_readPast_97 (by decide) ?_
            exact q_sub [0, 1, 2] rfl (okX4_readPast_b131 ih hyp)
          · refine q_ite hyp (fun c18 hyp => ?_) (fun c18 hyp => ?_)
            · refine q_tableIn (off := 76) (tgt := 123) dX4_readPast_47 (by rw [c18]; decide) (by rw [c18]; decide) (by rw [c18]; rfl) (by decide) ?_
              exact q_sub [0, 1, 2] rfl (okX4_readPast_b123 ih hyp)
            · refine q_ite hyp (fun c19 hyp => ?_) (fun c19 hyp => ?_)
              · refine q_tableIn (off := 76) (tgt := 123) dX4_readPast_47 (by rw [c19]; decide) (by rw [c19]; decide) (by rw [c19]; rfl) (by decide) ?_
                exact q_sub [0, 1, 2] rfl (okX4_readPast_b123 ih hyp)
              · refine q_ite hyp (fun c20 hyp => ?_) (fun c20 hyp => ?_)
                · refine q_tableIn (off := 53) (tgt := 100) dX4_readPast_47 (by rw [c20]; decide) (by rw [c20]; decide) (by rw [c20]; rfl) (by decide) ?_
                  refine q_aload_n 0 rfl dX4_readPast_100 ?_
                  refine q_aload_n 1 rfl dX4_readPast_101 ?_
                  refine q_bind hyp (fun h21 e22 hyp => ?_)
                  refine q_callV (as := [.ref v1]) (st := []) kY_X4_readLed kL_X4_40 (okX4_readLed (l := l) e22) (by decide) rfl (obX4_readLed e22) (Nat.le_of_ble_eq_true rfl) dX4_readPast_102 ?_
                  refine q_to (ls' := [(0, .ref v0), (1, .ref v1), (2, .int v2)]) (st' := []) rfl rfl ?_
                  refine q_goto (tgt := 131) dX4_readPast_105 (by decide) ?_
                  exact q_sub [0, 1, 2] rfl (okX4_readPast_b131 ih hyp)
                · refine q_ite hyp (fun c23 hyp => ?_) (fun c23 hyp => ?_)
                  · refine q_tableIn (off := 61) (tgt := 108) dX4_readPast_47 (by rw [c23]; decide) (by rw [c23]; decide) (by rw [c23]; rfl) (by decide) ?_
                    exact q_sub [0, 1, 2] rfl (okX4_readPast_b108 ih hyp)
                  · refine q_ite hyp (fun c24 hyp => ?_) (fun c24 hyp => ?_)
                    · refine q_tableIn (off := 61) (tgt := 108) dX4_readPast_47 (by rw [c24]; decide) (by rw [c24]; decide) (by rw [c24]; rfl) (by decide) ?_
                      exact q_sub [0, 1, 2] rfl (okX4_readPast_b108 ih hyp)
                    · refine q_ite hyp (fun c25 hyp => ?_) (fun c25 hyp => ?_)
                      · refine q_tableIn (off := 61) (tgt := 108) dX4_readPast_47 (by rw [c25]; decide) (by rw [c25]; decide) (by rw [c25]; rfl) (by decide) ?_
                        exact q_sub [0, 1, 2] rfl (okX4_readPast_b108 ih hyp)
                      · refine q_ite hyp (fun c26 hyp => ?_) (fun c26 hyp => ?_)
                        · refine q_tableIn (off := 61) (tgt := 108) dX4_readPast_47 (by rw [c26]; decide) (by rw [c26]; decide) (by rw [c26]; rfl) (by decide) ?_
                          exact q_sub [0, 1, 2] rfl (okX4_readPast_b108 ih hyp)
                        · have zc15 := q_ni c15
                          have zc18 := q_ni c18
                          have zc19 := q_ni c19
                          have zc20 := q_ni c20
                          have zc23 := q_ni c23
                          have zc24 := q_ni c24
                          have zc25 := q_ni c25
                          have zc26 := q_ni c26
                          have zz : p14.1.toInt < 0 ∨ 7 < p14.1.toInt := by
                            rw [show (0 : Int32).toInt = 0 from rfl] at zc15
                            rw [show (1 : Int32).toInt = 1 from rfl] at zc18
                            rw [show (2 : Int32).toInt = 2 from rfl] at zc19
                            rw [show (3 : Int32).toInt = 3 from rfl] at zc20
                            rw [show (4 : Int32).toInt = 4 from rfl] at zc23
                            rw [show (5 : Int32).toInt = 5 from rfl] at zc24
                            rw [show (6 : Int32).toInt = 6 from rfl] at zc25
                            rw [show (7 : Int32).toInt = 7 from rfl] at zc26
                            omega
                          refine q_tableOut (tgt := 123) dX4_readPast_47 zz (by decide) ?_
                          exact q_sub [0, 1, 2] rfl (okX4_readPast_b123 ih hyp)
def fX4_readPast (n : Nat) (v0 : Nat) (v1 : Nat) (h : qH) : Option (Int32 × qH) :=
  (isO h v0 4).bind fun _ =>
  (fX5_clear v1 h).bind fun h1 =>
  (gR h1 v0 4 0).bind fun x2 =>
  (fX6_open n x2 h1).bind fun h4 =>
  fX4_readPast_b13 n n v0 v1 0 h4
theorem obX4_readPast {n : Nat} {v0 : Nat} {v1 : Nat} {h : qH} {p : Int32 × qH} (hyp : fX4_readPast n v0 v1 h = some p) : ∃ fs, h.1 v0 = some (.inr (4, fs)) := by
  unfold fX4_readPast at hyp
  exact q_bind hyp (fun _ e _ => isO_some e)
set_option maxHeartbeats 4000000 in
set_option maxRecDepth 100000 in
theorem okX4_readPast {l : Launch} {n : Nat} {v0 : Nat} {v1 : Nat} {h : qH} {p : Int32 × qH} (hyp : fX4_readPast n v0 v1 h = some p) : q_M l 53 yX4_readPast cX4_readPast 3 (some .int) [.ref v0, .ref v1] h (some (.int p.1)) p.2 := by
  obtain ⟨r, h'⟩ := p
  unfold fX4_readPast at hyp
  refine q_bind hyp (fun _ _ hyp => ?_)
  refine q_M.of (by decide) (Nat.le_of_ble_eq_true rfl) ?_
  refine q_to (ls' := [(0, .ref v0), (1, .ref v1)]) (st' := []) rfl rfl ?_
  refine q_aload_n 1 rfl dX4_readPast_0 ?_
  refine q_bind hyp (fun h1 e6 hyp => ?_)
  refine q_callV (as := []) (st := []) kY_X5_clear kL_X4_15 (okX5_clear (l := l) e6) (by decide) rfl (obX5_clear e6) (Nat.le_of_ble_eq_true rfl) dX4_readPast_1 ?_
  refine q_to (ls' := [(0, .ref v0), (1, .ref v1)]) (st' := []) rfl rfl ?_
  refine q_aload_n 0 rfl dX4_readPast_4 ?_
  refine q_bind hyp (fun x2 e3 hyp => ?_)
  refine q_getR kF_X4_9 dX4_readPast_5 e3 ?_
  refine q_bind hyp (fun h4 e5 hyp => ?_)
  refine q_callV (as := []) (st := []) kY_X6_open kL_X4_20 (okX6_open (l := l) e5) (by decide) rfl (obX6_open e5) (Nat.le_of_ble_eq_true rfl) dX4_readPast_8 ?_
  refine q_to (ls' := [(0, .ref v0), (1, .ref v1)]) (st' := []) rfl rfl ?_
  refine q_iconst (x := 0) rfl dX4_readPast_11 ?_
  refine q_istore_n (ls' := [(2, .int 0), (0, .ref v0), (1, .ref v1)]) (by decide) rfl dX4_readPast_12 ?_
  exact q_sub [1, 2, 0] rfl (okX4_readPast_b13 _ v0 v1 0 h4 hyp)
theorem dX4_readRoundLine_0 : decode cX4_readRoundLine 0 = .ok (.aload_n 0, 1) := by decide +kernel
theorem dX4_readRoundLine_1 : decode cX4_readRoundLine 1 = .ok (.getfield 9, 3) := by decide +kernel
theorem dX4_readRoundLine_4 : decode cX4_readRoundLine 4 = .ok (.invokevirtual 32, 3) := by decide +kernel
theorem dX4_readRoundLine_7 : decode cX4_readRoundLine 7 = .ok (.istore_n 3, 1) := by decide +kernel
theorem dX4_readRoundLine_8 : decode cX4_readRoundLine 8 = .ok (.iload_n 3, 1) := by decide +kernel
theorem dX4_readRoundLine_9 : decode cX4_readRoundLine 9 = .ok (.bipush 8, 2) := by decide +kernel
theorem dX4_readRoundLine_11 : decode cX4_readRoundLine 11 = .ok (.bipush 10, 2) := by decide +kernel
theorem dX4_readRoundLine_13 : decode cX4_readRoundLine 13 = .ok (.invokestatic 106, 3) := by decide +kernel
theorem dX4_readRoundLine_16 : decode cX4_readRoundLine 16 = .ok (.ifCond .ne 12, 3) := by decide +kernel
theorem dX4_readRoundLine_19 : decode cX4_readRoundLine 19 = .ok (.aload_n 0, 1) := by decide +kernel
theorem dX4_readRoundLine_20 : decode cX4_readRoundLine 20 = .ok (.getfield 9, 3) := by decide +kernel
theorem dX4_readRoundLine_23 : decode cX4_readRoundLine 23 = .ok (.iconst 1, 1) := by decide +kernel
theorem dX4_readRoundLine_24 : decode cX4_readRoundLine 24 = .ok (.invokevirtual 47, 3) := by decide +kernel
theorem dX4_readRoundLine_27 : decode cX4_readRoundLine 27 = .ok (.return_, 1) := by decide +kernel
theorem dX4_readRoundLine_28 : decode cX4_readRoundLine 28 = .ok (.aload_n 1, 1) := by decide +kernel
theorem dX4_readRoundLine_29 : decode cX4_readRoundLine 29 = .ok (.getfield 147, 3) := by decide +kernel
theorem dX4_readRoundLine_32 : decode cX4_readRoundLine 32 = .ok (.bipush 40, 2) := by decide +kernel
theorem dX4_readRoundLine_34 : decode cX4_readRoundLine 34 = .ok (.if_icmp .lt 12, 3) := by decide +kernel
theorem dX4_readRoundLine_37 : decode cX4_readRoundLine 37 = .ok (.aload_n 0, 1) := by decide +kernel
theorem dX4_readRoundLine_38 : decode cX4_readRoundLine 38 = .ok (.getfield 9, 3) := by decide +kernel
theorem dX4_readRoundLine_41 : decode cX4_readRoundLine 41 = .ok (.iconst 5, 1) := by decide +kernel
theorem dX4_readRoundLine_42 : decode cX4_readRoundLine 42 = .ok (.invokevirtual 47, 3) := by decide +kernel
theorem dX4_readRoundLine_45 : decode cX4_readRoundLine 45 = .ok (.return_, 1) := by decide +kernel
theorem dX4_readRoundLine_46 : decode cX4_readRoundLine 46 = .ok (.aload_n 0, 1) := by decide +kernel
theorem dX4_readRoundLine_47 : decode cX4_readRoundLine 47 = .ok (.getfield 9, 3) := by decide +kernel
theorem dX4_readRoundLine_50 : decode cX4_readRoundLine 50 = .ok (.invokevirtual 60, 3) := by decide +kernel
theorem dX4_readRoundLine_53 : decode cX4_readRoundLine 53 = .ok (.iload_n 3, 1) := by decide +kernel
theorem dX4_readRoundLine_54 : decode cX4_readRoundLine 54 = .ok (.bipush 10, 2) := by decide +kernel
theorem dX4_readRoundLine_56 : decode cX4_readRoundLine 56 = .ok (.if_icmp .ne 10, 3) := by decide +kernel
theorem dX4_readRoundLine_59 : decode cX4_readRoundLine 59 = .ok (.aload_n 1, 1) := by decide +kernel
theorem dX4_readRoundLine_60 : decode cX4_readRoundLine 60 = .ok (.iload_n 3, 1) := by decide +kernel
theorem dX4_readRoundLine_61 : decode cX4_readRoundLine 61 = .ok (.iconst (-1), 1) := by decide +kernel
theorem dX4_readRoundLine_62 : decode cX4_readRoundLine 62 = .ok (.invokevirtual 150, 3) := by decide +kernel
theorem dX4_readRoundLine_65 : decode cX4_readRoundLine 65 = .ok (.return_, 1) := by decide +kernel
theorem dX4_readRoundLine_66 : decode cX4_readRoundLine 66 = .ok (.aload_n 0, 1) := by decide +kernel
theorem dX4_readRoundLine_67 : decode cX4_readRoundLine 67 = .ok (.aload_n 2, 1) := by decide +kernel
theorem dX4_readRoundLine_68 : decode cX4_readRoundLine 68 = .ok (.invokevirtual 110, 3) := by decide +kernel
theorem dX4_readRoundLine_71 : decode cX4_readRoundLine 71 = .ok (.istore 4, 2) := by decide +kernel
theorem dX4_readRoundLine_73 : decode cX4_readRoundLine 73 = .ok (.iload 4, 2) := by decide +kernel
theorem dX4_readRoundLine_75 : decode cX4_readRoundLine 75 = .ok (.iconst (-1), 1) := by decide +kernel
theorem dX4_readRoundLine_76 : decode cX4_readRoundLine 76 = .ok (.if_icmp .eq 17, 3) := by decide +kernel
theorem dX4_readRoundLine_79 : decode cX4_readRoundLine 79 = .ok (.aload_n 1, 1) := by decide +kernel
theorem dX4_readRoundLine_80 : decode cX4_readRoundLine 80 = .ok (.iload_n 3, 1) := by decide +kernel
theorem dX4_readRoundLine_81 : decode cX4_readRoundLine 81 = .ok (.iload 4, 2) := by decide +kernel
theorem dX4_readRoundLine_83 : decode cX4_readRoundLine 83 = .ok (.invokevirtual 150, 3) := by decide +kernel
theorem dX4_readRoundLine_86 : decode cX4_readRoundLine 86 = .ok (.aload_n 0, 1) := by decide +kernel
theorem dX4_readRoundLine_87 : decode cX4_readRoundLine 87 = .ok (.getfield 9, 3) := by decide +kernel
theorem dX4_readRoundLine_90 : decode cX4_readRoundLine 90 = .ok (.invokevirtual 60, 3) := by decide +kernel
theorem dX4_readRoundLine_93 : decode cX4_readRoundLine 93 = .ok (.return_, 1) := by decide +kernel
def fX4_readRoundLine (n : Nat) (v0 : Nat) (v1 : Nat) (v2 : Nat) (h : qH) : Option (qH) :=
  (isO h v0 4).bind fun _ =>
  (gR h v0 4 0).bind fun x1 =>
  (fX6_keyHere x1 h).bind fun p3 =>
  (fX9_within p3.1 8 10 p3.2).bind fun p4 =>
  if p4.1 = 0 then
  ((gR p4.2 v0 4 0).bind fun x29 =>
  (fX6_fail x29 1 p4.2).bind fun h31 =>
  some h31)
  else
  ((gI p4.2 v1 2 2).bind fun x6 =>
  if x6 < 40 then
  ((gR p4.2 v0 4 0).bind fun x9 =>
  (fX6_advance n x9 p4.2).bind fun h11 =>
  if p3.1 = 10 then
  ((fX2_add v1 p3.1 ((-1)) h11).bind fun h22 =>
  some h22)
  else
  ((fX4_matterHere n v0 v2 h11).bind fun p13 =>
  if p13.1 = ((-1)) then
  (some p13.2)
  else
  ((fX2_add v1 p3.1 p13.1 p13.2).bind fun h15 =>
  (gR h15 v0 4 0).bind fun x16 =>
  (fX6_advance n x16 h15).bind fun h18 =>
  some h18)))
  else
  ((gR p4.2 v0 4 0).bind fun x25 =>
  (fX6_fail x25 5 p4.2).bind fun h27 =>
  some h27))
theorem obX4_readRoundLine {n : Nat} {v0 : Nat} {v1 : Nat} {v2 : Nat} {h : qH} {p : qH} (hyp : fX4_readRoundLine n v0 v1 v2 h = some p) : ∃ fs, h.1 v0 = some (.inr (4, fs)) := by
  unfold fX4_readRoundLine at hyp
  exact q_bind hyp (fun _ e _ => isO_some e)
set_option maxHeartbeats 4000000 in
set_option maxRecDepth 100000 in
theorem okX4_readRoundLine {l : Launch} {n : Nat} {v0 : Nat} {v1 : Nat} {v2 : Nat} {h : qH} {h' : qH} (hyp : fX4_readRoundLine n v0 v1 v2 h = some h') : q_M l 11 yX4_readRoundLine cX4_readRoundLine 5 none [.ref v0, .ref v1, .ref v2] h none h' := by
  unfold fX4_readRoundLine at hyp
  refine q_bind hyp (fun _ _ hyp => ?_)
  refine q_M.of (by decide) (Nat.le_of_ble_eq_true rfl) ?_
  refine q_to (ls' := [(0, .ref v0), (1, .ref v1), (2, .ref v2)]) (st' := []) rfl rfl ?_
  refine q_aload_n 0 rfl dX4_readRoundLine_0 ?_
  refine q_bind hyp (fun x1 e2 hyp => ?_)
  refine q_getR kF_X4_9 dX4_readRoundLine_1 e2 ?_
  refine q_bind hyp (fun p3 e34 hyp => ?_)
  refine q_callV (as := []) (st := []) kY_X6_keyHere kL_X4_32 (okX6_keyHere (l := l) e34) (by decide) rfl (obX6_keyHere e34) (Nat.le_of_ble_eq_true rfl) dX4_readRoundLine_4 ?_
  refine q_to (ls' := [(0, .ref v0), (1, .ref v1), (2, .ref v2)]) (st' := [.int p3.1]) rfl rfl ?_
  refine q_istore_n (ls' := [(3, .int p3.1), (0, .ref v0), (1, .ref v1), (2, .ref v2)]) (by decide) rfl dX4_readRoundLine_7 ?_
  refine q_iload_n 0 rfl dX4_readRoundLine_8 ?_
  refine q_bipush (x := 8) (by decide) dX4_readRoundLine_9 ?_
  refine q_bipush (x := 10) (by decide) dX4_readRoundLine_11 ?_
  refine q_bind hyp (fun p4 e33 hyp => ?_)
  refine q_callS (as := [.int p3.1, .int 8, .int 10]) (st := []) kY_X9_within kS_X9_within kL_X4_106 (okX9_within (l := l) e33) (by decide) rfl (Nat.le_of_ble_eq_true rfl) dX4_readRoundLine_13 ?_
  refine q_to (ls' := [(3, .int p3.1), (0, .ref v0), (1, .ref v1), (2, .ref v2)]) (st' := [.int p4.1]) rfl rfl ?_
  refine q_if_ne (tgt := 28) dX4_readRoundLine_16 (by decide) (fun c5 => ?_) (fun c5 => ?_)
  · have hyp := q_neg c5 hyp
    refine q_aload_n 2 rfl dX4_readRoundLine_28 ?_
    refine q_bind hyp (fun x6 e7 hyp => ?_)
    refine q_getI kF_X4_147 dX4_readRoundLine_29 e7 ?_
    refine q_bipush (x := 40) (by decide) dX4_readRoundLine_32 ?_
    refine q_icmp_lt (tgt := 46) dX4_readRoundLine_34 (by decide) (fun c8 => ?_) (fun c8 => ?_)
    · have hyp := q_pos c8 hyp
      refine q_aload_n 1 rfl dX4_readRoundLine_46 ?_
      refine q_bind hyp (fun x9 e10 hyp => ?_)
      refine q_getR kF_X4_9 dX4_readRoundLine_47 e10 ?_
      refine q_bind hyp (fun h11 e24 hyp => ?_)
      refine q_callV (as := []) (st := []) kY_X6_advance kL_X4_60 (okX6_advance (l := l) e24) (by decide) rfl (obX6_advance e24) (Nat.le_of_ble_eq_true rfl) dX4_readRoundLine_50 ?_
      refine q_to (ls' := [(3, .int p3.1), (0, .ref v0), (1, .ref v1), (2, .ref v2)]) (st' := []) rfl rfl ?_
      refine q_iload_n 0 rfl dX4_readRoundLine_53 ?_
      refine q_bipush (x := 10) (by decide) dX4_readRoundLine_54 ?_
      refine q_icmp_ne (tgt := 66) dX4_readRoundLine_56 (by decide) (fun c12 => ?_) (fun c12 => ?_)
      · have hyp := q_neg c12 hyp
        refine q_aload_n 1 rfl dX4_readRoundLine_66 ?_
        refine q_aload_n 3 rfl dX4_readRoundLine_67 ?_
        refine q_bind hyp (fun p13 e21 hyp => ?_)
        refine q_callV (as := [.ref v2]) (st := []) kY_X4_matterHere kL_X4_110 (okX4_matterHere (l := l) e21) (by decide) rfl (obX4_matterHere e21) (Nat.le_of_ble_eq_true rfl) dX4_readRoundLine_68 ?_
        refine q_to (ls' := [(3, .int p3.1), (0, .ref v0), (1, .ref v1), (2, .ref v2)]) (st' := [.int p13.1]) rfl rfl ?_
        refine q_istore (ls' := [(4, .int p13.1), (3, .int p3.1), (0, .ref v0), (1, .ref v1), (2, .ref v2)]) (by decide) rfl dX4_readRoundLine_71 ?_
        refine q_iload 0 rfl dX4_readRoundLine_73 ?_
        refine q_iconst (x := (-1)) rfl dX4_readRoundLine_75 ?_
        refine q_icmp_eq (tgt := 93) dX4_readRoundLine_76 (by decide) (fun c14 => ?_) (fun c14 => ?_)
        · have hyp := q_pos c14 hyp
          exact q_vretH rfl dX4_readRoundLine_93 hyp
        · have hyp := q_neg c14 hyp
          refine q_aload_n 3 rfl dX4_readRoundLine_79 ?_
          refine q_iload_n 1 rfl dX4_readRoundLine_80 ?_
          refine q_iload 0 rfl dX4_readRoundLine_81 ?_
          refine q_bind hyp (fun h15 e20 hyp => ?_)
          refine q_callV (as := [.int p3.1, .int p13.1]) (st := []) kY_X2_add kL_X4_150 (okX2_add (l := l) e20) (by decide) rfl (obX2_add e20) (Nat.le_of_ble_eq_true rfl) dX4_readRoundLine_83 ?_
          refine q_to (ls' := [(4, .int p13.1), (3, .int p3.1), (0, .ref v0), (1, .ref v1), (2, .ref v2)]) (st' := []) rfl rfl ?_
          refine q_aload_n 2 rfl dX4_readRoundLine_86 ?_
          refine q_bind hyp (fun x16 e17 hyp => ?_)
          refine q_getR kF_X4_9 dX4_readRoundLine_87 e17 ?_
          refine q_bind hyp (fun h18 e19 hyp => ?_)
          refine q_callV (as := []) (st := []) kY_X6_advance kL_X4_60 (okX6_advance (l := l) e19) (by decide) rfl (obX6_advance e19) (Nat.le_of_ble_eq_true rfl) dX4_readRoundLine_90 ?_
          refine q_to (ls' := [(4, .int p13.1), (3, .int p3.1), (0, .ref v0), (1, .ref v1), (2, .ref v2)]) (st' := []) rfl rfl ?_
          exact q_vretH rfl dX4_readRoundLine_93 hyp
      · have hyp := q_pos c12 hyp
        refine q_aload_n 2 rfl dX4_readRoundLine_59 ?_
        refine q_iload_n 0 rfl dX4_readRoundLine_60 ?_
        refine q_iconst (x := (-1)) rfl dX4_readRoundLine_61 ?_
        refine q_bind hyp (fun h22 e23 hyp => ?_)
        refine q_callV (as := [.int p3.1, .int ((-1))]) (st := []) kY_X2_add kL_X4_150 (okX2_add (l := l) e23) (by decide) rfl (obX2_add e23) (Nat.le_of_ble_eq_true rfl) dX4_readRoundLine_62 ?_
        refine q_to (ls' := [(3, .int p3.1), (0, .ref v0), (1, .ref v1), (2, .ref v2)]) (st' := []) rfl rfl ?_
        exact q_vretH rfl dX4_readRoundLine_65 hyp
    · have hyp := q_neg c8 hyp
      refine q_aload_n 1 rfl dX4_readRoundLine_37 ?_
      refine q_bind hyp (fun x25 e26 hyp => ?_)
      refine q_getR kF_X4_9 dX4_readRoundLine_38 e26 ?_
      refine q_iconst (x := 5) rfl dX4_readRoundLine_41 ?_
      refine q_bind hyp (fun h27 e28 hyp => ?_)
      refine q_callV (as := [.int 5]) (st := []) kY_X6_fail kL_X4_47 (okX6_fail (l := l) e28) (by decide) rfl (obX6_fail e28) (Nat.le_of_ble_eq_true rfl) dX4_readRoundLine_42 ?_
      refine q_to (ls' := [(3, .int p3.1), (0, .ref v0), (1, .ref v1), (2, .ref v2)]) (st' := []) rfl rfl ?_
      exact q_vretH rfl dX4_readRoundLine_45 hyp
  · have hyp := q_pos c5 hyp
    refine q_aload_n 1 rfl dX4_readRoundLine_19 ?_
    refine q_bind hyp (fun x29 e30 hyp => ?_)
    refine q_getR kF_X4_9 dX4_readRoundLine_20 e30 ?_
    refine q_iconst (x := 1) rfl dX4_readRoundLine_23 ?_
    refine q_bind hyp (fun h31 e32 hyp => ?_)
    refine q_callV (as := [.int 1]) (st := []) kY_X6_fail kL_X4_47 (okX6_fail (l := l) e32) (by decide) rfl (obX6_fail e32) (Nat.le_of_ble_eq_true rfl) dX4_readRoundLine_24 ?_
    refine q_to (ls' := [(3, .int p3.1), (0, .ref v0), (1, .ref v1), (2, .ref v2)]) (st' := []) rfl rfl ?_
    exact q_vretH rfl dX4_readRoundLine_27 hyp
theorem dX4_readRound_0 : decode cX4_readRound 0 = .ok (.aload_n 1, 1) := by decide +kernel
theorem dX4_readRound_1 : decode cX4_readRound 1 = .ok (.invokevirtual 140, 3) := by decide +kernel
theorem dX4_readRound_4 : decode cX4_readRound 4 = .ok (.aload_n 0, 1) := by decide +kernel
theorem dX4_readRound_5 : decode cX4_readRound 5 = .ok (.getfield 9, 3) := by decide +kernel
theorem dX4_readRound_8 : decode cX4_readRound 8 = .ok (.invokevirtual 20, 3) := by decide +kernel
theorem dX4_readRound_11 : decode cX4_readRound 11 = .ok (.iconst 0, 1) := by decide +kernel
theorem dX4_readRound_12 : decode cX4_readRound 12 = .ok (.istore_n 3, 1) := by decide +kernel
theorem dX4_readRound_13 : decode cX4_readRound 13 = .ok (.iload_n 3, 1) := by decide +kernel
theorem dX4_readRound_14 : decode cX4_readRound 14 = .ok (.sipush 1000, 3) := by decide +kernel
theorem dX4_readRound_17 : decode cX4_readRound 17 = .ok (.if_icmp .gt 44, 3) := by decide +kernel
theorem dX4_readRound_20 : decode cX4_readRound 20 = .ok (.aload_n 0, 1) := by decide +kernel
theorem dX4_readRound_21 : decode cX4_readRound 21 = .ok (.getfield 9, 3) := by decide +kernel
theorem dX4_readRound_24 : decode cX4_readRound 24 = .ok (.getfield 25, 3) := by decide +kernel
theorem dX4_readRound_27 : decode cX4_readRound 27 = .ok (.ifCond .ne 34, 3) := by decide +kernel
theorem dX4_readRound_30 : decode cX4_readRound 30 = .ok (.aload_n 0, 1) := by decide +kernel
theorem dX4_readRound_31 : decode cX4_readRound 31 = .ok (.getfield 9, 3) := by decide +kernel
theorem dX4_readRound_34 : decode cX4_readRound 34 = .ok (.getfield 29, 3) := by decide +kernel
theorem dX4_readRound_37 : decode cX4_readRound 37 = .ok (.ifCond .eq 24, 3) := by decide +kernel
theorem dX4_readRound_40 : decode cX4_readRound 40 = .ok (.aload_n 0, 1) := by decide +kernel
theorem dX4_readRound_41 : decode cX4_readRound 41 = .ok (.aload_n 1, 1) := by decide +kernel
theorem dX4_readRound_42 : decode cX4_readRound 42 = .ok (.aload_n 2, 1) := by decide +kernel
theorem dX4_readRound_43 : decode cX4_readRound 43 = .ok (.invokevirtual 143, 3) := by decide +kernel
theorem dX4_readRound_46 : decode cX4_readRound 46 = .ok (.aload_n 0, 1) := by decide +kernel
theorem dX4_readRound_47 : decode cX4_readRound 47 = .ok (.getfield 9, 3) := by decide +kernel
theorem dX4_readRound_50 : decode cX4_readRound 50 = .ok (.bipush 59, 2) := by decide +kernel
theorem dX4_readRound_52 : decode cX4_readRound 52 = .ok (.invokevirtual 51, 3) := by decide +kernel
theorem dX4_readRound_55 : decode cX4_readRound 55 = .ok (.iinc 3 1, 3) := by decide +kernel
theorem dX4_readRound_58 : decode cX4_readRound 58 = .ok (.goto (-45), 3) := by decide +kernel
theorem dX4_readRound_61 : decode cX4_readRound 61 = .ok (.aload_n 0, 1) := by decide +kernel
theorem dX4_readRound_62 : decode cX4_readRound 62 = .ok (.getfield 9, 3) := by decide +kernel
theorem dX4_readRound_65 : decode cX4_readRound 65 = .ok (.invokevirtual 54, 3) := by decide +kernel
theorem dX4_readRound_68 : decode cX4_readRound 68 = .ok (.ireturn, 1) := by decide +kernel
def fX4_readRound_b61 (n : Nat) (v0 : Nat) (h : qH) : Option (Int32 × qH) :=
  (gR h v0 4 0).bind fun x1 =>
  (fX6_close x1 h).bind fun p3 =>
  some (p3.1, p3.2)
set_option maxHeartbeats 4000000 in
set_option maxRecDepth 100000 in
theorem okX4_readRound_b61 {l : Launch} {n : Nat} {v0 : Nat} {h : qH} {r : Int32} {h' : qH} (hyp : fX4_readRound_b61 n v0 h = some (r, h')) : q_W l 12 yX4_readRound cX4_readRound 4 (some .int) (some (.int r)) h' 61 [(0, .ref v0)] [] h := by
  unfold fX4_readRound_b61 at hyp
  refine q_aload_n 0 rfl dX4_readRound_61 ?_
  refine q_bind hyp (fun x1 e2 hyp => ?_)
  refine q_getR kF_X4_9 dX4_readRound_62 e2 ?_
  refine q_bind hyp (fun p3 e4 hyp => ?_)
  refine q_callV (as := []) (st := []) kY_X6_close kL_X4_54 (okX6_close (l := l) e4) (by decide) rfl (obX6_close e4) (Nat.le_of_ble_eq_true rfl) dX4_readRound_65 ?_
  refine q_to (ls' := [(0, .ref v0)]) (st' := [.int p3.1]) rfl rfl ?_
  exact q_iretH rfl rfl dX4_readRound_68 hyp
def fX4_readRound_b13 (n : Nat) : Nat → Nat → Nat → Nat → Int32 → qH → Option (Int32 × qH)
  | 0, _, _, _, _, _ => none
  | w + 1, v0, v1, v2, v3, h =>
    if 1000 < v3 then
    (fX4_readRound_b61 n v0 h)
    else
    ((gR h v0 4 0).bind fun x2 =>
    (gI h x2 6 8).bind fun x4 =>
    if x4 = 0 then
    ((gR h v0 4 0).bind fun x7 =>
    (gI h x7 6 4).bind fun x9 =>
    if x9 = 0 then
    (fX4_readRound_b61 n v0 h)
    else
    ((fX4_readRoundLine n v0 v1 v2 h).bind fun h12 =>
    (gR h12 v0 4 0).bind fun x13 =>
    (fX6_takeSign n x13 59 h12).bind fun h15 =>
    fX4_readRound_b13 n w v0 v1 v2 (v3 + 1) h15))
    else
    (fX4_readRound_b61 n v0 h))
set_option maxHeartbeats 4000000 in
set_option maxRecDepth 100000 in
theorem okX4_readRound_b13 {l : Launch} {n : Nat} {r : Int32} {h' : qH} : ∀ (w : Nat) (v0 : Nat) (v1 : Nat) (v2 : Nat) (v3 : Int32) (h : qH), fX4_readRound_b13 n w v0 v1 v2 v3 h = some (r, h') → q_W l 12 yX4_readRound cX4_readRound 4 (some .int) (some (.int r)) h' 13 [(0, .ref v0), (1, .ref v1), (2, .ref v2), (3, .int v3)] [] h := by
  intro w
  induction w with
  | zero => intro v0 v1 v2 v3 h hyp; cases hyp
  | succ w ih =>
    intro v0 v1 v2 v3 h hyp
    unfold fX4_readRound_b13 at hyp
    refine q_iload_n 3 rfl dX4_readRound_13 ?_
    refine q_sipush (x := 1000) (by decide) dX4_readRound_14 ?_
    refine q_icmp_gt (tgt := 61) dX4_readRound_17 (by decide) (fun c1 => ?_) (fun c1 => ?_)
    · have hyp := q_pos c1 hyp
      exact q_sub [0] rfl (okX4_readRound_b61 hyp)
    · have hyp := q_neg c1 hyp
      refine q_aload_n 0 rfl dX4_readRound_20 ?_
      refine q_bind hyp (fun x2 e3 hyp => ?_)
      refine q_getR kF_X4_9 dX4_readRound_21 e3 ?_
      refine q_bind hyp (fun x4 e5 hyp => ?_)
      refine q_getI kF_X4_25 dX4_readRound_24 e5 ?_
      refine q_if_ne (tgt := 61) dX4_readRound_27 (by decide) (fun c6 => ?_) (fun c6 => ?_)
      · have hyp := q_neg c6 hyp
        exact q_sub [0] rfl (okX4_readRound_b61 hyp)
      · have hyp := q_pos c6 hyp
        refine q_aload_n 0 rfl dX4_readRound_30 ?_
        refine q_bind hyp (fun x7 e8 hyp => ?_)
        refine q_getR kF_X4_9 dX4_readRound_31 e8 ?_
        refine q_bind hyp (fun x9 e10 hyp => ?_)
        refine q_getI kF_X4_29 dX4_readRound_34 e10 ?_
        refine q_if_eq (tgt := 61) dX4_readRound_37 (by decide) (fun c11 => ?_) (fun c11 => ?_)
        · have hyp := q_pos c11 hyp
          exact q_sub [0] rfl (okX4_readRound_b61 hyp)
        · have hyp := q_neg c11 hyp
          refine q_aload_n 0 rfl dX4_readRound_40 ?_
          refine q_aload_n 1 rfl dX4_readRound_41 ?_
          refine q_aload_n 2 rfl dX4_readRound_42 ?_
          refine q_bind hyp (fun h12 e17 hyp => ?_)
          refine q_callV (as := [.ref v1, .ref v2]) (st := []) kY_X4_readRoundLine kL_X4_143 (okX4_readRoundLine (l := l) e17) (by decide) rfl (obX4_readRoundLine e17) (Nat.le_of_ble_eq_true rfl) dX4_readRound_43 ?_
          refine q_to (ls' := [(0, .ref v0), (1, .ref v1), (2, .ref v2), (3, .int v3)]) (st' := []) rfl rfl ?_
          refine q_aload_n 0 rfl dX4_readRound_46 ?_
          refine q_bind hyp (fun x13 e14 hyp => ?_)
          refine q_getR kF_X4_9 dX4_readRound_47 e14 ?_
          refine q_bipush (x := 59) (by decide) dX4_readRound_50 ?_
          refine q_bind hyp (fun h15 e16 hyp => ?_)
          refine q_callV (as := [.int 59]) (st := []) kY_X6_takeSign kL_X4_51 (okX6_takeSign (l := l) e16) (by decide) rfl (obX6_takeSign e16) (Nat.le_of_ble_eq_true rfl) dX4_readRound_52 ?_
          refine q_to (ls' := [(0, .ref v0), (1, .ref v1), (2, .ref v2), (3, .int v3)]) (st' := []) rfl rfl ?_
          refine q_iinc (ls' := [(3, .int (v3 + 1)), (0, .ref v0), (1, .ref v1), (2, .ref v2)]) 3 rfl rfl (by decide) rfl dX4_readRound_55 ?_
          refine q_goto (tgt := 13) dX4_readRound_58 (by decide) ?_
          exact q_sub [1, 2, 3, 0] rfl (ih v0 v1 v2 (v3 + 1) h15 hyp)
def fX4_readRound (n : Nat) (v0 : Nat) (v1 : Nat) (v2 : Nat) (h : qH) : Option (Int32 × qH) :=
  (isO h v0 4).bind fun _ =>
  (fX2_clear v1 h).bind fun h1 =>
  (gR h1 v0 4 0).bind fun x2 =>
  (fX6_open n x2 h1).bind fun h4 =>
  fX4_readRound_b13 n n v0 v1 v2 0 h4
theorem obX4_readRound {n : Nat} {v0 : Nat} {v1 : Nat} {v2 : Nat} {h : qH} {p : Int32 × qH} (hyp : fX4_readRound n v0 v1 v2 h = some p) : ∃ fs, h.1 v0 = some (.inr (4, fs)) := by
  unfold fX4_readRound at hyp
  exact q_bind hyp (fun _ e _ => isO_some e)
set_option maxHeartbeats 4000000 in
set_option maxRecDepth 100000 in
theorem okX4_readRound {l : Launch} {n : Nat} {v0 : Nat} {v1 : Nat} {v2 : Nat} {h : qH} {p : Int32 × qH} (hyp : fX4_readRound n v0 v1 v2 h = some p) : q_M l 12 yX4_readRound cX4_readRound 4 (some .int) [.ref v0, .ref v1, .ref v2] h (some (.int p.1)) p.2 := by
  obtain ⟨r, h'⟩ := p
  unfold fX4_readRound at hyp
  refine q_bind hyp (fun _ _ hyp => ?_)
  refine q_M.of (by decide) (Nat.le_of_ble_eq_true rfl) ?_
  refine q_to (ls' := [(0, .ref v0), (1, .ref v1), (2, .ref v2)]) (st' := []) rfl rfl ?_
  refine q_aload_n 1 rfl dX4_readRound_0 ?_
  refine q_bind hyp (fun h1 e6 hyp => ?_)
  refine q_callV (as := []) (st := []) kY_X2_clear kL_X4_140 (okX2_clear (l := l) e6) (by decide) rfl (obX2_clear e6) (Nat.le_of_ble_eq_true rfl) dX4_readRound_1 ?_
  refine q_to (ls' := [(0, .ref v0), (1, .ref v1), (2, .ref v2)]) (st' := []) rfl rfl ?_
  refine q_aload_n 0 rfl dX4_readRound_4 ?_
  refine q_bind hyp (fun x2 e3 hyp => ?_)
  refine q_getR kF_X4_9 dX4_readRound_5 e3 ?_
  refine q_bind hyp (fun h4 e5 hyp => ?_)
  refine q_callV (as := []) (st := []) kY_X6_open kL_X4_20 (okX6_open (l := l) e5) (by decide) rfl (obX6_open e5) (Nat.le_of_ble_eq_true rfl) dX4_readRound_8 ?_
  refine q_to (ls' := [(0, .ref v0), (1, .ref v1), (2, .ref v2)]) (st' := []) rfl rfl ?_
  refine q_iconst (x := 0) rfl dX4_readRound_11 ?_
  refine q_istore_n (ls' := [(3, .int 0), (0, .ref v0), (1, .ref v1), (2, .ref v2)]) (by decide) rfl dX4_readRound_12 ?_
  exact q_sub [1, 2, 3, 0] rfl (okX4_readRound_b13 _ v0 v1 v2 0 h4 hyp)
theorem dX5_rightBy_0 : decode cX5_rightBy 0 = .ok (.iload_n 1, 1) := by decide +kernel
theorem dX5_rightBy_1 : decode cX5_rightBy 1 = .ok (.istore_n 2, 1) := by decide +kernel
theorem dX5_rightBy_2 : decode cX5_rightBy 2 = .ok (.iconst 0, 1) := by decide +kernel
theorem dX5_rightBy_3 : decode cX5_rightBy 3 = .ok (.istore_n 3, 1) := by decide +kernel
theorem dX5_rightBy_4 : decode cX5_rightBy 4 = .ok (.iload_n 3, 1) := by decide +kernel
theorem dX5_rightBy_5 : decode cX5_rightBy 5 = .ok (.aload_n 0, 1) := by decide +kernel
theorem dX5_rightBy_6 : decode cX5_rightBy 6 = .ok (.getfield 35, 3) := by decide +kernel
theorem dX5_rightBy_9 : decode cX5_rightBy 9 = .ok (.if_icmp .ge 46, 3) := by decide +kernel
theorem dX5_rightBy_12 : decode cX5_rightBy 12 = .ok (.iconst 0, 1) := by decide +kernel
theorem dX5_rightBy_13 : decode cX5_rightBy 13 = .ok (.istore 4, 2) := by decide +kernel
theorem dX5_rightBy_15 : decode cX5_rightBy 15 = .ok (.iload 4, 2) := by decide +kernel
theorem dX5_rightBy_17 : decode cX5_rightBy 17 = .ok (.aload_n 0, 1) := by decide +kernel
theorem dX5_rightBy_18 : decode cX5_rightBy 18 = .ok (.getfield 35, 3) := by decide +kernel
theorem dX5_rightBy_21 : decode cX5_rightBy 21 = .ok (.if_icmp .ge 28, 3) := by decide +kernel
theorem dX5_rightBy_24 : decode cX5_rightBy 24 = .ok (.aload_n 0, 1) := by decide +kernel
theorem dX5_rightBy_25 : decode cX5_rightBy 25 = .ok (.getfield 25, 3) := by decide +kernel
theorem dX5_rightBy_28 : decode cX5_rightBy 28 = .ok (.iload 4, 2) := by decide +kernel
theorem dX5_rightBy_30 : decode cX5_rightBy 30 = .ok (.iaload, 1) := by decide +kernel
theorem dX5_rightBy_31 : decode cX5_rightBy 31 = .ok (.iload_n 2, 1) := by decide +kernel
theorem dX5_rightBy_32 : decode cX5_rightBy 32 = .ok (.iand, 1) := by decide +kernel
theorem dX5_rightBy_33 : decode cX5_rightBy 33 = .ok (.ifCond .eq 10, 3) := by decide +kernel
theorem dX5_rightBy_36 : decode cX5_rightBy 36 = .ok (.iload_n 2, 1) := by decide +kernel
theorem dX5_rightBy_37 : decode cX5_rightBy 37 = .ok (.iconst 1, 1) := by decide +kernel
theorem dX5_rightBy_38 : decode cX5_rightBy 38 = .ok (.iload 4, 2) := by decide +kernel
theorem dX5_rightBy_40 : decode cX5_rightBy 40 = .ok (.ishl, 1) := by decide +kernel
theorem dX5_rightBy_41 : decode cX5_rightBy 41 = .ok (.ior, 1) := by decide +kernel
theorem dX5_rightBy_42 : decode cX5_rightBy 42 = .ok (.istore_n 2, 1) := by decide +kernel
theorem dX5_rightBy_43 : decode cX5_rightBy 43 = .ok (.iinc 4 1, 3) := by decide +kernel
theorem dX5_rightBy_46 : decode cX5_rightBy 46 = .ok (.goto (-31), 3) := by decide +kernel
theorem dX5_rightBy_49 : decode cX5_rightBy 49 = .ok (.iinc 3 1, 3) := by decide +kernel
theorem dX5_rightBy_52 : decode cX5_rightBy 52 = .ok (.goto (-48), 3) := by decide +kernel
theorem dX5_rightBy_55 : decode cX5_rightBy 55 = .ok (.iload_n 2, 1) := by decide +kernel
theorem dX5_rightBy_56 : decode cX5_rightBy 56 = .ok (.ireturn, 1) := by decide +kernel
def fX5_rightBy_b15 (n : Nat) (K4 : Nat → Int32 → Int32 → qH → Option (Int32 × qH)) : Nat → Nat → Int32 → Int32 → Int32 → qH → Option (Int32 × qH)
  | 0, _, _, _, _, _ => none
  | w + 1, v0, v2, v3, v4, h =>
    (gI h v0 5 6).bind fun x1 =>
    if x1 ≤ v4 then
    (K4 v0 v2 (v3 + 1) h)
    else
    ((gR h v0 5 4).bind fun x4 =>
    (aI .int h x4 v4).bind fun x6 =>
    if (x6 &&& v2) = 0 then
    (fX5_rightBy_b15 n K4 w v0 v2 v3 (v4 + 1) h)
    else
    (fX5_rightBy_b15 n K4 w v0 (v2 ||| ((1 : Int32) <<< (v4 &&& 31))) v3 (v4 + 1) h))
set_option maxHeartbeats 4000000 in
set_option maxRecDepth 100000 in
theorem okX5_rightBy_b15 {l : Launch} {n : Nat} {K4 : Nat → Int32 → Int32 → qH → Option (Int32 × qH)} {r : Int32} {h' : qH} (hK4 : ∀ (v0 : Nat) (v2 : Int32) (v3 : Int32) (h : qH), K4 v0 v2 v3 h = some (r, h') → q_W l 1 yX5_rightBy cX5_rightBy 5 (some .int) (some (.int r)) h' 4 [(0, .ref v0), (2, .int v2), (3, .int v3)] [] h) : ∀ (w : Nat) (v0 : Nat) (v2 : Int32) (v3 : Int32) (v4 : Int32) (h : qH), fX5_rightBy_b15 n K4 w v0 v2 v3 v4 h = some (r, h') → q_W l 1 yX5_rightBy cX5_rightBy 5 (some .int) (some (.int r)) h' 15 [(0, .ref v0), (2, .int v2), (3, .int v3), (4, .int v4)] [] h := by
  intro w
  induction w with
  | zero => intro v0 v2 v3 v4 h hyp; cases hyp
  | succ w ih =>
    intro v0 v2 v3 v4 h hyp
    unfold fX5_rightBy_b15 at hyp
    refine q_iload 3 rfl dX5_rightBy_15 ?_
    refine q_aload_n 0 rfl dX5_rightBy_17 ?_
    refine q_bind hyp (fun x1 e2 hyp => ?_)
    refine q_getI kF_X5_35 dX5_rightBy_18 e2 ?_
    refine q_icmp_ge (tgt := 49) dX5_rightBy_21 (by decide) (fun c3 => ?_) (fun c3 => ?_)
    · have hyp := q_pos c3 hyp
      refine q_iinc (ls' := [(3, .int (v3 + 1)), (0, .ref v0), (2, .int v2), (4, .int v4)]) 2 rfl rfl (by decide) rfl dX5_rightBy_49 ?_
      refine q_goto (tgt := 4) dX5_rightBy_52 (by decide) ?_
      exact q_sub [1, 2, 0] rfl (hK4 v0 v2 (v3 + 1) h hyp)
    · have hyp := q_neg c3 hyp
      refine q_aload_n 0 rfl dX5_rightBy_24 ?_
      refine q_bind hyp (fun x4 e5 hyp => ?_)
      refine q_getR kF_X5_25 dX5_rightBy_25 e5 ?_
      refine q_iload 3 rfl dX5_rightBy_28 ?_
      refine q_bind hyp (fun x6 e7 hyp => ?_)
      refine q_iald dX5_rightBy_30 e7 ?_
      refine q_iload_n 1 rfl dX5_rightBy_31 ?_
      refine q_iand dX5_rightBy_32 ?_
      refine q_if_eq (tgt := 43) dX5_rightBy_33 (by decide) (fun c8 => ?_) (fun c8 => ?_)
      · have hyp := q_pos c8 hyp
        refine q_iinc (ls' := [(4, .int (v4 + 1)), (0, .ref v0), (2, .int v2), (3, .int v3)]) 3 rfl rfl (by decide) rfl dX5_rightBy_43 ?_
        refine q_goto (tgt := 15) dX5_rightBy_46 (by decide) ?_
        exact q_sub [1, 2, 3, 0] rfl (ih v0 v2 v3 (v4 + 1) h hyp)
      · have hyp := q_neg c8 hyp
        refine q_iload_n 1 rfl dX5_rightBy_36 ?_
        refine q_iconst (x := 1) rfl dX5_rightBy_37 ?_
        refine q_iload 3 rfl dX5_rightBy_38 ?_
        refine q_ishl dX5_rightBy_40 ?_
        refine q_ior dX5_rightBy_41 ?_
        refine q_istore_n (ls' := [(2, .int (v2 ||| ((1 : Int32) <<< (v4 &&& 31)))), (0, .ref v0), (3, .int v3), (4, .int v4)]) (by decide) rfl dX5_rightBy_42 ?_
        refine q_iinc (ls' := [(4, .int (v4 + 1)), (2, .int (v2 ||| ((1 : Int32) <<< (v4 &&& 31)))), (0, .ref v0), (3, .int v3)]) 3 rfl rfl (by decide) rfl dX5_rightBy_43 ?_
        refine q_goto (tgt := 15) dX5_rightBy_46 (by decide) ?_
        exact q_sub [2, 1, 3, 0] rfl (ih v0 (v2 ||| ((1 : Int32) <<< (v4 &&& 31))) v3 (v4 + 1) h hyp)
def fX5_rightBy_b4 (n : Nat) : Nat → Nat → Int32 → Int32 → qH → Option (Int32 × qH)
  | 0, _, _, _, _ => none
  | w + 1, v0, v2, v3, h =>
    (gI h v0 5 6).bind fun x1 =>
    if x1 ≤ v3 then
    (some (v2, h))
    else
    (fX5_rightBy_b15 n (fX5_rightBy_b4 n w) n v0 v2 v3 0 h)
set_option maxHeartbeats 4000000 in
set_option maxRecDepth 100000 in
theorem okX5_rightBy_b4 {l : Launch} {n : Nat} {r : Int32} {h' : qH} : ∀ (w : Nat) (v0 : Nat) (v2 : Int32) (v3 : Int32) (h : qH), fX5_rightBy_b4 n w v0 v2 v3 h = some (r, h') → q_W l 1 yX5_rightBy cX5_rightBy 5 (some .int) (some (.int r)) h' 4 [(0, .ref v0), (2, .int v2), (3, .int v3)] [] h := by
  intro w
  induction w with
  | zero => intro v0 v2 v3 h hyp; cases hyp
  | succ w ih =>
    intro v0 v2 v3 h hyp
    unfold fX5_rightBy_b4 at hyp
    refine q_iload_n 2 rfl dX5_rightBy_4 ?_
    refine q_aload_n 0 rfl dX5_rightBy_5 ?_
    refine q_bind hyp (fun x1 e2 hyp => ?_)
    refine q_getI kF_X5_35 dX5_rightBy_6 e2 ?_
    refine q_icmp_ge (tgt := 55) dX5_rightBy_9 (by decide) (fun c3 => ?_) (fun c3 => ?_)
    · have hyp := q_pos c3 hyp
      refine q_iload_n 1 rfl dX5_rightBy_55 ?_
      exact q_iretH rfl rfl dX5_rightBy_56 hyp
    · have hyp := q_neg c3 hyp
      refine q_iconst (x := 0) rfl dX5_rightBy_12 ?_
      refine q_istore (ls' := [(4, .int 0), (0, .ref v0), (2, .int v2), (3, .int v3)]) (by decide) rfl dX5_rightBy_13 ?_
      exact q_sub [1, 2, 3, 0] rfl (okX5_rightBy_b15 ih _ v0 v2 v3 0 h hyp)
def fX5_rightBy (n : Nat) (v0 : Nat) (v1 : Int32) (h : qH) : Option (Int32 × qH) :=
  (isO h v0 5).bind fun _ =>
  fX5_rightBy_b4 n n v0 v1 0 h
theorem obX5_rightBy {n : Nat} {v0 : Nat} {v1 : Int32} {h : qH} {p : Int32 × qH} (hyp : fX5_rightBy n v0 v1 h = some p) : ∃ fs, h.1 v0 = some (.inr (5, fs)) := by
  unfold fX5_rightBy at hyp
  exact q_bind hyp (fun _ e _ => isO_some e)
set_option maxHeartbeats 4000000 in
set_option maxRecDepth 100000 in
theorem okX5_rightBy {l : Launch} {n : Nat} {v0 : Nat} {v1 : Int32} {h : qH} {p : Int32 × qH} (hyp : fX5_rightBy n v0 v1 h = some p) : q_M l 1 yX5_rightBy cX5_rightBy 5 (some .int) [.ref v0, .int v1] h (some (.int p.1)) p.2 := by
  obtain ⟨r, h'⟩ := p
  unfold fX5_rightBy at hyp
  refine q_bind hyp (fun _ _ hyp => ?_)
  refine q_M.of (by decide) (Nat.le_of_ble_eq_true rfl) ?_
  refine q_to (ls' := [(0, .ref v0), (1, .int v1)]) (st' := []) rfl rfl ?_
  refine q_iload_n 1 rfl dX5_rightBy_0 ?_
  refine q_istore_n (ls' := [(2, .int v1), (0, .ref v0), (1, .int v1)]) (by decide) rfl dX5_rightBy_1 ?_
  refine q_iconst (x := 0) rfl dX5_rightBy_2 ?_
  refine q_istore_n (ls' := [(3, .int 0), (2, .int v1), (0, .ref v0), (1, .int v1)]) (by decide) rfl dX5_rightBy_3 ?_
  exact q_sub [2, 1, 0] rfl (okX5_rightBy_b4 _ v0 v1 0 h hyp)
theorem dX5_causeBits_0 : decode cX5_causeBits 0 = .ok (.aload_n 0, 1) := by decide +kernel
theorem dX5_causeBits_1 : decode cX5_causeBits 1 = .ok (.iconst 1, 1) := by decide +kernel
theorem dX5_causeBits_2 : decode cX5_causeBits 2 = .ok (.iload_n 1, 1) := by decide +kernel
theorem dX5_causeBits_3 : decode cX5_causeBits 3 = .ok (.ishl, 1) := by decide +kernel
theorem dX5_causeBits_4 : decode cX5_causeBits 4 = .ok (.invokevirtual 74, 3) := by decide +kernel
theorem dX5_causeBits_7 : decode cX5_causeBits 7 = .ok (.iconst 1, 1) := by decide +kernel
theorem dX5_causeBits_8 : decode cX5_causeBits 8 = .ok (.iload_n 1, 1) := by decide +kernel
theorem dX5_causeBits_9 : decode cX5_causeBits 9 = .ok (.ishl, 1) := by decide +kernel
theorem dX5_causeBits_10 : decode cX5_causeBits 10 = .ok (.iconst (-1), 1) := by decide +kernel
theorem dX5_causeBits_11 : decode cX5_causeBits 11 = .ok (.ixor, 1) := by decide +kernel
theorem dX5_causeBits_12 : decode cX5_causeBits 12 = .ok (.iand, 1) := by decide +kernel
theorem dX5_causeBits_13 : decode cX5_causeBits 13 = .ok (.ireturn, 1) := by decide +kernel
def fX5_causeBits (n : Nat) (v0 : Nat) (v1 : Int32) (h : qH) : Option (Int32 × qH) :=
  (isO h v0 5).bind fun _ =>
  (fX5_rightBy n v0 ((1 : Int32) <<< (v1 &&& 31)) h).bind fun p1 =>
  some (p1.1 &&& (((1 : Int32) <<< (v1 &&& 31)) ^^^ ((-1))), p1.2)
theorem obX5_causeBits {n : Nat} {v0 : Nat} {v1 : Int32} {h : qH} {p : Int32 × qH} (hyp : fX5_causeBits n v0 v1 h = some p) : ∃ fs, h.1 v0 = some (.inr (5, fs)) := by
  unfold fX5_causeBits at hyp
  exact q_bind hyp (fun _ e _ => isO_some e)
set_option maxHeartbeats 4000000 in
set_option maxRecDepth 100000 in
theorem okX5_causeBits {l : Launch} {n : Nat} {v0 : Nat} {v1 : Int32} {h : qH} {p : Int32 × qH} (hyp : fX5_causeBits n v0 v1 h = some p) : q_M l 2 yX5_causeBits cX5_causeBits 2 (some .int) [.ref v0, .int v1] h (some (.int p.1)) p.2 := by
  obtain ⟨r, h'⟩ := p
  unfold fX5_causeBits at hyp
  refine q_bind hyp (fun _ _ hyp => ?_)
  refine q_M.of (by decide) (Nat.le_of_ble_eq_true rfl) ?_
  refine q_to (ls' := [(0, .ref v0), (1, .int v1)]) (st' := []) rfl rfl ?_
  refine q_aload_n 0 rfl dX5_causeBits_0 ?_
  refine q_iconst (x := 1) rfl dX5_causeBits_1 ?_
  refine q_iload_n 1 rfl dX5_causeBits_2 ?_
  refine q_ishl dX5_causeBits_3 ?_
  refine q_bind hyp (fun p1 e2 hyp => ?_)
  refine q_callV (as := [.int ((1 : Int32) <<< (v1 &&& 31))]) (st := []) kY_X5_rightBy kL_X5_74 (okX5_rightBy (l := l) e2) (by decide) rfl (obX5_rightBy e2) (Nat.le_of_ble_eq_true rfl) dX5_causeBits_4 ?_
  refine q_to (ls' := [(0, .ref v0), (1, .int v1)]) (st' := [.int p1.1]) rfl rfl ?_
  refine q_iconst (x := 1) rfl dX5_causeBits_7 ?_
  refine q_iload_n 1 rfl dX5_causeBits_8 ?_
  refine q_ishl dX5_causeBits_9 ?_
  refine q_iconst (x := (-1)) rfl dX5_causeBits_10 ?_
  refine q_ixor dX5_causeBits_11 ?_
  refine q_iand dX5_causeBits_12 ?_
  exact q_iretH rfl rfl dX5_causeBits_13 hyp
theorem dX5_coatsAfterCoat_0 : decode cX5_coatsAfterCoat 0 = .ok (.aload_n 0, 1) := by decide +kernel
theorem dX5_coatsAfterCoat_1 : decode cX5_coatsAfterCoat 1 = .ok (.getfield 15, 3) := by decide +kernel
theorem dX5_coatsAfterCoat_4 : decode cX5_coatsAfterCoat 4 = .ok (.iload_n 1, 1) := by decide +kernel
theorem dX5_coatsAfterCoat_5 : decode cX5_coatsAfterCoat 5 = .ok (.iaload, 1) := by decide +kernel
theorem dX5_coatsAfterCoat_6 : decode cX5_coatsAfterCoat 6 = .ok (.iconst 3, 1) := by decide +kernel
theorem dX5_coatsAfterCoat_7 : decode cX5_coatsAfterCoat 7 = .ok (.if_icmp .ne 7, 3) := by decide +kernel
theorem dX5_coatsAfterCoat_10 : decode cX5_coatsAfterCoat 10 = .ok (.iload_n 2, 1) := by decide +kernel
theorem dX5_coatsAfterCoat_11 : decode cX5_coatsAfterCoat 11 = .ok (.goto 6, 3) := by decide +kernel
theorem dX5_coatsAfterCoat_14 : decode cX5_coatsAfterCoat 14 = .ok (.iload_n 2, 1) := by decide +kernel
theorem dX5_coatsAfterCoat_15 : decode cX5_coatsAfterCoat 15 = .ok (.iconst 1, 1) := by decide +kernel
theorem dX5_coatsAfterCoat_16 : decode cX5_coatsAfterCoat 16 = .ok (.iadd, 1) := by decide +kernel
theorem dX5_coatsAfterCoat_17 : decode cX5_coatsAfterCoat 17 = .ok (.ireturn, 1) := by decide +kernel
def fX5_coatsAfterCoat (v0 : Nat) (v1 : Int32) (v2 : Int32) (h : qH) : Option (Int32 × qH) :=
  (isO h v0 5).bind fun _ =>
  (gR h v0 5 1).bind fun x1 =>
  (aI .int h x1 v1).bind fun x3 =>
  if x3 = 3 then
  (some (v2, h))
  else
  (some (v2 + 1, h))
theorem obX5_coatsAfterCoat {v0 : Nat} {v1 : Int32} {v2 : Int32} {h : qH} {p : Int32 × qH} (hyp : fX5_coatsAfterCoat v0 v1 v2 h = some p) : ∃ fs, h.1 v0 = some (.inr (5, fs)) := by
  unfold fX5_coatsAfterCoat at hyp
  exact q_bind hyp (fun _ e _ => isO_some e)
set_option maxHeartbeats 4000000 in
set_option maxRecDepth 100000 in
theorem okX5_coatsAfterCoat {l : Launch} {v0 : Nat} {v1 : Int32} {v2 : Int32} {h : qH} {p : Int32 × qH} (hyp : fX5_coatsAfterCoat v0 v1 v2 h = some p) : q_M l 1 yX5_coatsAfterCoat cX5_coatsAfterCoat 3 (some .int) [.ref v0, .int v1, .int v2] h (some (.int p.1)) p.2 := by
  obtain ⟨r, h'⟩ := p
  unfold fX5_coatsAfterCoat at hyp
  refine q_bind hyp (fun _ _ hyp => ?_)
  refine q_M.of (by decide) (Nat.le_of_ble_eq_true rfl) ?_
  refine q_to (ls' := [(0, .ref v0), (1, .int v1), (2, .int v2)]) (st' := []) rfl rfl ?_
  refine q_aload_n 0 rfl dX5_coatsAfterCoat_0 ?_
  refine q_bind hyp (fun x1 e2 hyp => ?_)
  refine q_getR kF_X5_15 dX5_coatsAfterCoat_1 e2 ?_
  refine q_iload_n 1 rfl dX5_coatsAfterCoat_4 ?_
  refine q_bind hyp (fun x3 e4 hyp => ?_)
  refine q_iald dX5_coatsAfterCoat_5 e4 ?_
  refine q_iconst (x := 3) rfl dX5_coatsAfterCoat_6 ?_
  refine q_icmp_ne (tgt := 14) dX5_coatsAfterCoat_7 (by decide) (fun c5 => ?_) (fun c5 => ?_)
  · have hyp := q_neg c5 hyp
    refine q_iload_n 2 rfl dX5_coatsAfterCoat_14 ?_
    refine q_iconst (x := 1) rfl dX5_coatsAfterCoat_15 ?_
    refine q_iadd dX5_coatsAfterCoat_16 ?_
    exact q_iretH rfl rfl dX5_coatsAfterCoat_17 hyp
  · have hyp := q_pos c5 hyp
    refine q_iload_n 2 rfl dX5_coatsAfterCoat_10 ?_
    refine q_goto (tgt := 17) dX5_coatsAfterCoat_11 (by decide) ?_
    exact q_iretH rfl rfl dX5_coatsAfterCoat_17 hyp
theorem dX5_elderBits_0 : decode cX5_elderBits 0 = .ok (.iconst 0, 1) := by decide +kernel
theorem dX5_elderBits_1 : decode cX5_elderBits 1 = .ok (.istore_n 2, 1) := by decide +kernel
theorem dX5_elderBits_2 : decode cX5_elderBits 2 = .ok (.iconst 0, 1) := by decide +kernel
theorem dX5_elderBits_3 : decode cX5_elderBits 3 = .ok (.istore_n 3, 1) := by decide +kernel
theorem dX5_elderBits_4 : decode cX5_elderBits 4 = .ok (.iload_n 3, 1) := by decide +kernel
theorem dX5_elderBits_5 : decode cX5_elderBits 5 = .ok (.aload_n 0, 1) := by decide +kernel
theorem dX5_elderBits_6 : decode cX5_elderBits 6 = .ok (.getfield 35, 3) := by decide +kernel
theorem dX5_elderBits_9 : decode cX5_elderBits 9 = .ok (.if_icmp .ge 30, 3) := by decide +kernel
theorem dX5_elderBits_12 : decode cX5_elderBits 12 = .ok (.aload_n 0, 1) := by decide +kernel
theorem dX5_elderBits_13 : decode cX5_elderBits 13 = .ok (.getfield 19, 3) := by decide +kernel
theorem dX5_elderBits_16 : decode cX5_elderBits 16 = .ok (.iload_n 3, 1) := by decide +kernel
theorem dX5_elderBits_17 : decode cX5_elderBits 17 = .ok (.iaload, 1) := by decide +kernel
theorem dX5_elderBits_18 : decode cX5_elderBits 18 = .ok (.aload_n 0, 1) := by decide +kernel
theorem dX5_elderBits_19 : decode cX5_elderBits 19 = .ok (.getfield 19, 3) := by decide +kernel
theorem dX5_elderBits_22 : decode cX5_elderBits 22 = .ok (.iload_n 1, 1) := by decide +kernel
theorem dX5_elderBits_23 : decode cX5_elderBits 23 = .ok (.iaload, 1) := by decide +kernel
theorem dX5_elderBits_24 : decode cX5_elderBits 24 = .ok (.if_icmp .ge 9, 3) := by decide +kernel
theorem dX5_elderBits_27 : decode cX5_elderBits 27 = .ok (.iload_n 2, 1) := by decide +kernel
theorem dX5_elderBits_28 : decode cX5_elderBits 28 = .ok (.iconst 1, 1) := by decide +kernel
theorem dX5_elderBits_29 : decode cX5_elderBits 29 = .ok (.iload_n 3, 1) := by decide +kernel
theorem dX5_elderBits_30 : decode cX5_elderBits 30 = .ok (.ishl, 1) := by decide +kernel
theorem dX5_elderBits_31 : decode cX5_elderBits 31 = .ok (.ior, 1) := by decide +kernel
theorem dX5_elderBits_32 : decode cX5_elderBits 32 = .ok (.istore_n 2, 1) := by decide +kernel
theorem dX5_elderBits_33 : decode cX5_elderBits 33 = .ok (.iinc 3 1, 3) := by decide +kernel
theorem dX5_elderBits_36 : decode cX5_elderBits 36 = .ok (.goto (-32), 3) := by decide +kernel
theorem dX5_elderBits_39 : decode cX5_elderBits 39 = .ok (.iload_n 2, 1) := by decide +kernel
theorem dX5_elderBits_40 : decode cX5_elderBits 40 = .ok (.ireturn, 1) := by decide +kernel
def fX5_elderBits_b4 (n : Nat) : Nat → Nat → Int32 → Int32 → Int32 → qH → Option (Int32 × qH)
  | 0, _, _, _, _, _ => none
  | w + 1, v0, v1, v2, v3, h =>
    (gI h v0 5 6).bind fun x1 =>
    if x1 ≤ v3 then
    (some (v2, h))
    else
    ((gR h v0 5 2).bind fun x4 =>
    (aI .int h x4 v3).bind fun x6 =>
    (gR h v0 5 2).bind fun x8 =>
    (aI .int h x8 v1).bind fun x10 =>
    if x10 ≤ x6 then
    (fX5_elderBits_b4 n w v0 v1 v2 (v3 + 1) h)
    else
    (fX5_elderBits_b4 n w v0 v1 (v2 ||| ((1 : Int32) <<< (v3 &&& 31))) (v3 + 1) h))
set_option maxHeartbeats 4000000 in
set_option maxRecDepth 100000 in
theorem okX5_elderBits_b4 {l : Launch} {n : Nat} {r : Int32} {h' : qH} : ∀ (w : Nat) (v0 : Nat) (v1 : Int32) (v2 : Int32) (v3 : Int32) (h : qH), fX5_elderBits_b4 n w v0 v1 v2 v3 h = some (r, h') → q_W l 1 yX5_elderBits cX5_elderBits 4 (some .int) (some (.int r)) h' 4 [(0, .ref v0), (1, .int v1), (2, .int v2), (3, .int v3)] [] h := by
  intro w
  induction w with
  | zero => intro v0 v1 v2 v3 h hyp; cases hyp
  | succ w ih =>
    intro v0 v1 v2 v3 h hyp
    unfold fX5_elderBits_b4 at hyp
    refine q_iload_n 3 rfl dX5_elderBits_4 ?_
    refine q_aload_n 0 rfl dX5_elderBits_5 ?_
    refine q_bind hyp (fun x1 e2 hyp => ?_)
    refine q_getI kF_X5_35 dX5_elderBits_6 e2 ?_
    refine q_icmp_ge (tgt := 39) dX5_elderBits_9 (by decide) (fun c3 => ?_) (fun c3 => ?_)
    · have hyp := q_pos c3 hyp
      refine q_iload_n 2 rfl dX5_elderBits_39 ?_
      exact q_iretH rfl rfl dX5_elderBits_40 hyp
    · have hyp := q_neg c3 hyp
      refine q_aload_n 0 rfl dX5_elderBits_12 ?_
      refine q_bind hyp (fun x4 e5 hyp => ?_)
      refine q_getR kF_X5_19 dX5_elderBits_13 e5 ?_
      refine q_iload_n 3 rfl dX5_elderBits_16 ?_
      refine q_bind hyp (fun x6 e7 hyp => ?_)
      refine q_iald dX5_elderBits_17 e7 ?_
      refine q_aload_n 0 rfl dX5_elderBits_18 ?_
      refine q_bind hyp (fun x8 e9 hyp => ?_)
      refine q_getR kF_X5_19 dX5_elderBits_19 e9 ?_
      refine q_iload_n 1 rfl dX5_elderBits_22 ?_
      refine q_bind hyp (fun x10 e11 hyp => ?_)
      refine q_iald dX5_elderBits_23 e11 ?_
      refine q_icmp_ge (tgt := 33) dX5_elderBits_24 (by decide) (fun c12 => ?_) (fun c12 => ?_)
      · have hyp := q_pos c12 hyp
        refine q_iinc (ls' := [(3, .int (v3 + 1)), (0, .ref v0), (1, .int v1), (2, .int v2)]) 3 rfl rfl (by decide) rfl dX5_elderBits_33 ?_
        refine q_goto (tgt := 4) dX5_elderBits_36 (by decide) ?_
        exact q_sub [1, 2, 3, 0] rfl (ih v0 v1 v2 (v3 + 1) h hyp)
      · have hyp := q_neg c12 hyp
        refine q_iload_n 2 rfl dX5_elderBits_27 ?_
        refine q_iconst (x := 1) rfl dX5_elderBits_28 ?_
        refine q_iload_n 3 rfl dX5_elderBits_29 ?_
        refine q_ishl dX5_elderBits_30 ?_
        refine q_ior dX5_elderBits_31 ?_
        refine q_istore_n (ls' := [(2, .int (v2 ||| ((1 : Int32) <<< (v3 &&& 31)))), (0, .ref v0), (1, .int v1), (3, .int v3)]) (by decide) rfl dX5_elderBits_32 ?_
        refine q_iinc (ls' := [(3, .int (v3 + 1)), (2, .int (v2 ||| ((1 : Int32) <<< (v3 &&& 31)))), (0, .ref v0), (1, .int v1)]) 3 rfl rfl (by decide) rfl dX5_elderBits_33 ?_
        refine q_goto (tgt := 4) dX5_elderBits_36 (by decide) ?_
        exact q_sub [2, 3, 1, 0] rfl (ih v0 v1 (v2 ||| ((1 : Int32) <<< (v3 &&& 31))) (v3 + 1) h hyp)
def fX5_elderBits (n : Nat) (v0 : Nat) (v1 : Int32) (h : qH) : Option (Int32 × qH) :=
  (isO h v0 5).bind fun _ =>
  fX5_elderBits_b4 n n v0 v1 0 0 h
theorem obX5_elderBits {n : Nat} {v0 : Nat} {v1 : Int32} {h : qH} {p : Int32 × qH} (hyp : fX5_elderBits n v0 v1 h = some p) : ∃ fs, h.1 v0 = some (.inr (5, fs)) := by
  unfold fX5_elderBits at hyp
  exact q_bind hyp (fun _ e _ => isO_some e)
set_option maxHeartbeats 4000000 in
set_option maxRecDepth 100000 in
theorem okX5_elderBits {l : Launch} {n : Nat} {v0 : Nat} {v1 : Int32} {h : qH} {p : Int32 × qH} (hyp : fX5_elderBits n v0 v1 h = some p) : q_M l 1 yX5_elderBits cX5_elderBits 4 (some .int) [.ref v0, .int v1] h (some (.int p.1)) p.2 := by
  obtain ⟨r, h'⟩ := p
  unfold fX5_elderBits at hyp
  refine q_bind hyp (fun _ _ hyp => ?_)
  refine q_M.of (by decide) (Nat.le_of_ble_eq_true rfl) ?_
  refine q_to (ls' := [(0, .ref v0), (1, .int v1)]) (st' := []) rfl rfl ?_
  refine q_iconst (x := 0) rfl dX5_elderBits_0 ?_
  refine q_istore_n (ls' := [(2, .int 0), (0, .ref v0), (1, .int v1)]) (by decide) rfl dX5_elderBits_1 ?_
  refine q_iconst (x := 0) rfl dX5_elderBits_2 ?_
  refine q_istore_n (ls' := [(3, .int 0), (2, .int 0), (0, .ref v0), (1, .int v1)]) (by decide) rfl dX5_elderBits_3 ?_
  exact q_sub [2, 3, 1, 0] rfl (okX5_elderBits_b4 _ v0 v1 0 0 h hyp)
theorem dX5_everyone_0 : decode cX5_everyone 0 = .ok (.iconst 1, 1) := by decide +kernel
theorem dX5_everyone_1 : decode cX5_everyone 1 = .ok (.aload_n 0, 1) := by decide +kernel
theorem dX5_everyone_2 : decode cX5_everyone 2 = .ok (.getfield 35, 3) := by decide +kernel
theorem dX5_everyone_5 : decode cX5_everyone 5 = .ok (.ishl, 1) := by decide +kernel
theorem dX5_everyone_6 : decode cX5_everyone 6 = .ok (.iconst 1, 1) := by decide +kernel
theorem dX5_everyone_7 : decode cX5_everyone 7 = .ok (.isub, 1) := by decide +kernel
theorem dX5_everyone_8 : decode cX5_everyone 8 = .ok (.ireturn, 1) := by decide +kernel
def fX5_everyone (v0 : Nat) (h : qH) : Option (Int32 × qH) :=
  (isO h v0 5).bind fun _ =>
  (gI h v0 5 6).bind fun x1 =>
  some (((1 : Int32) <<< (x1 &&& 31)) - 1, h)
theorem obX5_everyone {v0 : Nat} {h : qH} {p : Int32 × qH} (hyp : fX5_everyone v0 h = some p) : ∃ fs, h.1 v0 = some (.inr (5, fs)) := by
  unfold fX5_everyone at hyp
  exact q_bind hyp (fun _ e _ => isO_some e)
set_option maxHeartbeats 4000000 in
set_option maxRecDepth 100000 in
theorem okX5_everyone {l : Launch} {v0 : Nat} {h : qH} {p : Int32 × qH} (hyp : fX5_everyone v0 h = some p) : q_M l 1 yX5_everyone cX5_everyone 1 (some .int) [.ref v0] h (some (.int p.1)) p.2 := by
  obtain ⟨r, h'⟩ := p
  unfold fX5_everyone at hyp
  refine q_bind hyp (fun _ _ hyp => ?_)
  refine q_M.of (by decide) (Nat.le_of_ble_eq_true rfl) ?_
  refine q_to (ls' := [(0, .ref v0)]) (st' := []) rfl rfl ?_
  refine q_iconst (x := 1) rfl dX5_everyone_0 ?_
  refine q_aload_n 0 rfl dX5_everyone_1 ?_
  refine q_bind hyp (fun x1 e2 hyp => ?_)
  refine q_getI kF_X5_35 dX5_everyone_2 e2 ?_
  refine q_ishl dX5_everyone_5 ?_
  refine q_iconst (x := 1) rfl dX5_everyone_6 ?_
  refine q_isub dX5_everyone_7 ?_
  exact q_iretH rfl rfl dX5_everyone_8 hyp
theorem dX5_fruitBits_0 : decode cX5_fruitBits 0 = .ok (.aload_n 0, 1) := by decide +kernel
theorem dX5_fruitBits_1 : decode cX5_fruitBits 1 = .ok (.getfield 25, 3) := by decide +kernel
theorem dX5_fruitBits_4 : decode cX5_fruitBits 4 = .ok (.iload_n 1, 1) := by decide +kernel
theorem dX5_fruitBits_5 : decode cX5_fruitBits 5 = .ok (.iaload, 1) := by decide +kernel
theorem dX5_fruitBits_6 : decode cX5_fruitBits 6 = .ok (.istore_n 2, 1) := by decide +kernel
theorem dX5_fruitBits_7 : decode cX5_fruitBits 7 = .ok (.iconst 0, 1) := by decide +kernel
theorem dX5_fruitBits_8 : decode cX5_fruitBits 8 = .ok (.istore_n 3, 1) := by decide +kernel
theorem dX5_fruitBits_9 : decode cX5_fruitBits 9 = .ok (.iload_n 3, 1) := by decide +kernel
theorem dX5_fruitBits_10 : decode cX5_fruitBits 10 = .ok (.aload_n 0, 1) := by decide +kernel
theorem dX5_fruitBits_11 : decode cX5_fruitBits 11 = .ok (.getfield 35, 3) := by decide +kernel
theorem dX5_fruitBits_14 : decode cX5_fruitBits 14 = .ok (.if_icmp .ge 47, 3) := by decide +kernel
theorem dX5_fruitBits_17 : decode cX5_fruitBits 17 = .ok (.iconst 0, 1) := by decide +kernel
theorem dX5_fruitBits_18 : decode cX5_fruitBits 18 = .ok (.istore 4, 2) := by decide +kernel
theorem dX5_fruitBits_20 : decode cX5_fruitBits 20 = .ok (.iload 4, 2) := by decide +kernel
theorem dX5_fruitBits_22 : decode cX5_fruitBits 22 = .ok (.aload_n 0, 1) := by decide +kernel
theorem dX5_fruitBits_23 : decode cX5_fruitBits 23 = .ok (.getfield 35, 3) := by decide +kernel
theorem dX5_fruitBits_26 : decode cX5_fruitBits 26 = .ok (.if_icmp .ge 29, 3) := by decide +kernel
theorem dX5_fruitBits_29 : decode cX5_fruitBits 29 = .ok (.iload_n 2, 1) := by decide +kernel
theorem dX5_fruitBits_30 : decode cX5_fruitBits 30 = .ok (.iload 4, 2) := by decide +kernel
theorem dX5_fruitBits_32 : decode cX5_fruitBits 32 = .ok (.invokestatic 71, 3) := by decide +kernel
theorem dX5_fruitBits_35 : decode cX5_fruitBits 35 = .ok (.iconst 1, 1) := by decide +kernel
theorem dX5_fruitBits_36 : decode cX5_fruitBits 36 = .ok (.if_icmp .ne 13, 3) := by decide +kernel
theorem dX5_fruitBits_39 : decode cX5_fruitBits 39 = .ok (.iload_n 2, 1) := by decide +kernel
theorem dX5_fruitBits_40 : decode cX5_fruitBits 40 = .ok (.aload_n 0, 1) := by decide +kernel
theorem dX5_fruitBits_41 : decode cX5_fruitBits 41 = .ok (.getfield 25, 3) := by decide +kernel
theorem dX5_fruitBits_44 : decode cX5_fruitBits 44 = .ok (.iload 4, 2) := by decide +kernel
theorem dX5_fruitBits_46 : decode cX5_fruitBits 46 = .ok (.iaload, 1) := by decide +kernel
theorem dX5_fruitBits_47 : decode cX5_fruitBits 47 = .ok (.ior, 1) := by decide +kernel
theorem dX5_fruitBits_48 : decode cX5_fruitBits 48 = .ok (.istore_n 2, 1) := by decide +kernel
theorem dX5_fruitBits_49 : decode cX5_fruitBits 49 = .ok (.iinc 4 1, 3) := by decide +kernel
theorem dX5_fruitBits_52 : decode cX5_fruitBits 52 = .ok (.goto (-32), 3) := by decide +kernel
theorem dX5_fruitBits_55 : decode cX5_fruitBits 55 = .ok (.iinc 3 1, 3) := by decide +kernel
theorem dX5_fruitBits_58 : decode cX5_fruitBits 58 = .ok (.goto (-49), 3) := by decide +kernel
theorem dX5_fruitBits_61 : decode cX5_fruitBits 61 = .ok (.iload_n 2, 1) := by decide +kernel
theorem dX5_fruitBits_62 : decode cX5_fruitBits 62 = .ok (.ireturn, 1) := by decide +kernel
def fX5_fruitBits_b20 (n : Nat) (K9 : Nat → Int32 → Int32 → qH → Option (Int32 × qH)) : Nat → Nat → Int32 → Int32 → Int32 → qH → Option (Int32 × qH)
  | 0, _, _, _, _, _ => none
  | w + 1, v0, v2, v3, v4, h =>
    (gI h v0 5 6).bind fun x1 =>
    if x1 ≤ v4 then
    (K9 v0 v2 (v3 + 1) h)
    else
    ((fX9_bit v2 v4 h).bind fun p4 =>
    if p4.1 = 1 then
    ((gR p4.2 v0 5 4).bind fun x6 =>
    (aI .int p4.2 x6 v4).bind fun x8 =>
    fX5_fruitBits_b20 n K9 w v0 (v2 ||| x8) v3 (v4 + 1) p4.2)
    else
    (fX5_fruitBits_b20 n K9 w v0 v2 v3 (v4 + 1) p4.2))
set_option maxHeartbeats 4000000 in
set_option maxRecDepth 100000 in
theorem okX5_fruitBits_b20 {l : Launch} {n : Nat} {K9 : Nat → Int32 → Int32 → qH → Option (Int32 × qH)} {r : Int32} {h' : qH} (hK9 : ∀ (v0 : Nat) (v2 : Int32) (v3 : Int32) (h : qH), K9 v0 v2 v3 h = some (r, h') → q_W l 2 yX5_fruitBits cX5_fruitBits 5 (some .int) (some (.int r)) h' 9 [(0, .ref v0), (2, .int v2), (3, .int v3)] [] h) : ∀ (w : Nat) (v0 : Nat) (v2 : Int32) (v3 : Int32) (v4 : Int32) (h : qH), fX5_fruitBits_b20 n K9 w v0 v2 v3 v4 h = some (r, h') → q_W l 2 yX5_fruitBits cX5_fruitBits 5 (some .int) (some (.int r)) h' 20 [(0, .ref v0), (2, .int v2), (3, .int v3), (4, .int v4)] [] h := by
  intro w
  induction w with
  | zero => intro v0 v2 v3 v4 h hyp; cases hyp
  | succ w ih =>
    intro v0 v2 v3 v4 h hyp
    unfold fX5_fruitBits_b20 at hyp
    refine q_iload 3 rfl dX5_fruitBits_20 ?_
    refine q_aload_n 0 rfl dX5_fruitBits_22 ?_
    refine q_bind hyp (fun x1 e2 hyp => ?_)
    refine q_getI kF_X5_35 dX5_fruitBits_23 e2 ?_
    refine q_icmp_ge (tgt := 55) dX5_fruitBits_26 (by decide) (fun c3 => ?_) (fun c3 => ?_)
    · have hyp := q_pos c3 hyp
      refine q_iinc (ls' := [(3, .int (v3 + 1)), (0, .ref v0), (2, .int v2), (4, .int v4)]) 2 rfl rfl (by decide) rfl dX5_fruitBits_55 ?_
      refine q_goto (tgt := 9) dX5_fruitBits_58 (by decide) ?_
      exact q_sub [1, 2, 0] rfl (hK9 v0 v2 (v3 + 1) h hyp)
    · have hyp := q_neg c3 hyp
      refine q_iload_n 1 rfl dX5_fruitBits_29 ?_
      refine q_iload 3 rfl dX5_fruitBits_30 ?_
      refine q_bind hyp (fun p4 e10 hyp => ?_)
      refine q_callS (as := [.int v2, .int v4]) (st := []) kY_X9_bit kS_X9_bit kL_X5_71 (okX9_bit (l := l) e10) (by decide) rfl (Nat.le_of_ble_eq_true rfl) dX5_fruitBits_32 ?_
      refine q_to (ls' := [(0, .ref v0), (2, .int v2), (3, .int v3), (4, .int v4)]) (st' := [.int p4.1]) rfl rfl ?_
      refine q_iconst (x := 1) rfl dX5_fruitBits_35 ?_
      refine q_icmp_ne (tgt := 49) dX5_fruitBits_36 (by decide) (fun c5 => ?_) (fun c5 => ?_)
      · have hyp := q_neg c5 hyp
        refine q_iinc (ls' := [(4, .int (v4 + 1)), (0, .ref v0), (2, .int v2), (3, .int v3)]) 3 rfl rfl (by decide) rfl dX5_fruitBits_49 ?_
        refine q_goto (tgt := 20) dX5_fruitBits_52 (by decide) ?_
        exact q_sub [1, 2, 3, 0] rfl (ih v0 v2 v3 (v4 + 1) p4.2 hyp)
      · have hyp := q_pos c5 hyp
        refine q_iload_n 1 rfl dX5_fruitBits_39 ?_
        refine q_aload_n 0 rfl dX5_fruitBits_40 ?_
        refine q_bind hyp (fun x6 e7 hyp => ?_)
        refine q_getR kF_X5_25 dX5_fruitBits_41 e7 ?_
        refine q_iload 3 rfl dX5_fruitBits_44 ?_
        refine q_bind hyp (fun x8 e9 hyp => ?_)
        refine q_iald dX5_fruitBits_46 e9 ?_
        refine q_ior dX5_fruitBits_47 ?_
        refine q_istore_n (ls' := [(2, .int (v2 ||| x8)), (0, .ref v0), (3, .int v3), (4, .int v4)]) (by decide) rfl dX5_fruitBits_48 ?_
        refine q_iinc (ls' := [(4, .int (v4 + 1)), (2, .int (v2 ||| x8)), (0, .ref v0), (3, .int v3)]) 3 rfl rfl (by decide) rfl dX5_fruitBits_49 ?_
        refine q_goto (tgt := 20) dX5_fruitBits_52 (by decide) ?_
        exact q_sub [2, 1, 3, 0] rfl (ih v0 (v2 ||| x8) v3 (v4 + 1) p4.2 hyp)
def fX5_fruitBits_b9 (n : Nat) : Nat → Nat → Int32 → Int32 → qH → Option (Int32 × qH)
  | 0, _, _, _, _ => none
  | w + 1, v0, v2, v3, h =>
    (gI h v0 5 6).bind fun x1 =>
    if x1 ≤ v3 then
    (some (v2, h))
    else
    (fX5_fruitBits_b20 n (fX5_fruitBits_b9 n w) n v0 v2 v3 0 h)
set_option maxHeartbeats 4000000 in
set_option maxRecDepth 100000 in
theorem okX5_fruitBits_b9 {l : Launch} {n : Nat} {r : Int32} {h' : qH} : ∀ (w : Nat) (v0 : Nat) (v2 : Int32) (v3 : Int32) (h : qH), fX5_fruitBits_b9 n w v0 v2 v3 h = some (r, h') → q_W l 2 yX5_fruitBits cX5_fruitBits 5 (some .int) (some (.int r)) h' 9 [(0, .ref v0), (2, .int v2), (3, .int v3)] [] h := by
  intro w
  induction w with
  | zero => intro v0 v2 v3 h hyp; cases hyp
  | succ w ih =>
    intro v0 v2 v3 h hyp
    unfold fX5_fruitBits_b9 at hyp
    refine q_iload_n 2 rfl dX5_fruitBits_9 ?_
    refine q_aload_n 0 rfl dX5_fruitBits_10 ?_
    refine q_bind hyp (fun x1 e2 hyp => ?_)
    refine q_getI kF_X5_35 dX5_fruitBits_11 e2 ?_
    refine q_icmp_ge (tgt := 61) dX5_fruitBits_14 (by decide) (fun c3 => ?_) (fun c3 => ?_)
    · have hyp := q_pos c3 hyp
      refine q_iload_n 1 rfl dX5_fruitBits_61 ?_
      exact q_iretH rfl rfl dX5_fruitBits_62 hyp
    · have hyp := q_neg c3 hyp
      refine q_iconst (x := 0) rfl dX5_fruitBits_17 ?_
      refine q_istore (ls' := [(4, .int 0), (0, .ref v0), (2, .int v2), (3, .int v3)]) (by decide) rfl dX5_fruitBits_18 ?_
      exact q_sub [1, 2, 3, 0] rfl (okX5_fruitBits_b20 ih _ v0 v2 v3 0 h hyp)
def fX5_fruitBits (n : Nat) (v0 : Nat) (v1 : Int32) (h : qH) : Option (Int32 × qH) :=
  (isO h v0 5).bind fun _ =>
  (gR h v0 5 4).bind fun x1 =>
  (aI .int h x1 v1).bind fun x3 =>
  fX5_fruitBits_b9 n n v0 x3 0 h
theorem obX5_fruitBits {n : Nat} {v0 : Nat} {v1 : Int32} {h : qH} {p : Int32 × qH} (hyp : fX5_fruitBits n v0 v1 h = some p) : ∃ fs, h.1 v0 = some (.inr (5, fs)) := by
  unfold fX5_fruitBits at hyp
  exact q_bind hyp (fun _ e _ => isO_some e)
set_option maxHeartbeats 4000000 in
set_option maxRecDepth 100000 in
theorem okX5_fruitBits {l : Launch} {n : Nat} {v0 : Nat} {v1 : Int32} {h : qH} {p : Int32 × qH} (hyp : fX5_fruitBits n v0 v1 h = some p) : q_M l 2 yX5_fruitBits cX5_fruitBits 5 (some .int) [.ref v0, .int v1] h (some (.int p.1)) p.2 := by
  obtain ⟨r, h'⟩ := p
  unfold fX5_fruitBits at hyp
  refine q_bind hyp (fun _ _ hyp => ?_)
  refine q_M.of (by decide) (Nat.le_of_ble_eq_true rfl) ?_
  refine q_to (ls' := [(0, .ref v0), (1, .int v1)]) (st' := []) rfl rfl ?_
  refine q_aload_n 0 rfl dX5_fruitBits_0 ?_
  refine q_bind hyp (fun x1 e2 hyp => ?_)
  refine q_getR kF_X5_25 dX5_fruitBits_1 e2 ?_
  refine q_iload_n 1 rfl dX5_fruitBits_4 ?_
  refine q_bind hyp (fun x3 e4 hyp => ?_)
  refine q_iald dX5_fruitBits_5 e4 ?_
  refine q_istore_n (ls' := [(2, .int x3), (0, .ref v0), (1, .int v1)]) (by decide) rfl dX5_fruitBits_6 ?_
  refine q_iconst (x := 0) rfl dX5_fruitBits_7 ?_
  refine q_istore_n (ls' := [(3, .int 0), (2, .int x3), (0, .ref v0), (1, .int v1)]) (by decide) rfl dX5_fruitBits_8 ?_
  exact q_sub [2, 1, 0] rfl (okX5_fruitBits_b9 _ v0 x3 0 h hyp)
theorem dX5_init_0 : decode cX5_init 0 = .ok (.aload_n 0, 1) := by decide +kernel
theorem dX5_init_1 : decode cX5_init 1 = .ok (.invokespecial 3, 3) := by decide +kernel
theorem dX5_init_4 : decode cX5_init 4 = .ok (.aload_n 0, 1) := by decide +kernel
theorem dX5_init_5 : decode cX5_init 5 = .ok (.bipush 7, 2) := by decide +kernel
theorem dX5_init_7 : decode cX5_init 7 = .ok (.newarray .long, 2) := by decide +kernel
theorem dX5_init_9 : decode cX5_init 9 = .ok (.putfield 9, 3) := by decide +kernel
theorem dX5_init_12 : decode cX5_init 12 = .ok (.aload_n 0, 1) := by decide +kernel
theorem dX5_init_13 : decode cX5_init 13 = .ok (.bipush 7, 2) := by decide +kernel
theorem dX5_init_15 : decode cX5_init 15 = .ok (.newarray .int, 2) := by decide +kernel
theorem dX5_init_17 : decode cX5_init 17 = .ok (.putfield 15, 3) := by decide +kernel
theorem dX5_init_20 : decode cX5_init 20 = .ok (.aload_n 0, 1) := by decide +kernel
theorem dX5_init_21 : decode cX5_init 21 = .ok (.bipush 7, 2) := by decide +kernel
theorem dX5_init_23 : decode cX5_init 23 = .ok (.newarray .int, 2) := by decide +kernel
theorem dX5_init_25 : decode cX5_init 25 = .ok (.putfield 19, 3) := by decide +kernel
theorem dX5_init_28 : decode cX5_init 28 = .ok (.aload_n 0, 1) := by decide +kernel
theorem dX5_init_29 : decode cX5_init 29 = .ok (.bipush 7, 2) := by decide +kernel
theorem dX5_init_31 : decode cX5_init 31 = .ok (.newarray .int, 2) := by decide +kernel
theorem dX5_init_33 : decode cX5_init 33 = .ok (.putfield 22, 3) := by decide +kernel
theorem dX5_init_36 : decode cX5_init 36 = .ok (.aload_n 0, 1) := by decide +kernel
theorem dX5_init_37 : decode cX5_init 37 = .ok (.bipush 7, 2) := by decide +kernel
theorem dX5_init_39 : decode cX5_init 39 = .ok (.newarray .int, 2) := by decide +kernel
theorem dX5_init_41 : decode cX5_init 41 = .ok (.putfield 25, 3) := by decide +kernel
theorem dX5_init_44 : decode cX5_init 44 = .ok (.aload_n 0, 1) := by decide +kernel
theorem dX5_init_45 : decode cX5_init 45 = .ok (.new 28, 3) := by decide +kernel
theorem dX5_init_48 : decode cX5_init 48 = .ok (.dup, 1) := by decide +kernel
theorem dX5_init_49 : decode cX5_init 49 = .ok (.invokespecial 30, 3) := by decide +kernel
theorem dX5_init_52 : decode cX5_init 52 = .ok (.putfield 31, 3) := by decide +kernel
theorem dX5_init_55 : decode cX5_init 55 = .ok (.return_, 1) := by decide +kernel
def fX5_init (v0 : Nat) (h : qH) : Option (qH) :=
  (isO h v0 5).bind fun _ =>
  (some (nwE (.inl (.long, 7, .inr (.inl (fun _ => 0)))) 7 h)).bind fun h1 =>
  (pF h1 v0 5 0 (.ref h.2.1)).bind fun h3 =>
  (some (nwE (.inl (.int, 7, .inl (fun _ => 0))) 7 h3)).bind fun h5 =>
  (pF h5 v0 5 1 (.ref h3.2.1)).bind fun h7 =>
  (some (nwE (.inl (.int, 7, .inl (fun _ => 0))) 7 h7)).bind fun h9 =>
  (pF h9 v0 5 2 (.ref h7.2.1)).bind fun h11 =>
  (some (nwE (.inl (.int, 7, .inl (fun _ => 0))) 7 h11)).bind fun h13 =>
  (pF h13 v0 5 3 (.ref h11.2.1)).bind fun h15 =>
  (some (nwE (.inl (.int, 7, .inl (fun _ => 0))) 7 h15)).bind fun h17 =>
  (pF h17 v0 5 4 (.ref h15.2.1)).bind fun h19 =>
  (some (nwE (.inr (1, [.null, .null, .int 0, .int 0])) 4 h19)).bind fun h21 =>
  (fX1_init h19.2.1 h21).bind fun h23 =>
  (pF h23 v0 5 5 (.ref h19.2.1)).bind fun h24 =>
  some h24
theorem obX5_init {v0 : Nat} {h : qH} {p : qH} (hyp : fX5_init v0 h = some p) : ∃ fs, h.1 v0 = some (.inr (5, fs)) := by
  unfold fX5_init at hyp
  exact q_bind hyp (fun _ e _ => isO_some e)
set_option maxHeartbeats 4000000 in
set_option maxRecDepth 100000 in
theorem okX5_init {l : Launch} {v0 : Nat} {h : qH} {h' : qH} (hyp : fX5_init v0 h = some h') : q_M l 2 yX5_init cX5_init 1 none [.ref v0] h none h' := by
  unfold fX5_init at hyp
  refine q_bind hyp (fun _ _ hyp => ?_)
  refine q_M.of (by decide) (Nat.le_of_ble_eq_true rfl) ?_
  refine q_to (ls' := [(0, .ref v0)]) (st' := []) rfl rfl ?_
  refine q_aload_n 0 rfl dX5_init_0 ?_
  refine q_objInit kL_X5_3 kI_obj kD_obj (by decide) (Nat.le_of_ble_eq_true rfl) dX5_init_1 ?_
  refine q_aload_n 0 rfl dX5_init_4 ?_
  refine q_bipush (x := 7) (by decide) dX5_init_5 ?_
  refine q_bind hyp (fun h1 e2 hyp => ?_)
  refine q_newa (ty := .long) (N := 7) (k := .inr (.inl (fun _ => 0))) rfl rfl kA_long (fun _ _ => rfl) (fun _ _ h => h) (by decide) (by decide) dX5_init_7 ?_
  rw [Option.some.inj e2]
  refine q_bind hyp (fun h3 e4 hyp => ?_)
  refine q_putZ kF_X5_9 rfl ⟨_, _, rfl⟩ (fun _ => ⟨rfl, rfl⟩) dX5_init_9 e4 ?_
  refine q_aload_n 0 rfl dX5_init_12 ?_
  refine q_bipush (x := 7) (by decide) dX5_init_13 ?_
  refine q_bind hyp (fun h5 e6 hyp => ?_)
  refine q_newa (ty := .int) (N := 7) (k := .inl (fun _ => 0)) rfl rfl kA_int (fun _ _ => rfl) (fun _ _ h => h) (by decide) (by decide) dX5_init_15 ?_
  rw [Option.some.inj e6]
  refine q_bind hyp (fun h7 e8 hyp => ?_)
  refine q_putZ kF_X5_15 rfl ⟨_, _, rfl⟩ (fun _ => ⟨rfl, rfl⟩) dX5_init_17 e8 ?_
  refine q_aload_n 0 rfl dX5_init_20 ?_
  refine q_bipush (x := 7) (by decide) dX5_init_21 ?_
  refine q_bind hyp (fun h9 e10 hyp => ?_)
  refine q_newa (ty := .int) (N := 7) (k := .inl (fun _ => 0)) rfl rfl kA_int (fun _ _ => rfl) (fun _ _ h => h) (by decide) (by decide) dX5_init_23 ?_
  rw [Option.some.inj e10]
  refine q_bind hyp (fun h11 e12 hyp => ?_)
  refine q_putZ kF_X5_19 rfl ⟨_, _, rfl⟩ (fun _ => ⟨rfl, rfl⟩) dX5_init_25 e12 ?_
  refine q_aload_n 0 rfl dX5_init_28 ?_
  refine q_bipush (x := 7) (by decide) dX5_init_29 ?_
  refine q_bind hyp (fun h13 e14 hyp => ?_)
  refine q_newa (ty := .int) (N := 7) (k := .inl (fun _ => 0)) rfl rfl kA_int (fun _ _ => rfl) (fun _ _ h => h) (by decide) (by decide) dX5_init_31 ?_
  rw [Option.some.inj e14]
  refine q_bind hyp (fun h15 e16 hyp => ?_)
  refine q_putZ kF_X5_22 rfl ⟨_, _, rfl⟩ (fun _ => ⟨rfl, rfl⟩) dX5_init_33 e16 ?_
  refine q_aload_n 0 rfl dX5_init_36 ?_
  refine q_bipush (x := 7) (by decide) dX5_init_37 ?_
  refine q_bind hyp (fun h17 e18 hyp => ?_)
  refine q_newa (ty := .int) (N := 7) (k := .inl (fun _ => 0)) rfl rfl kA_int (fun _ _ => rfl) (fun _ _ h => h) (by decide) (by decide) dX5_init_39 ?_
  rw [Option.some.inj e18]
  refine q_bind hyp (fun h19 e20 hyp => ?_)
  refine q_putZ kF_X5_25 rfl ⟨_, _, rfl⟩ (fun _ => ⟨rfl, rfl⟩) dX5_init_41 e20 ?_
  refine q_aload_n 0 rfl dX5_init_44 ?_
  refine q_bind hyp (fun h21 e22 hyp => ?_)
  refine q_new (fs := [.null, .null, .int 0, .int 0]) kC1 kN_X5_28 kT1 kZ1 (fun _ => (by decide +kernel : ∀ j, j < 4 → defaultValue (tyX1 j) = vp_V [.null, .null, .int 0, .int 0] j)) dX5_init_45 ?_
  rw [Option.some.inj e22]
  refine q_dup rfl dX5_init_48 ?_
  refine q_bind hyp (fun h23 e26 hyp => ?_)
  refine q_callI (as := []) (st := [.ref h19.2.1, .ref v0]) kY_X1_init kI_X1_init rfl kL_X5_30 (okX1_init (l := l) e26) (by decide) rfl (Nat.le_of_ble_eq_true rfl) dX5_init_49 ?_
  refine q_to (ls' := [(0, .ref v0)]) (st' := [.ref h19.2.1, .ref v0]) rfl rfl ?_
  refine q_bind hyp (fun h24 e25 hyp => ?_)
  refine q_putZ kF_X5_31 rfl ⟨_, _, rfl⟩ (fun _ => ⟨rfl, rfl⟩) dX5_init_52 e25 ?_
  exact q_vretH rfl dX5_init_55 hyp
theorem dX5_nextBirth_0 : decode cX5_nextBirth 0 = .ok (.iload_n 1, 1) := by decide +kernel
theorem dX5_nextBirth_1 : decode cX5_nextBirth 1 = .ok (.istore_n 2, 1) := by decide +kernel
theorem dX5_nextBirth_2 : decode cX5_nextBirth 2 = .ok (.iconst 0, 1) := by decide +kernel
theorem dX5_nextBirth_3 : decode cX5_nextBirth 3 = .ok (.istore_n 3, 1) := by decide +kernel
theorem dX5_nextBirth_4 : decode cX5_nextBirth 4 = .ok (.iload_n 3, 1) := by decide +kernel
theorem dX5_nextBirth_5 : decode cX5_nextBirth 5 = .ok (.aload_n 0, 1) := by decide +kernel
theorem dX5_nextBirth_6 : decode cX5_nextBirth 6 = .ok (.getfield 35, 3) := by decide +kernel
theorem dX5_nextBirth_9 : decode cX5_nextBirth 9 = .ok (.if_icmp .ge 41, 3) := by decide +kernel
theorem dX5_nextBirth_12 : decode cX5_nextBirth 12 = .ok (.aload_n 0, 1) := by decide +kernel
theorem dX5_nextBirth_13 : decode cX5_nextBirth 13 = .ok (.getfield 19, 3) := by decide +kernel
theorem dX5_nextBirth_16 : decode cX5_nextBirth 16 = .ok (.iload_n 3, 1) := by decide +kernel
theorem dX5_nextBirth_17 : decode cX5_nextBirth 17 = .ok (.iaload, 1) := by decide +kernel
theorem dX5_nextBirth_18 : decode cX5_nextBirth 18 = .ok (.iload_n 1, 1) := by decide +kernel
theorem dX5_nextBirth_19 : decode cX5_nextBirth 19 = .ok (.if_icmp .le 25, 3) := by decide +kernel
theorem dX5_nextBirth_22 : decode cX5_nextBirth 22 = .ok (.iload_n 2, 1) := by decide +kernel
theorem dX5_nextBirth_23 : decode cX5_nextBirth 23 = .ok (.iload_n 1, 1) := by decide +kernel
theorem dX5_nextBirth_24 : decode cX5_nextBirth 24 = .ok (.if_icmp .eq 13, 3) := by decide +kernel
theorem dX5_nextBirth_27 : decode cX5_nextBirth 27 = .ok (.aload_n 0, 1) := by decide +kernel
theorem dX5_nextBirth_28 : decode cX5_nextBirth 28 = .ok (.getfield 19, 3) := by decide +kernel
theorem dX5_nextBirth_31 : decode cX5_nextBirth 31 = .ok (.iload_n 3, 1) := by decide +kernel
theorem dX5_nextBirth_32 : decode cX5_nextBirth 32 = .ok (.iaload, 1) := by decide +kernel
theorem dX5_nextBirth_33 : decode cX5_nextBirth 33 = .ok (.iload_n 2, 1) := by decide +kernel
theorem dX5_nextBirth_34 : decode cX5_nextBirth 34 = .ok (.if_icmp .ge 10, 3) := by decide +kernel
theorem dX5_nextBirth_37 : decode cX5_nextBirth 37 = .ok (.aload_n 0, 1) := by decide +kernel
theorem dX5_nextBirth_38 : decode cX5_nextBirth 38 = .ok (.getfield 19, 3) := by decide +kernel
theorem dX5_nextBirth_41 : decode cX5_nextBirth 41 = .ok (.iload_n 3, 1) := by decide +kernel
theorem dX5_nextBirth_42 : decode cX5_nextBirth 42 = .ok (.iaload, 1) := by decide +kernel
theorem dX5_nextBirth_43 : decode cX5_nextBirth 43 = .ok (.istore_n 2, 1) := by decide +kernel
theorem dX5_nextBirth_44 : decode cX5_nextBirth 44 = .ok (.iinc 3 1, 3) := by decide +kernel
theorem dX5_nextBirth_47 : decode cX5_nextBirth 47 = .ok (.goto (-43), 3) := by decide +kernel
theorem dX5_nextBirth_50 : decode cX5_nextBirth 50 = .ok (.iload_n 2, 1) := by decide +kernel
theorem dX5_nextBirth_51 : decode cX5_nextBirth 51 = .ok (.ireturn, 1) := by decide +kernel
def fX5_nextBirth_b37 (n : Nat) (K4 : Nat → Int32 → Int32 → Int32 → qH → Option (Int32 × qH)) (v0 : Nat) (v1 : Int32) (v3 : Int32) (h : qH) : Option (Int32 × qH) :=
  (gR h v0 5 2).bind fun x1 =>
  (aI .int h x1 v3).bind fun x3 =>
  K4 v0 v1 x3 (v3 + 1) h
set_option maxHeartbeats 4000000 in
set_option maxRecDepth 100000 in
theorem okX5_nextBirth_b37 {l : Launch} {n : Nat} {K4 : Nat → Int32 → Int32 → Int32 → qH → Option (Int32 × qH)} {v0 : Nat} {v1 : Int32} {v3 : Int32} {h : qH} {r : Int32} {h' : qH} (hK4 : ∀ (v0 : Nat) (v1 : Int32) (v2 : Int32) (v3 : Int32) (h : qH), K4 v0 v1 v2 v3 h = some (r, h') → q_W l 1 yX5_nextBirth cX5_nextBirth 4 (some .int) (some (.int r)) h' 4 [(0, .ref v0), (1, .int v1), (2, .int v2), (3, .int v3)] [] h) (hyp : fX5_nextBirth_b37 n K4 v0 v1 v3 h = some (r, h')) : q_W l 1 yX5_nextBirth cX5_nextBirth 4 (some .int) (some (.int r)) h' 37 [(0, .ref v0), (1, .int v1), (3, .int v3)] [] h := by
  unfold fX5_nextBirth_b37 at hyp
  refine q_aload_n 0 rfl dX5_nextBirth_37 ?_
  refine q_bind hyp (fun x1 e2 hyp => ?_)
  refine q_getR kF_X5_19 dX5_nextBirth_38 e2 ?_
  refine q_iload_n 2 rfl dX5_nextBirth_41 ?_
  refine q_bind hyp (fun x3 e4 hyp => ?_)
  refine q_iald dX5_nextBirth_42 e4 ?_
  refine q_istore_n (ls' := [(2, .int x3), (0, .ref v0), (1, .int v1), (3, .int v3)]) (by decide) rfl dX5_nextBirth_43 ?_
  refine q_iinc (ls' := [(3, .int (v3 + 1)), (2, .int x3), (0, .ref v0), (1, .int v1)]) 3 rfl rfl (by decide) rfl dX5_nextBirth_44 ?_
  refine q_goto (tgt := 4) dX5_nextBirth_47 (by decide) ?_
  exact q_sub [2, 3, 1, 0] rfl (hK4 v0 v1 x3 (v3 + 1) h hyp)
def fX5_nextBirth_b4 (n : Nat) : Nat → Nat → Int32 → Int32 → Int32 → qH → Option (Int32 × qH)
  | 0, _, _, _, _, _ => none
  | w + 1, v0, v1, v2, v3, h =>
    (gI h v0 5 6).bind fun x1 =>
    if x1 ≤ v3 then
    (some (v2, h))
    else
    ((gR h v0 5 2).bind fun x4 =>
    (aI .int h x4 v3).bind fun x6 =>
    if x6 ≤ v1 then
    (fX5_nextBirth_b4 n w v0 v1 v2 (v3 + 1) h)
    else
    (if v2 = v1 then
    (fX5_nextBirth_b37 n (fX5_nextBirth_b4 n w) v0 v1 v3 h)
    else
    ((gR h v0 5 2).bind fun x10 =>
    (aI .int h x10 v3).bind fun x12 =>
    if v2 ≤ x12 then
    (fX5_nextBirth_b4 n w v0 v1 v2 (v3 + 1) h)
    else
    (fX5_nextBirth_b37 n (fX5_nextBirth_b4 n w) v0 v1 v3 h))))
set_option maxHeartbeats 4000000 in
set_option maxRecDepth 100000 in
theorem okX5_nextBirth_b4 {l : Launch} {n : Nat} {r : Int32} {h' : qH} : ∀ (w : Nat) (v0 : Nat) (v1 : Int32) (v2 : Int32) (v3 : Int32) (h : qH), fX5_nextBirth_b4 n w v0 v1 v2 v3 h = some (r, h') → q_W l 1 yX5_nextBirth cX5_nextBirth 4 (some .int) (some (.int r)) h' 4 [(0, .ref v0), (1, .int v1), (2, .int v2), (3, .int v3)] [] h := by
  intro w
  induction w with
  | zero => intro v0 v1 v2 v3 h hyp; cases hyp
  | succ w ih =>
    intro v0 v1 v2 v3 h hyp
    unfold fX5_nextBirth_b4 at hyp
    refine q_iload_n 3 rfl dX5_nextBirth_4 ?_
    refine q_aload_n 0 rfl dX5_nextBirth_5 ?_
    refine q_bind hyp (fun x1 e2 hyp => ?_)
    refine q_getI kF_X5_35 dX5_nextBirth_6 e2 ?_
    refine q_icmp_ge (tgt := 50) dX5_nextBirth_9 (by decide) (fun c3 => ?_) (fun c3 => ?_)
    · have hyp := q_pos c3 hyp
      refine q_iload_n 2 rfl dX5_nextBirth_50 ?_
      exact q_iretH rfl rfl dX5_nextBirth_51 hyp
    · have hyp := q_neg c3 hyp
      refine q_aload_n 0 rfl dX5_nextBirth_12 ?_
      refine q_bind hyp (fun x4 e5 hyp => ?_)
      refine q_getR kF_X5_19 dX5_nextBirth_13 e5 ?_
      refine q_iload_n 3 rfl dX5_nextBirth_16 ?_
      refine q_bind hyp (fun x6 e7 hyp => ?_)
      refine q_iald dX5_nextBirth_17 e7 ?_
      refine q_iload_n 1 rfl dX5_nextBirth_18 ?_
      refine q_icmp_le (tgt := 44) dX5_nextBirth_19 (by decide) (fun c8 => ?_) (fun c8 => ?_)
      · have hyp := q_pos c8 hyp
        refine q_iinc (ls' := [(3, .int (v3 + 1)), (0, .ref v0), (1, .int v1), (2, .int v2)]) 3 rfl rfl (by decide) rfl dX5_nextBirth_44 ?_
        refine q_goto (tgt := 4) dX5_nextBirth_47 (by decide) ?_
        exact q_sub [1, 2, 3, 0] rfl (ih v0 v1 v2 (v3 + 1) h hyp)
      · have hyp := q_neg c8 hyp
        refine q_iload_n 2 rfl dX5_nextBirth_22 ?_
        refine q_iload_n 1 rfl dX5_nextBirth_23 ?_
        refine q_icmp_eq (tgt := 37) dX5_nextBirth_24 (by decide) (fun c9 => ?_) (fun c9 => ?_)
        · have hyp := q_pos c9 hyp
          exact q_sub [0, 1, 3] rfl (okX5_nextBirth_b37 ih hyp)
        · have hyp := q_neg c9 hyp
          refine q_aload_n 0 rfl dX5_nextBirth_27 ?_
          refine q_bind hyp (fun x10 e11 hyp => ?_)
          refine q_getR kF_X5_19 dX5_nextBirth_28 e11 ?_
          refine q_iload_n 3 rfl dX5_nextBirth_31 ?_
          refine q_bind hyp (fun x12 e13 hyp => ?_)
          refine q_iald dX5_nextBirth_32 e13 ?_
          refine q_iload_n 2 rfl dX5_nextBirth_33 ?_
          refine q_icmp_ge (tgt := 44) dX5_nextBirth_34 (by decide) (fun c14 => ?_) (fun c14 => ?_)
          · have hyp := q_pos c14 hyp
            refine q_iinc (ls' := [(3, .int (v3 + 1)), (0, .ref v0), (1, .int v1), (2, .int v2)]) 3 rfl rfl (by decide) rfl dX5_nextBirth_44 ?_
            refine q_goto (tgt := 4) dX5_nextBirth_47 (by decide) ?_
            exact q_sub [1, 2, 3, 0] rfl (ih v0 v1 v2 (v3 + 1) h hyp)
          · have hyp := q_neg c14 hyp
            exact q_sub [0, 1, 3] rfl (okX5_nextBirth_b37 ih hyp)
def fX5_nextBirth (n : Nat) (v0 : Nat) (v1 : Int32) (h : qH) : Option (Int32 × qH) :=
  (isO h v0 5).bind fun _ =>
  fX5_nextBirth_b4 n n v0 v1 v1 0 h
theorem obX5_nextBirth {n : Nat} {v0 : Nat} {v1 : Int32} {h : qH} {p : Int32 × qH} (hyp : fX5_nextBirth n v0 v1 h = some p) : ∃ fs, h.1 v0 = some (.inr (5, fs)) := by
  unfold fX5_nextBirth at hyp
  exact q_bind hyp (fun _ e _ => isO_some e)
set_option maxHeartbeats 4000000 in
set_option maxRecDepth 100000 in
theorem okX5_nextBirth {l : Launch} {n : Nat} {v0 : Nat} {v1 : Int32} {h : qH} {p : Int32 × qH} (hyp : fX5_nextBirth n v0 v1 h = some p) : q_M l 1 yX5_nextBirth cX5_nextBirth 4 (some .int) [.ref v0, .int v1] h (some (.int p.1)) p.2 := by
  obtain ⟨r, h'⟩ := p
  unfold fX5_nextBirth at hyp
  refine q_bind hyp (fun _ _ hyp => ?_)
  refine q_M.of (by decide) (Nat.le_of_ble_eq_true rfl) ?_
  refine q_to (ls' := [(0, .ref v0), (1, .int v1)]) (st' := []) rfl rfl ?_
  refine q_iload_n 1 rfl dX5_nextBirth_0 ?_
  refine q_istore_n (ls' := [(2, .int v1), (0, .ref v0), (1, .int v1)]) (by decide) rfl dX5_nextBirth_1 ?_
  refine q_iconst (x := 0) rfl dX5_nextBirth_2 ?_
  refine q_istore_n (ls' := [(3, .int 0), (2, .int v1), (0, .ref v0), (1, .int v1)]) (by decide) rfl dX5_nextBirth_3 ?_
  exact q_sub [2, 3, 1, 0] rfl (okX5_nextBirth_b4 _ v0 v1 v1 0 h hyp)
theorem dX5_potAfterYear_0 : decode cX5_potAfterYear 0 = .ok (.sipush 200, 3) := by decide +kernel
theorem dX5_potAfterYear_3 : decode cX5_potAfterYear 3 = .ok (.iload_n 1, 1) := by decide +kernel
theorem dX5_potAfterYear_4 : decode cX5_potAfterYear 4 = .ok (.aload_n 0, 1) := by decide +kernel
theorem dX5_potAfterYear_5 : decode cX5_potAfterYear 5 = .ok (.getfield 45, 3) := by decide +kernel
theorem dX5_potAfterYear_8 : decode cX5_potAfterYear 8 = .ok (.iadd, 1) := by decide +kernel
theorem dX5_potAfterYear_9 : decode cX5_potAfterYear 9 = .ok (.invokestatic 62, 3) := by decide +kernel
theorem dX5_potAfterYear_12 : decode cX5_potAfterYear 12 = .ok (.ireturn, 1) := by decide +kernel
def fX5_potAfterYear (v0 : Nat) (v1 : Int32) (h : qH) : Option (Int32 × qH) :=
  (isO h v0 5).bind fun _ =>
  (gI h v0 5 9).bind fun x1 =>
  some (if (v1 + x1) < (200 : Int32) then (v1 + x1) else (200 : Int32), h)
theorem obX5_potAfterYear {v0 : Nat} {v1 : Int32} {h : qH} {p : Int32 × qH} (hyp : fX5_potAfterYear v0 v1 h = some p) : ∃ fs, h.1 v0 = some (.inr (5, fs)) := by
  unfold fX5_potAfterYear at hyp
  exact q_bind hyp (fun _ e _ => isO_some e)
set_option maxHeartbeats 4000000 in
set_option maxRecDepth 100000 in
theorem okX5_potAfterYear {l : Launch} {v0 : Nat} {v1 : Int32} {h : qH} {p : Int32 × qH} (hyp : fX5_potAfterYear v0 v1 h = some p) : q_M l 1 yX5_potAfterYear cX5_potAfterYear 2 (some .int) [.ref v0, .int v1] h (some (.int p.1)) p.2 := by
  obtain ⟨r, h'⟩ := p
  unfold fX5_potAfterYear at hyp
  refine q_bind hyp (fun _ _ hyp => ?_)
  refine q_M.of (by decide) (Nat.le_of_ble_eq_true rfl) ?_
  refine q_to (ls' := [(0, .ref v0), (1, .int v1)]) (st' := []) rfl rfl ?_
  refine q_sipush (x := 200) (by decide) dX5_potAfterYear_0 ?_
  refine q_iload_n 1 rfl dX5_potAfterYear_3 ?_
  refine q_aload_n 0 rfl dX5_potAfterYear_4 ?_
  refine q_bind hyp (fun x1 e2 hyp => ?_)
  refine q_getI kF_X5_45 dX5_potAfterYear_5 e2 ?_
  refine q_iadd dX5_potAfterYear_8 ?_
  refine q_min kL_X5_62 kS_min kZ_math kD_min (by decide) (Nat.le_of_ble_eq_true rfl) dX5_potAfterYear_9 ?_
  exact q_iretH rfl rfl dX5_potAfterYear_12 hyp
theorem dX5_price_0 : decode cX5_price 0 = .ok (.aload_n 0, 1) := by decide +kernel
theorem dX5_price_1 : decode cX5_price 1 = .ok (.getfield 15, 3) := by decide +kernel
theorem dX5_price_4 : decode cX5_price 4 = .ok (.iload_n 1, 1) := by decide +kernel
theorem dX5_price_5 : decode cX5_price 5 = .ok (.iaload, 1) := by decide +kernel
theorem dX5_price_6 : decode cX5_price 6 = .ok (.iconst 1, 1) := by decide +kernel
theorem dX5_price_7 : decode cX5_price 7 = .ok (.if_icmp .ne 12, 3) := by decide +kernel
theorem dX5_price_10 : decode cX5_price 10 = .ok (.iconst 2, 1) := by decide +kernel
theorem dX5_price_11 : decode cX5_price 11 = .ok (.aload_n 0, 1) := by decide +kernel
theorem dX5_price_12 : decode cX5_price 12 = .ok (.getfield 39, 3) := by decide +kernel
theorem dX5_price_15 : decode cX5_price 15 = .ok (.imul, 1) := by decide +kernel
theorem dX5_price_16 : decode cX5_price 16 = .ok (.goto 7, 3) := by decide +kernel
theorem dX5_price_19 : decode cX5_price 19 = .ok (.aload_n 0, 1) := by decide +kernel
theorem dX5_price_20 : decode cX5_price 20 = .ok (.getfield 39, 3) := by decide +kernel
theorem dX5_price_23 : decode cX5_price 23 = .ok (.ireturn, 1) := by decide +kernel
def fX5_price (v0 : Nat) (v1 : Int32) (h : qH) : Option (Int32 × qH) :=
  (isO h v0 5).bind fun _ =>
  (gR h v0 5 1).bind fun x1 =>
  (aI .int h x1 v1).bind fun x3 =>
  if x3 = 1 then
  ((gI h v0 5 7).bind fun x8 =>
  some (2 * x8, h))
  else
  ((gI h v0 5 7).bind fun x6 =>
  some (x6, h))
theorem obX5_price {v0 : Nat} {v1 : Int32} {h : qH} {p : Int32 × qH} (hyp : fX5_price v0 v1 h = some p) : ∃ fs, h.1 v0 = some (.inr (5, fs)) := by
  unfold fX5_price at hyp
  exact q_bind hyp (fun _ e _ => isO_some e)
set_option maxHeartbeats 4000000 in
set_option maxRecDepth 100000 in
theorem okX5_price {l : Launch} {v0 : Nat} {v1 : Int32} {h : qH} {p : Int32 × qH} (hyp : fX5_price v0 v1 h = some p) : q_M l 1 yX5_price cX5_price 2 (some .int) [.ref v0, .int v1] h (some (.int p.1)) p.2 := by
  obtain ⟨r, h'⟩ := p
  unfold fX5_price at hyp
  refine q_bind hyp (fun _ _ hyp => ?_)
  refine q_M.of (by decide) (Nat.le_of_ble_eq_true rfl) ?_
  refine q_to (ls' := [(0, .ref v0), (1, .int v1)]) (st' := []) rfl rfl ?_
  refine q_aload_n 0 rfl dX5_price_0 ?_
  refine q_bind hyp (fun x1 e2 hyp => ?_)
  refine q_getR kF_X5_15 dX5_price_1 e2 ?_
  refine q_iload_n 1 rfl dX5_price_4 ?_
  refine q_bind hyp (fun x3 e4 hyp => ?_)
  refine q_iald dX5_price_5 e4 ?_
  refine q_iconst (x := 1) rfl dX5_price_6 ?_
  refine q_icmp_ne (tgt := 19) dX5_price_7 (by decide) (fun c5 => ?_) (fun c5 => ?_)
  · have hyp := q_neg c5 hyp
    refine q_aload_n 0 rfl dX5_price_19 ?_
    refine q_bind hyp (fun x6 e7 hyp => ?_)
    refine q_getI kF_X5_39 dX5_price_20 e7 ?_
    exact q_iretH rfl rfl dX5_price_23 hyp
  · have hyp := q_pos c5 hyp
    refine q_iconst (x := 2) rfl dX5_price_10 ?_
    refine q_aload_n 0 rfl dX5_price_11 ?_
    refine q_bind hyp (fun x8 e9 hyp => ?_)
    refine q_getI kF_X5_39 dX5_price_12 e9 ?_
    refine q_imul dX5_price_15 ?_
    refine q_goto (tgt := 23) dX5_price_16 (by decide) ?_
    exact q_iretH rfl rfl dX5_price_23 hyp
theorem dX5_rootBits_0 : decode cX5_rootBits 0 = .ok (.iconst 0, 1) := by decide +kernel
theorem dX5_rootBits_1 : decode cX5_rootBits 1 = .ok (.istore_n 1, 1) := by decide +kernel
theorem dX5_rootBits_2 : decode cX5_rootBits 2 = .ok (.iconst 0, 1) := by decide +kernel
theorem dX5_rootBits_3 : decode cX5_rootBits 3 = .ok (.istore_n 2, 1) := by decide +kernel
theorem dX5_rootBits_4 : decode cX5_rootBits 4 = .ok (.iload_n 2, 1) := by decide +kernel
theorem dX5_rootBits_5 : decode cX5_rootBits 5 = .ok (.aload_n 0, 1) := by decide +kernel
theorem dX5_rootBits_6 : decode cX5_rootBits 6 = .ok (.getfield 35, 3) := by decide +kernel
theorem dX5_rootBits_9 : decode cX5_rootBits 9 = .ok (.if_icmp .ge 18, 3) := by decide +kernel
theorem dX5_rootBits_12 : decode cX5_rootBits 12 = .ok (.iload_n 1, 1) := by decide +kernel
theorem dX5_rootBits_13 : decode cX5_rootBits 13 = .ok (.aload_n 0, 1) := by decide +kernel
theorem dX5_rootBits_14 : decode cX5_rootBits 14 = .ok (.getfield 25, 3) := by decide +kernel
theorem dX5_rootBits_17 : decode cX5_rootBits 17 = .ok (.iload_n 2, 1) := by decide +kernel
theorem dX5_rootBits_18 : decode cX5_rootBits 18 = .ok (.iaload, 1) := by decide +kernel
theorem dX5_rootBits_19 : decode cX5_rootBits 19 = .ok (.ior, 1) := by decide +kernel
theorem dX5_rootBits_20 : decode cX5_rootBits 20 = .ok (.istore_n 1, 1) := by decide +kernel
theorem dX5_rootBits_21 : decode cX5_rootBits 21 = .ok (.iinc 2 1, 3) := by decide +kernel
theorem dX5_rootBits_24 : decode cX5_rootBits 24 = .ok (.goto (-20), 3) := by decide +kernel
theorem dX5_rootBits_27 : decode cX5_rootBits 27 = .ok (.aload_n 0, 1) := by decide +kernel
theorem dX5_rootBits_28 : decode cX5_rootBits 28 = .ok (.invokevirtual 78, 3) := by decide +kernel
theorem dX5_rootBits_31 : decode cX5_rootBits 31 = .ok (.iload_n 1, 1) := by decide +kernel
theorem dX5_rootBits_32 : decode cX5_rootBits 32 = .ok (.iconst (-1), 1) := by decide +kernel
theorem dX5_rootBits_33 : decode cX5_rootBits 33 = .ok (.ixor, 1) := by decide +kernel
theorem dX5_rootBits_34 : decode cX5_rootBits 34 = .ok (.iand, 1) := by decide +kernel
theorem dX5_rootBits_35 : decode cX5_rootBits 35 = .ok (.ireturn, 1) := by decide +kernel
def fX5_rootBits_b4 (n : Nat) : Nat → Nat → Int32 → Int32 → qH → Option (Int32 × qH)
  | 0, _, _, _, _ => none
  | w + 1, v0, v1, v2, h =>
    (gI h v0 5 6).bind fun x1 =>
    if x1 ≤ v2 then
    ((fX5_everyone v0 h).bind fun p4 =>
    some (p4.1 &&& (v1 ^^^ ((-1))), p4.2))
    else
    ((gR h v0 5 4).bind fun x6 =>
    (aI .int h x6 v2).bind fun x8 =>
    fX5_rootBits_b4 n w v0 (v1 ||| x8) (v2 + 1) h)
set_option maxHeartbeats 4000000 in
set_option maxRecDepth 100000 in
theorem okX5_rootBits_b4 {l : Launch} {n : Nat} {r : Int32} {h' : qH} : ∀ (w : Nat) (v0 : Nat) (v1 : Int32) (v2 : Int32) (h : qH), fX5_rootBits_b4 n w v0 v1 v2 h = some (r, h') → q_W l 2 yX5_rootBits cX5_rootBits 3 (some .int) (some (.int r)) h' 4 [(0, .ref v0), (1, .int v1), (2, .int v2)] [] h := by
  intro w
  induction w with
  | zero => intro v0 v1 v2 h hyp; cases hyp
  | succ w ih =>
    intro v0 v1 v2 h hyp
    unfold fX5_rootBits_b4 at hyp
    refine q_iload_n 2 rfl dX5_rootBits_4 ?_
    refine q_aload_n 0 rfl dX5_rootBits_5 ?_
    refine q_bind hyp (fun x1 e2 hyp => ?_)
    refine q_getI kF_X5_35 dX5_rootBits_6 e2 ?_
    refine q_icmp_ge (tgt := 27) dX5_rootBits_9 (by decide) (fun c3 => ?_) (fun c3 => ?_)
    · have hyp := q_pos c3 hyp
      refine q_aload_n 0 rfl dX5_rootBits_27 ?_
      refine q_bind hyp (fun p4 e5 hyp => ?_)
      refine q_callV (as := []) (st := []) kY_X5_everyone kL_X5_78 (okX5_everyone (l := l) e5) (by decide) rfl (obX5_everyone e5) (Nat.le_of_ble_eq_true rfl) dX5_rootBits_28 ?_
      refine q_to (ls' := [(0, .ref v0), (1, .int v1), (2, .int v2)]) (st' := [.int p4.1]) rfl rfl ?_
      refine q_iload_n 1 rfl dX5_rootBits_31 ?_
      refine q_iconst (x := (-1)) rfl dX5_rootBits_32 ?_
      refine q_ixor dX5_rootBits_33 ?_
      refine q_iand dX5_rootBits_34 ?_
      exact q_iretH rfl rfl dX5_rootBits_35 hyp
    · have hyp := q_neg c3 hyp
      refine q_iload_n 1 rfl dX5_rootBits_12 ?_
      refine q_aload_n 0 rfl dX5_rootBits_13 ?_
      refine q_bind hyp (fun x6 e7 hyp => ?_)
      refine q_getR kF_X5_25 dX5_rootBits_14 e7 ?_
      refine q_iload_n 2 rfl dX5_rootBits_17 ?_
      refine q_bind hyp (fun x8 e9 hyp => ?_)
      refine q_iald dX5_rootBits_18 e9 ?_
      refine q_ior dX5_rootBits_19 ?_
      refine q_istore_n (ls' := [(1, .int (v1 ||| x8)), (0, .ref v0), (2, .int v2)]) (by decide) rfl dX5_rootBits_20 ?_
      refine q_iinc (ls' := [(2, .int (v2 + 1)), (1, .int (v1 ||| x8)), (0, .ref v0)]) 2 rfl rfl (by decide) rfl dX5_rootBits_21 ?_
      refine q_goto (tgt := 4) dX5_rootBits_24 (by decide) ?_
      exact q_sub [2, 1, 0] rfl (ih v0 (v1 ||| x8) (v2 + 1) h hyp)
def fX5_rootBits (n : Nat) (v0 : Nat) (h : qH) : Option (Int32 × qH) :=
  (isO h v0 5).bind fun _ =>
  fX5_rootBits_b4 n n v0 0 0 h
theorem obX5_rootBits {n : Nat} {v0 : Nat} {h : qH} {p : Int32 × qH} (hyp : fX5_rootBits n v0 h = some p) : ∃ fs, h.1 v0 = some (.inr (5, fs)) := by
  unfold fX5_rootBits at hyp
  exact q_bind hyp (fun _ e _ => isO_some e)
set_option maxHeartbeats 4000000 in
set_option maxRecDepth 100000 in
theorem okX5_rootBits {l : Launch} {n : Nat} {v0 : Nat} {h : qH} {p : Int32 × qH} (hyp : fX5_rootBits n v0 h = some p) : q_M l 2 yX5_rootBits cX5_rootBits 3 (some .int) [.ref v0] h (some (.int p.1)) p.2 := by
  obtain ⟨r, h'⟩ := p
  unfold fX5_rootBits at hyp
  refine q_bind hyp (fun _ _ hyp => ?_)
  refine q_M.of (by decide) (Nat.le_of_ble_eq_true rfl) ?_
  refine q_to (ls' := [(0, .ref v0)]) (st' := []) rfl rfl ?_
  refine q_iconst (x := 0) rfl dX5_rootBits_0 ?_
  refine q_istore_n (ls' := [(1, .int 0), (0, .ref v0)]) (by decide) rfl dX5_rootBits_1 ?_
  refine q_iconst (x := 0) rfl dX5_rootBits_2 ?_
  refine q_istore_n (ls' := [(2, .int 0), (1, .int 0), (0, .ref v0)]) (by decide) rfl dX5_rootBits_3 ?_
  exact q_sub [2, 1, 0] rfl (okX5_rootBits_b4 _ v0 0 0 h hyp)
theorem dX5_sourAfterCoat_0 : decode cX5_sourAfterCoat 0 = .ok (.aload_n 0, 1) := by decide +kernel
theorem dX5_sourAfterCoat_1 : decode cX5_sourAfterCoat 1 = .ok (.getfield 15, 3) := by decide +kernel
theorem dX5_sourAfterCoat_4 : decode cX5_sourAfterCoat 4 = .ok (.iload_n 1, 1) := by decide +kernel
theorem dX5_sourAfterCoat_5 : decode cX5_sourAfterCoat 5 = .ok (.iaload, 1) := by decide +kernel
theorem dX5_sourAfterCoat_6 : decode cX5_sourAfterCoat 6 = .ok (.iconst 3, 1) := by decide +kernel
theorem dX5_sourAfterCoat_7 : decode cX5_sourAfterCoat 7 = .ok (.if_icmp .ne 5, 3) := by decide +kernel
theorem dX5_sourAfterCoat_10 : decode cX5_sourAfterCoat 10 = .ok (.iload_n 2, 1) := by decide +kernel
theorem dX5_sourAfterCoat_11 : decode cX5_sourAfterCoat 11 = .ok (.ireturn, 1) := by decide +kernel
theorem dX5_sourAfterCoat_12 : decode cX5_sourAfterCoat 12 = .ok (.aload_n 0, 1) := by decide +kernel
theorem dX5_sourAfterCoat_13 : decode cX5_sourAfterCoat 13 = .ok (.getfield 31, 3) := by decide +kernel
theorem dX5_sourAfterCoat_16 : decode cX5_sourAfterCoat 16 = .ok (.iload_n 2, 1) := by decide +kernel
theorem dX5_sourAfterCoat_17 : decode cX5_sourAfterCoat 17 = .ok (.iload_n 3, 1) := by decide +kernel
theorem dX5_sourAfterCoat_18 : decode cX5_sourAfterCoat 18 = .ok (.bipush 100, 2) := by decide +kernel
theorem dX5_sourAfterCoat_20 : decode cX5_sourAfterCoat 20 = .ok (.aload_n 0, 1) := by decide +kernel
theorem dX5_sourAfterCoat_21 : decode cX5_sourAfterCoat 21 = .ok (.getfield 19, 3) := by decide +kernel
theorem dX5_sourAfterCoat_24 : decode cX5_sourAfterCoat 24 = .ok (.iload_n 1, 1) := by decide +kernel
theorem dX5_sourAfterCoat_25 : decode cX5_sourAfterCoat 25 = .ok (.iaload, 1) := by decide +kernel
theorem dX5_sourAfterCoat_26 : decode cX5_sourAfterCoat 26 = .ok (.isub, 1) := by decide +kernel
theorem dX5_sourAfterCoat_27 : decode cX5_sourAfterCoat 27 = .ok (.iload 4, 2) := by decide +kernel
theorem dX5_sourAfterCoat_29 : decode cX5_sourAfterCoat 29 = .ok (.iadd, 1) := by decide +kernel
theorem dX5_sourAfterCoat_30 : decode cX5_sourAfterCoat 30 = .ok (.aload_n 0, 1) := by decide +kernel
theorem dX5_sourAfterCoat_31 : decode cX5_sourAfterCoat 31 = .ok (.getfield 39, 3) := by decide +kernel
theorem dX5_sourAfterCoat_34 : decode cX5_sourAfterCoat 34 = .ok (.invokevirtual 58, 3) := by decide +kernel
theorem dX5_sourAfterCoat_37 : decode cX5_sourAfterCoat 37 = .ok (.istore 5, 2) := by decide +kernel
theorem dX5_sourAfterCoat_39 : decode cX5_sourAfterCoat 39 = .ok (.iconst 0, 1) := by decide +kernel
theorem dX5_sourAfterCoat_40 : decode cX5_sourAfterCoat 40 = .ok (.bipush 20, 2) := by decide +kernel
theorem dX5_sourAfterCoat_42 : decode cX5_sourAfterCoat 42 = .ok (.iload 5, 2) := by decide +kernel
theorem dX5_sourAfterCoat_44 : decode cX5_sourAfterCoat 44 = .ok (.invokestatic 62, 3) := by decide +kernel
theorem dX5_sourAfterCoat_47 : decode cX5_sourAfterCoat 47 = .ok (.invokestatic 68, 3) := by decide +kernel
theorem dX5_sourAfterCoat_50 : decode cX5_sourAfterCoat 50 = .ok (.istore 6, 2) := by decide +kernel
theorem dX5_sourAfterCoat_52 : decode cX5_sourAfterCoat 52 = .ok (.iconst 0, 1) := by decide +kernel
theorem dX5_sourAfterCoat_53 : decode cX5_sourAfterCoat 53 = .ok (.iload_n 2, 1) := by decide +kernel
theorem dX5_sourAfterCoat_54 : decode cX5_sourAfterCoat 54 = .ok (.iload 6, 2) := by decide +kernel
theorem dX5_sourAfterCoat_56 : decode cX5_sourAfterCoat 56 = .ok (.isub, 1) := by decide +kernel
theorem dX5_sourAfterCoat_57 : decode cX5_sourAfterCoat 57 = .ok (.invokestatic 68, 3) := by decide +kernel
theorem dX5_sourAfterCoat_60 : decode cX5_sourAfterCoat 60 = .ok (.ireturn, 1) := by decide +kernel
def fX5_sourAfterCoat (n : Nat) (v0 : Nat) (v1 : Int32) (v2 : Int32) (v3 : Int32) (v4 : Int32) (h : qH) : Option (Int32 × qH) :=
  (isO h v0 5).bind fun _ =>
  (gR h v0 5 1).bind fun x1 =>
  (aI .int h x1 v1).bind fun x3 =>
  if x3 = 3 then
  (some (v2, h))
  else
  ((gR h v0 5 5).bind fun x6 =>
  (gR h v0 5 2).bind fun x8 =>
  (aI .int h x8 v1).bind fun x10 =>
  (gI h v0 5 7).bind fun x12 =>
  (fX1_worth n x6 v2 v3 ((100 - x10) + v4) x12 h).bind fun p14 =>
  some (if (0 : Int32) < (v2 - (if (0 : Int32) < (if p14.1 < (20 : Int32) then p14.1 else (20 : Int32)) then (if p14.1 < (20 : Int32) then p14.1 else (20 : Int32)) else (0 : Int32))) then (v2 - (if (0 : Int32) < (if p14.1 < (20 : Int32) then p14.1 else (20 : Int32)) then (if p14.1 < (20 : Int32) then p14.1 else (20 : Int32)) else (0 : Int32))) else (0 : Int32), p14.2))
theorem obX5_sourAfterCoat {n : Nat} {v0 : Nat} {v1 : Int32} {v2 : Int32} {v3 : Int32} {v4 : Int32} {h : qH} {p : Int32 × qH} (hyp : fX5_sourAfterCoat n v0 v1 v2 v3 v4 h = some p) : ∃ fs, h.1 v0 = some (.inr (5, fs)) := by
  unfold fX5_sourAfterCoat at hyp
  exact q_bind hyp (fun _ e _ => isO_some e)
set_option maxHeartbeats 4000000 in
set_option maxRecDepth 100000 in
theorem okX5_sourAfterCoat {l : Launch} {n : Nat} {v0 : Nat} {v1 : Int32} {v2 : Int32} {v3 : Int32} {v4 : Int32} {h : qH} {p : Int32 × qH} (hyp : fX5_sourAfterCoat n v0 v1 v2 v3 v4 h = some p) : q_M l 3 yX5_sourAfterCoat cX5_sourAfterCoat 7 (some .int) [.ref v0, .int v1, .int v2, .int v3, .int v4] h (some (.int p.1)) p.2 := by
  obtain ⟨r, h'⟩ := p
  unfold fX5_sourAfterCoat at hyp
  refine q_bind hyp (fun _ _ hyp => ?_)
  refine q_M.of (by decide) (Nat.le_of_ble_eq_true rfl) ?_
  refine q_to (ls' := [(0, .ref v0), (1, .int v1), (2, .int v2), (3, .int v3), (4, .int v4)]) (st' := []) rfl rfl ?_
  refine q_aload_n 0 rfl dX5_sourAfterCoat_0 ?_
  refine q_bind hyp (fun x1 e2 hyp => ?_)
  refine q_getR kF_X5_15 dX5_sourAfterCoat_1 e2 ?_
  refine q_iload_n 1 rfl dX5_sourAfterCoat_4 ?_
  refine q_bind hyp (fun x3 e4 hyp => ?_)
  refine q_iald dX5_sourAfterCoat_5 e4 ?_
  refine q_iconst (x := 3) rfl dX5_sourAfterCoat_6 ?_
  refine q_icmp_ne (tgt := 12) dX5_sourAfterCoat_7 (by decide) (fun c5 => ?_) (fun c5 => ?_)
  · have hyp := q_neg c5 hyp
    refine q_aload_n 0 rfl dX5_sourAfterCoat_12 ?_
    refine q_bind hyp (fun x6 e7 hyp => ?_)
    refine q_getR kF_X5_31 dX5_sourAfterCoat_13 e7 ?_
    refine q_iload_n 2 rfl dX5_sourAfterCoat_16 ?_
    refine q_iload_n 3 rfl dX5_sourAfterCoat_17 ?_
    refine q_bipush (x := 100) (by decide) dX5_sourAfterCoat_18 ?_
    refine q_aload_n 0 rfl dX5_sourAfterCoat_20 ?_
    refine q_bind hyp (fun x8 e9 hyp => ?_)
    refine q_getR kF_X5_19 dX5_sourAfterCoat_21 e9 ?_
    refine q_iload_n 1 rfl dX5_sourAfterCoat_24 ?_
    refine q_bind hyp (fun x10 e11 hyp => ?_)
    refine q_iald dX5_sourAfterCoat_25 e11 ?_
    refine q_isub dX5_sourAfterCoat_26 ?_
    refine q_iload 4 rfl dX5_sourAfterCoat_27 ?_
    refine q_iadd dX5_sourAfterCoat_29 ?_
    refine q_aload_n 0 rfl dX5_sourAfterCoat_30 ?_
    refine q_bind hyp (fun x12 e13 hyp => ?_)
    refine q_getI kF_X5_39 dX5_sourAfterCoat_31 e13 ?_
    refine q_bind hyp (fun p14 e15 hyp => ?_)
    refine q_callV (as := [.int v2, .int v3, .int ((100 - x10) + v4), .int x12]) (st := []) kY_X1_worth kL_X5_58 (okX1_worth (l := l) e15) (by decide) rfl (obX1_worth e15) (Nat.le_of_ble_eq_true rfl) dX5_sourAfterCoat_34 ?_
    refine q_to (ls' := [(0, .ref v0), (1, .int v1), (2, .int v2), (3, .int v3), (4, .int v4)]) (st' := [.int p14.1]) rfl rfl ?_
    refine q_istore (ls' := [(5, .int p14.1), (0, .ref v0), (1, .int v1), (2, .int v2), (3, .int v3), (4, .int v4)]) (by decide) rfl dX5_sourAfterCoat_37 ?_
    refine q_iconst (x := 0) rfl dX5_sourAfterCoat_39 ?_
    refine q_bipush (x := 20) (by decide) dX5_sourAfterCoat_40 ?_
    refine q_iload 0 rfl dX5_sourAfterCoat_42 ?_
    refine q_min kL_X5_62 kS_min kZ_math kD_min (by decide) (Nat.le_of_ble_eq_true rfl) dX5_sourAfterCoat_44 ?_
    refine q_max kL_X5_68 kS_max kZ_math kD_max (by decide) (Nat.le_of_ble_eq_true rfl) dX5_sourAfterCoat_47 ?_
    refine q_istore (ls' := [(6, .int (if (0 : Int32) < (if p14.1 < (20 : Int32) then p14.1 else (20 : Int32)) then (if p14.1 < (20 : Int32) then p14.1 else (20 : Int32)) else (0 : Int32))), (5, .int p14.1), (0, .ref v0), (1, .int v1), (2, .int v2), (3, .int v3), (4, .int v4)]) (by decide) rfl dX5_sourAfterCoat_50 ?_
    refine q_iconst (x := 0) rfl dX5_sourAfterCoat_52 ?_
    refine q_iload_n 4 rfl dX5_sourAfterCoat_53 ?_
    refine q_iload 0 rfl dX5_sourAfterCoat_54 ?_
    refine q_isub dX5_sourAfterCoat_56 ?_
    refine q_max kL_X5_68 kS_max kZ_math kD_max (by decide) (Nat.le_of_ble_eq_true rfl) dX5_sourAfterCoat_57 ?_
    exact q_iretH rfl rfl dX5_sourAfterCoat_60 hyp
  · have hyp := q_pos c5 hyp
    refine q_iload_n 2 rfl dX5_sourAfterCoat_10 ?_
    exact q_iretH rfl rfl dX5_sourAfterCoat_11 hyp
theorem dX5_sourAfterYear_0 : decode cX5_sourAfterYear 0 = .ok (.iload_n 3, 1) := by decide +kernel
theorem dX5_sourAfterYear_1 : decode cX5_sourAfterYear 1 = .ok (.ifCond .ne 5, 3) := by decide +kernel
theorem dX5_sourAfterYear_4 : decode cX5_sourAfterYear 4 = .ok (.iload_n 2, 1) := by decide +kernel
theorem dX5_sourAfterYear_5 : decode cX5_sourAfterYear 5 = .ok (.ireturn, 1) := by decide +kernel
theorem dX5_sourAfterYear_6 : decode cX5_sourAfterYear 6 = .ok (.aload_n 0, 1) := by decide +kernel
theorem dX5_sourAfterYear_7 : decode cX5_sourAfterYear 7 = .ok (.getfield 15, 3) := by decide +kernel
theorem dX5_sourAfterYear_10 : decode cX5_sourAfterYear 10 = .ok (.iload_n 1, 1) := by decide +kernel
theorem dX5_sourAfterYear_11 : decode cX5_sourAfterYear 11 = .ok (.iaload, 1) := by decide +kernel
theorem dX5_sourAfterYear_12 : decode cX5_sourAfterYear 12 = .ok (.lookupswitch 49 #[(1, 28), (2, 41)], 28) := by decide +kernel
theorem dX5_sourAfterYear_40 : decode cX5_sourAfterYear 40 = .ok (.aload_n 0, 1) := by decide +kernel
theorem dX5_sourAfterYear_41 : decode cX5_sourAfterYear 41 = .ok (.getfield 22, 3) := by decide +kernel
theorem dX5_sourAfterYear_44 : decode cX5_sourAfterYear 44 = .ok (.iload_n 1, 1) := by decide +kernel
theorem dX5_sourAfterYear_45 : decode cX5_sourAfterYear 45 = .ok (.iaload, 1) := by decide +kernel
theorem dX5_sourAfterYear_46 : decode cX5_sourAfterYear 46 = .ok (.iload_n 2, 1) := by decide +kernel
theorem dX5_sourAfterYear_47 : decode cX5_sourAfterYear 47 = .ok (.iconst 1, 1) := by decide +kernel
theorem dX5_sourAfterYear_48 : decode cX5_sourAfterYear 48 = .ok (.iadd, 1) := by decide +kernel
theorem dX5_sourAfterYear_49 : decode cX5_sourAfterYear 49 = .ok (.invokestatic 62, 3) := by decide +kernel
theorem dX5_sourAfterYear_52 : decode cX5_sourAfterYear 52 = .ok (.ireturn, 1) := by decide +kernel
theorem dX5_sourAfterYear_53 : decode cX5_sourAfterYear 53 = .ok (.iconst 0, 1) := by decide +kernel
theorem dX5_sourAfterYear_54 : decode cX5_sourAfterYear 54 = .ok (.iload_n 2, 1) := by decide +kernel
theorem dX5_sourAfterYear_55 : decode cX5_sourAfterYear 55 = .ok (.iconst 1, 1) := by decide +kernel
theorem dX5_sourAfterYear_56 : decode cX5_sourAfterYear 56 = .ok (.isub, 1) := by decide +kernel
theorem dX5_sourAfterYear_57 : decode cX5_sourAfterYear 57 = .ok (.invokestatic 68, 3) := by decide +kernel
theorem dX5_sourAfterYear_60 : decode cX5_sourAfterYear 60 = .ok (.ireturn, 1) := by decide +kernel
theorem dX5_sourAfterYear_61 : decode cX5_sourAfterYear 61 = .ok (.iload_n 2, 1) := by decide +kernel
theorem dX5_sourAfterYear_62 : decode cX5_sourAfterYear 62 = .ok (.ireturn, 1) := by decide +kernel
def fX5_sourAfterYear (v0 : Nat) (v1 : Int32) (v2 : Int32) (v3 : Int32) (h : qH) : Option (Int32 × qH) :=
  (isO h v0 5).bind fun _ =>
  if v3 = 0 then
  (some (v2, h))
  else
  ((gR h v0 5 1).bind fun x2 =>
  (aI .int h x2 v1).bind fun x4 =>
  if x4 = 1 then
  ((gR h v0 5 3).bind fun x7 =>
  (aI .int h x7 v1).bind fun x9 =>
  some (if (v2 + 1) < x9 then (v2 + 1) else x9, h))
  else
  (if x4 = 2 then
  (some (if (0 : Int32) < (v2 - 1) then (v2 - 1) else (0 : Int32), h))
  else
  (some (v2, h))))
theorem obX5_sourAfterYear {v0 : Nat} {v1 : Int32} {v2 : Int32} {v3 : Int32} {h : qH} {p : Int32 × qH} (hyp : fX5_sourAfterYear v0 v1 v2 v3 h = some p) : ∃ fs, h.1 v0 = some (.inr (5, fs)) := by
  unfold fX5_sourAfterYear at hyp
  exact q_bind hyp (fun _ e _ => isO_some e)
set_option maxHeartbeats 4000000 in
set_option maxRecDepth 100000 in
theorem okX5_sourAfterYear {l : Launch} {v0 : Nat} {v1 : Int32} {v2 : Int32} {v3 : Int32} {h : qH} {p : Int32 × qH} (hyp : fX5_sourAfterYear v0 v1 v2 v3 h = some p) : q_M l 1 yX5_sourAfterYear cX5_sourAfterYear 4 (some .int) [.ref v0, .int v1, .int v2, .int v3] h (some (.int p.1)) p.2 := by
  obtain ⟨r, h'⟩ := p
  unfold fX5_sourAfterYear at hyp
  refine q_bind hyp (fun _ _ hyp => ?_)
  refine q_M.of (by decide) (Nat.le_of_ble_eq_true rfl) ?_
  refine q_to (ls' := [(0, .ref v0), (1, .int v1), (2, .int v2), (3, .int v3)]) (st' := []) rfl rfl ?_
  refine q_iload_n 3 rfl dX5_sourAfterYear_0 ?_
  refine q_if_ne (tgt := 6) dX5_sourAfterYear_1 (by decide) (fun c1 => ?_) (fun c1 => ?_)
  · have hyp := q_neg c1 hyp
    refine q_aload_n 0 rfl dX5_sourAfterYear_6 ?_
    refine q_bind hyp (fun x2 e3 hyp => ?_)
    refine q_getR kF_X5_15 dX5_sourAfterYear_7 e3 ?_
    refine q_iload_n 1 rfl dX5_sourAfterYear_10 ?_
    refine q_bind hyp (fun x4 e5 hyp => ?_)
    refine q_iald dX5_sourAfterYear_11 e5 ?_
    refine q_ite hyp (fun c6 hyp => ?_) (fun c6 hyp => ?_)
    · refine q_lookup (off := 28) (tgt := 40) dX5_sourAfterYear_12 (by decide) (by rw [c6]; decide) (by decide) ?_
      refine q_aload_n 0 rfl dX5_sourAfterYear_40 ?_
      refine q_bind hyp (fun x7 e8 hyp => ?_)
      refine q_getR kF_X5_22 dX5_sourAfterYear_41 e8 ?_
      refine q_iload_n 1 rfl dX5_sourAfterYear_44 ?_
      refine q_bind hyp (fun x9 e10 hyp => ?_)
      refine q_iald dX5_sourAfterYear_45 e10 ?_
      refine q_iload_n 2 rfl dX5_sourAfterYear_46 ?_
      refine q_iconst (x := 1) rfl dX5_sourAfterYear_47 ?_
      refine q_iadd dX5_sourAfterYear_48 ?_
      refine q_min kL_X5_62 kS_min kZ_math kD_min (by decide) (Nat.le_of_ble_eq_true rfl) dX5_sourAfterYear_49 ?_
      exact q_iretH rfl rfl dX5_sourAfterYear_52 hyp
    · refine q_ite hyp (fun c11 hyp => ?_) (fun c11 hyp => ?_)
      · refine q_lookup (off := 41) (tgt := 53) dX5_sourAfterYear_12 (by decide) (by rw [c11]; decide) (by decide) ?_
        refine q_iconst (x := 0) rfl dX5_sourAfterYear_53 ?_
        refine q_iload_n 2 rfl dX5_sourAfterYear_54 ?_
        refine q_iconst (x := 1) rfl dX5_sourAfterYear_55 ?_
        refine q_isub dX5_sourAfterYear_56 ?_
        refine q_max kL_X5_68 kS_max kZ_math kD_max (by decide) (Nat.le_of_ble_eq_true rfl) dX5_sourAfterYear_57 ?_
        exact q_iretH rfl rfl dX5_sourAfterYear_60 hyp
      · have zc6 := q_ni c6
        have zc11 := q_ni c11
        have zz : Op.lookupswitch.offset [(1, 28), (2, 41)] 49 x4.toInt = 49 := by
          rw [show (1 : Int32).toInt = 1 from rfl] at zc6
          rw [show (2 : Int32).toInt = 2 from rfl] at zc11
          rw [Op.lookupswitch.offset_cons, if_neg (Ne.symm zc6), Op.lookupswitch.offset_cons, if_neg (Ne.symm zc11)]
          rfl
        refine q_lookup (off := 49) (tgt := 61) dX5_sourAfterYear_12 (by decide) zz (by decide) ?_
        refine q_iload_n 2 rfl dX5_sourAfterYear_61 ?_
        exact q_iretH rfl rfl dX5_sourAfterYear_62 hyp
  · have hyp := q_pos c1 hyp
    refine q_iload_n 2 rfl dX5_sourAfterYear_4 ?_
    exact q_iretH rfl rfl dX5_sourAfterYear_5 hyp
