/-! Functions over the abstract heap, and that the machine computes them (written by gen.py). -/
theorem dX10_sums_0 : decode cX10_sums 0 = .ok (.aload_n 0, 1) := by decide +kernel
theorem dX10_sums_1 : decode cX10_sums 1 = .ok (.getfield 60, 3) := by decide +kernel
theorem dX10_sums_4 : decode cX10_sums 4 = .ok (.iload_n 1, 1) := by decide +kernel
theorem dX10_sums_5 : decode cX10_sums 5 = .ok (.aload_n 0, 1) := by decide +kernel
theorem dX10_sums_6 : decode cX10_sums 6 = .ok (.getfield 63, 3) := by decide +kernel
theorem dX10_sums_9 : decode cX10_sums 9 = .ok (.iload_n 1, 1) := by decide +kernel
theorem dX10_sums_10 : decode cX10_sums 10 = .ok (.iaload, 1) := by decide +kernel
theorem dX10_sums_11 : decode cX10_sums 11 = .ok (.bipush 21, 2) := by decide +kernel
theorem dX10_sums_13 : decode cX10_sums 13 = .ok (.if_icmp .ne 19, 3) := by decide +kernel
theorem dX10_sums_16 : decode cX10_sums 16 = .ok (.aload_n 0, 1) := by decide +kernel
theorem dX10_sums_17 : decode cX10_sums 17 = .ok (.getfield 60, 3) := by decide +kernel
theorem dX10_sums_20 : decode cX10_sums 20 = .ok (.iload_n 1, 1) := by decide +kernel
theorem dX10_sums_21 : decode cX10_sums 21 = .ok (.iaload, 1) := by decide +kernel
theorem dX10_sums_22 : decode cX10_sums 22 = .ok (.aload_n 0, 1) := by decide +kernel
theorem dX10_sums_23 : decode cX10_sums 23 = .ok (.getfield 66, 3) := by decide +kernel
theorem dX10_sums_26 : decode cX10_sums 26 = .ok (.iload_n 1, 1) := by decide +kernel
theorem dX10_sums_27 : decode cX10_sums 27 = .ok (.iaload, 1) := by decide +kernel
theorem dX10_sums_28 : decode cX10_sums 28 = .ok (.isub, 1) := by decide +kernel
theorem dX10_sums_29 : decode cX10_sums 29 = .ok (.goto 16, 3) := by decide +kernel
theorem dX10_sums_32 : decode cX10_sums 32 = .ok (.aload_n 0, 1) := by decide +kernel
theorem dX10_sums_33 : decode cX10_sums 33 = .ok (.getfield 60, 3) := by decide +kernel
theorem dX10_sums_36 : decode cX10_sums 36 = .ok (.iload_n 1, 1) := by decide +kernel
theorem dX10_sums_37 : decode cX10_sums 37 = .ok (.iaload, 1) := by decide +kernel
theorem dX10_sums_38 : decode cX10_sums 38 = .ok (.aload_n 0, 1) := by decide +kernel
theorem dX10_sums_39 : decode cX10_sums 39 = .ok (.getfield 66, 3) := by decide +kernel
theorem dX10_sums_42 : decode cX10_sums 42 = .ok (.iload_n 1, 1) := by decide +kernel
theorem dX10_sums_43 : decode cX10_sums 43 = .ok (.iaload, 1) := by decide +kernel
theorem dX10_sums_44 : decode cX10_sums 44 = .ok (.iadd, 1) := by decide +kernel
theorem dX10_sums_45 : decode cX10_sums 45 = .ok (.iastore, 1) := by decide +kernel
theorem dX10_sums_46 : decode cX10_sums 46 = .ok (.aload_n 0, 1) := by decide +kernel
theorem dX10_sums_47 : decode cX10_sums 47 = .ok (.getfield 69, 3) := by decide +kernel
theorem dX10_sums_50 : decode cX10_sums 50 = .ok (.iload_n 1, 1) := by decide +kernel
theorem dX10_sums_51 : decode cX10_sums 51 = .ok (.iconst 0, 1) := by decide +kernel
theorem dX10_sums_52 : decode cX10_sums 52 = .ok (.iastore, 1) := by decide +kernel
theorem dX10_sums_53 : decode cX10_sums 53 = .ok (.return_, 1) := by decide +kernel
def fX10_sums_b45 (v0 : Nat) (v1 : Int32) (s0 : Int32) (s1 : Int32) (s2 : Nat) (h : qH) : Option (qH) :=
  (sI .int h s2 s1 s0).bind fun h1 =>
  (gR h1 v0 10 30).bind fun x3 =>
  (sI .int h1 x3 v1 0).bind fun h5 =>
  some h5
set_option maxHeartbeats 4000000 in
set_option maxRecDepth 100000 in
theorem okX10_sums_b45 {l : Launch} {v0 : Nat} {v1 : Int32} {s0 : Int32} {s1 : Int32} {s2 : Nat} {h : qH} {h' : qH} (hyp : fX10_sums_b45 v0 v1 s0 s1 s2 h = some h') : q_W l 1 yX10_sums cX10_sums 2 none none h' 45 [(0, .ref v0), (1, .int v1)] [.int s0, .int s1, .ref s2] h := by
  unfold fX10_sums_b45 at hyp
  refine q_bind hyp (fun h1 e2 hyp => ?_)
  refine q_iast dX10_sums_45 e2 ?_
  refine q_aload_n 0 rfl dX10_sums_46 ?_
  refine q_bind hyp (fun x3 e4 hyp => ?_)
  refine q_getR kF_X10_69 dX10_sums_47 e4 ?_
  refine q_iload_n 1 rfl dX10_sums_50 ?_
  refine q_iconst (x := 0) rfl dX10_sums_51 ?_
  refine q_bind hyp (fun h5 e6 hyp => ?_)
  refine q_iast dX10_sums_52 e6 ?_
  exact q_vretH rfl dX10_sums_53 hyp
def fX10_sums (v0 : Nat) (v1 : Int32) (h : qH) : Option (qH) :=
  (isO h v0 10).bind fun _ =>
  (gR h v0 10 27).bind fun x1 =>
  (gR h v0 10 28).bind fun x3 =>
  (aI .int h x3 v1).bind fun x5 =>
  if x5 = 21 then
  ((gR h v0 10 27).bind fun x16 =>
  (aI .int h x16 v1).bind fun x18 =>
  (gR h v0 10 29).bind fun x20 =>
  (aI .int h x20 v1).bind fun x22 =>
  fX10_sums_b45 v0 v1 (x18 - x22) v1 x1 h)
  else
  ((gR h v0 10 27).bind fun x8 =>
  (aI .int h x8 v1).bind fun x10 =>
  (gR h v0 10 29).bind fun x12 =>
  (aI .int h x12 v1).bind fun x14 =>
  fX10_sums_b45 v0 v1 (x10 + x14) v1 x1 h)
theorem obX10_sums {v0 : Nat} {v1 : Int32} {h : qH} {p : qH} (hyp : fX10_sums v0 v1 h = some p) : ∃ fs, h.1 v0 = some (.inr (10, fs)) := by
  unfold fX10_sums at hyp
  exact q_bind hyp (fun _ e _ => isO_some e)
set_option maxHeartbeats 4000000 in
set_option maxRecDepth 100000 in
theorem okX10_sums {l : Launch} {v0 : Nat} {v1 : Int32} {h : qH} {h' : qH} (hyp : fX10_sums v0 v1 h = some h') : q_M l 1 yX10_sums cX10_sums 2 none [.ref v0, .int v1] h none h' := by
  unfold fX10_sums at hyp
  refine q_bind hyp (fun _ _ hyp => ?_)
  refine q_M.of (by decide) (Nat.le_of_ble_eq_true rfl) ?_
  refine q_to (ls' := [(0, .ref v0), (1, .int v1)]) (st' := []) rfl rfl ?_
  refine q_aload_n 0 rfl dX10_sums_0 ?_
  refine q_bind hyp (fun x1 e2 hyp => ?_)
  refine q_getR kF_X10_60 dX10_sums_1 e2 ?_
  refine q_iload_n 1 rfl dX10_sums_4 ?_
  refine q_aload_n 0 rfl dX10_sums_5 ?_
  refine q_bind hyp (fun x3 e4 hyp => ?_)
  refine q_getR kF_X10_63 dX10_sums_6 e4 ?_
  refine q_iload_n 1 rfl dX10_sums_9 ?_
  refine q_bind hyp (fun x5 e6 hyp => ?_)
  refine q_iald dX10_sums_10 e6 ?_
  refine q_bipush (x := 21) (by decide) dX10_sums_11 ?_
  refine q_icmp_ne (tgt := 32) dX10_sums_13 (by decide) (fun c7 => ?_) (fun c7 => ?_)
  · have hyp := q_neg c7 hyp
    refine q_aload_n 0 rfl dX10_sums_32 ?_
    refine q_bind hyp (fun x8 e9 hyp => ?_)
    refine q_getR kF_X10_60 dX10_sums_33 e9 ?_
    refine q_iload_n 1 rfl dX10_sums_36 ?_
    refine q_bind hyp (fun x10 e11 hyp => ?_)
    refine q_iald dX10_sums_37 e11 ?_
    refine q_aload_n 0 rfl dX10_sums_38 ?_
    refine q_bind hyp (fun x12 e13 hyp => ?_)
    refine q_getR kF_X10_66 dX10_sums_39 e13 ?_
    refine q_iload_n 1 rfl dX10_sums_42 ?_
    refine q_bind hyp (fun x14 e15 hyp => ?_)
    refine q_iald dX10_sums_43 e15 ?_
    refine q_iadd dX10_sums_44 ?_
    exact q_sub [0, 1] rfl (okX10_sums_b45 hyp)
  · have hyp := q_pos c7 hyp
    refine q_aload_n 0 rfl dX10_sums_16 ?_
    refine q_bind hyp (fun x16 e17 hyp => ?_)
    refine q_getR kF_X10_60 dX10_sums_17 e17 ?_
    refine q_iload_n 1 rfl dX10_sums_20 ?_
    refine q_bind hyp (fun x18 e19 hyp => ?_)
    refine q_iald dX10_sums_21 e19 ?_
    refine q_aload_n 0 rfl dX10_sums_22 ?_
    refine q_bind hyp (fun x20 e21 hyp => ?_)
    refine q_getR kF_X10_66 dX10_sums_23 e21 ?_
    refine q_iload_n 1 rfl dX10_sums_26 ?_
    refine q_bind hyp (fun x22 e23 hyp => ?_)
    refine q_iald dX10_sums_27 e23 ?_
    refine q_isub dX10_sums_28 ?_
    refine q_goto (tgt := 45) dX10_sums_29 (by decide) ?_
    exact q_sub [0, 1] rfl (okX10_sums_b45 hyp)
theorem dX10_tests_0 : decode cX10_tests 0 = .ok (.aload_n 0, 1) := by decide +kernel
theorem dX10_tests_1 : decode cX10_tests 1 = .ok (.iload_n 1, 1) := by decide +kernel
theorem dX10_tests_2 : decode cX10_tests 2 = .ok (.invokevirtual 213, 3) := by decide +kernel
theorem dX10_tests_5 : decode cX10_tests 5 = .ok (.aload_n 0, 1) := by decide +kernel
theorem dX10_tests_6 : decode cX10_tests 6 = .ok (.getfield 60, 3) := by decide +kernel
theorem dX10_tests_9 : decode cX10_tests 9 = .ok (.iload_n 1, 1) := by decide +kernel
theorem dX10_tests_10 : decode cX10_tests 10 = .ok (.iaload, 1) := by decide +kernel
theorem dX10_tests_11 : decode cX10_tests 11 = .ok (.istore_n 2, 1) := by decide +kernel
theorem dX10_tests_12 : decode cX10_tests 12 = .ok (.aload_n 0, 1) := by decide +kernel
theorem dX10_tests_13 : decode cX10_tests 13 = .ok (.getfield 57, 3) := by decide +kernel
theorem dX10_tests_16 : decode cX10_tests 16 = .ok (.iload_n 1, 1) := by decide +kernel
theorem dX10_tests_17 : decode cX10_tests 17 = .ok (.iaload, 1) := by decide +kernel
theorem dX10_tests_18 : decode cX10_tests 18 = .ok (.bipush 24, 2) := by decide +kernel
theorem dX10_tests_20 : decode cX10_tests 20 = .ok (.if_icmp .ne 24, 3) := by decide +kernel
theorem dX10_tests_23 : decode cX10_tests 23 = .ok (.aload_n 0, 1) := by decide +kernel
theorem dX10_tests_24 : decode cX10_tests 24 = .ok (.getfield 54, 3) := by decide +kernel
theorem dX10_tests_27 : decode cX10_tests 27 = .ok (.iload_n 1, 1) := by decide +kernel
theorem dX10_tests_28 : decode cX10_tests 28 = .ok (.iaload, 1) := by decide +kernel
theorem dX10_tests_29 : decode cX10_tests 29 = .ok (.aload_n 0, 1) := by decide +kernel
theorem dX10_tests_30 : decode cX10_tests 30 = .ok (.getfield 60, 3) := by decide +kernel
theorem dX10_tests_33 : decode cX10_tests 33 = .ok (.iload_n 1, 1) := by decide +kernel
theorem dX10_tests_34 : decode cX10_tests 34 = .ok (.iaload, 1) := by decide +kernel
theorem dX10_tests_35 : decode cX10_tests 35 = .ok (.if_icmp .ge 7, 3) := by decide +kernel
theorem dX10_tests_38 : decode cX10_tests 38 = .ok (.iconst 1, 1) := by decide +kernel
theorem dX10_tests_39 : decode cX10_tests 39 = .ok (.goto 4, 3) := by decide +kernel
theorem dX10_tests_42 : decode cX10_tests 42 = .ok (.iconst 0, 1) := by decide +kernel
theorem dX10_tests_43 : decode cX10_tests 43 = .ok (.istore_n 2, 1) := by decide +kernel
theorem dX10_tests_44 : decode cX10_tests 44 = .ok (.aload_n 0, 1) := by decide +kernel
theorem dX10_tests_45 : decode cX10_tests 45 = .ok (.getfield 57, 3) := by decide +kernel
theorem dX10_tests_48 : decode cX10_tests 48 = .ok (.iload_n 1, 1) := by decide +kernel
theorem dX10_tests_49 : decode cX10_tests 49 = .ok (.iaload, 1) := by decide +kernel
theorem dX10_tests_50 : decode cX10_tests 50 = .ok (.bipush 25, 2) := by decide +kernel
theorem dX10_tests_52 : decode cX10_tests 52 = .ok (.if_icmp .ne 24, 3) := by decide +kernel
theorem dX10_tests_55 : decode cX10_tests 55 = .ok (.aload_n 0, 1) := by decide +kernel
theorem dX10_tests_56 : decode cX10_tests 56 = .ok (.getfield 54, 3) := by decide +kernel
theorem dX10_tests_59 : decode cX10_tests 59 = .ok (.iload_n 1, 1) := by decide +kernel
theorem dX10_tests_60 : decode cX10_tests 60 = .ok (.iaload, 1) := by decide +kernel
theorem dX10_tests_61 : decode cX10_tests 61 = .ok (.aload_n 0, 1) := by decide +kernel
theorem dX10_tests_62 : decode cX10_tests 62 = .ok (.getfield 60, 3) := by decide +kernel
theorem dX10_tests_65 : decode cX10_tests 65 = .ok (.iload_n 1, 1) := by decide +kernel
theorem dX10_tests_66 : decode cX10_tests 66 = .ok (.iaload, 1) := by decide +kernel
theorem dX10_tests_67 : decode cX10_tests 67 = .ok (.if_icmp .ne 7, 3) := by decide +kernel
theorem dX10_tests_70 : decode cX10_tests 70 = .ok (.iconst 1, 1) := by decide +kernel
theorem dX10_tests_71 : decode cX10_tests 71 = .ok (.goto 4, 3) := by decide +kernel
theorem dX10_tests_74 : decode cX10_tests 74 = .ok (.iconst 0, 1) := by decide +kernel
theorem dX10_tests_75 : decode cX10_tests 75 = .ok (.istore_n 2, 1) := by decide +kernel
theorem dX10_tests_76 : decode cX10_tests 76 = .ok (.aload_n 0, 1) := by decide +kernel
theorem dX10_tests_77 : decode cX10_tests 77 = .ok (.getfield 51, 3) := by decide +kernel
theorem dX10_tests_80 : decode cX10_tests 80 = .ok (.iload_n 1, 1) := by decide +kernel
theorem dX10_tests_81 : decode cX10_tests 81 = .ok (.iaload, 1) := by decide +kernel
theorem dX10_tests_82 : decode cX10_tests 82 = .ok (.bipush 26, 2) := by decide +kernel
theorem dX10_tests_84 : decode cX10_tests 84 = .ok (.if_icmp .ne 22, 3) := by decide +kernel
theorem dX10_tests_87 : decode cX10_tests 87 = .ok (.aload_n 0, 1) := by decide +kernel
theorem dX10_tests_88 : decode cX10_tests 88 = .ok (.getfield 48, 3) := by decide +kernel
theorem dX10_tests_91 : decode cX10_tests 91 = .ok (.iload_n 1, 1) := by decide +kernel
theorem dX10_tests_92 : decode cX10_tests 92 = .ok (.iaload, 1) := by decide +kernel
theorem dX10_tests_93 : decode cX10_tests 93 = .ok (.ifCond .eq 11, 3) := by decide +kernel
theorem dX10_tests_96 : decode cX10_tests 96 = .ok (.iload_n 2, 1) := by decide +kernel
theorem dX10_tests_97 : decode cX10_tests 97 = .ok (.ifCond .eq 7, 3) := by decide +kernel
theorem dX10_tests_100 : decode cX10_tests 100 = .ok (.iconst 1, 1) := by decide +kernel
theorem dX10_tests_101 : decode cX10_tests 101 = .ok (.goto 4, 3) := by decide +kernel
theorem dX10_tests_104 : decode cX10_tests 104 = .ok (.iconst 0, 1) := by decide +kernel
theorem dX10_tests_105 : decode cX10_tests 105 = .ok (.istore_n 2, 1) := by decide +kernel
theorem dX10_tests_106 : decode cX10_tests 106 = .ok (.aload_n 0, 1) := by decide +kernel
theorem dX10_tests_107 : decode cX10_tests 107 = .ok (.getfield 51, 3) := by decide +kernel
theorem dX10_tests_110 : decode cX10_tests 110 = .ok (.iload_n 1, 1) := by decide +kernel
theorem dX10_tests_111 : decode cX10_tests 111 = .ok (.iaload, 1) := by decide +kernel
theorem dX10_tests_112 : decode cX10_tests 112 = .ok (.bipush 27, 2) := by decide +kernel
theorem dX10_tests_114 : decode cX10_tests 114 = .ok (.if_icmp .ne 22, 3) := by decide +kernel
theorem dX10_tests_117 : decode cX10_tests 117 = .ok (.aload_n 0, 1) := by decide +kernel
theorem dX10_tests_118 : decode cX10_tests 118 = .ok (.getfield 48, 3) := by decide +kernel
theorem dX10_tests_121 : decode cX10_tests 121 = .ok (.iload_n 1, 1) := by decide +kernel
theorem dX10_tests_122 : decode cX10_tests 122 = .ok (.iaload, 1) := by decide +kernel
theorem dX10_tests_123 : decode cX10_tests 123 = .ok (.ifCond .ne 7, 3) := by decide +kernel
theorem dX10_tests_126 : decode cX10_tests 126 = .ok (.iload_n 2, 1) := by decide +kernel
theorem dX10_tests_127 : decode cX10_tests 127 = .ok (.ifCond .eq 7, 3) := by decide +kernel
theorem dX10_tests_130 : decode cX10_tests 130 = .ok (.iconst 1, 1) := by decide +kernel
theorem dX10_tests_131 : decode cX10_tests 131 = .ok (.goto 4, 3) := by decide +kernel
theorem dX10_tests_134 : decode cX10_tests 134 = .ok (.iconst 0, 1) := by decide +kernel
theorem dX10_tests_135 : decode cX10_tests 135 = .ok (.istore_n 2, 1) := by decide +kernel
theorem dX10_tests_136 : decode cX10_tests 136 = .ok (.aload_n 0, 1) := by decide +kernel
theorem dX10_tests_137 : decode cX10_tests 137 = .ok (.getfield 48, 3) := by decide +kernel
theorem dX10_tests_140 : decode cX10_tests 140 = .ok (.iload_n 1, 1) := by decide +kernel
theorem dX10_tests_141 : decode cX10_tests 141 = .ok (.iload_n 2, 1) := by decide +kernel
theorem dX10_tests_142 : decode cX10_tests 142 = .ok (.iastore, 1) := by decide +kernel
theorem dX10_tests_143 : decode cX10_tests 143 = .ok (.aload_n 0, 1) := by decide +kernel
theorem dX10_tests_144 : decode cX10_tests 144 = .ok (.getfield 57, 3) := by decide +kernel
theorem dX10_tests_147 : decode cX10_tests 147 = .ok (.iload_n 1, 1) := by decide +kernel
theorem dX10_tests_148 : decode cX10_tests 148 = .ok (.iconst 0, 1) := by decide +kernel
theorem dX10_tests_149 : decode cX10_tests 149 = .ok (.iastore, 1) := by decide +kernel
theorem dX10_tests_150 : decode cX10_tests 150 = .ok (.aload_n 0, 1) := by decide +kernel
theorem dX10_tests_151 : decode cX10_tests 151 = .ok (.getfield 60, 3) := by decide +kernel
theorem dX10_tests_154 : decode cX10_tests 154 = .ok (.iload_n 1, 1) := by decide +kernel
theorem dX10_tests_155 : decode cX10_tests 155 = .ok (.iconst 0, 1) := by decide +kernel
theorem dX10_tests_156 : decode cX10_tests 156 = .ok (.iastore, 1) := by decide +kernel
theorem dX10_tests_157 : decode cX10_tests 157 = .ok (.aload_n 0, 1) := by decide +kernel
theorem dX10_tests_158 : decode cX10_tests 158 = .ok (.getfield 63, 3) := by decide +kernel
theorem dX10_tests_161 : decode cX10_tests 161 = .ok (.iload_n 1, 1) := by decide +kernel
theorem dX10_tests_162 : decode cX10_tests 162 = .ok (.bipush 20, 2) := by decide +kernel
theorem dX10_tests_164 : decode cX10_tests 164 = .ok (.iastore, 1) := by decide +kernel
theorem dX10_tests_165 : decode cX10_tests 165 = .ok (.return_, 1) := by decide +kernel
def fX10_tests_b136 (v0 : Nat) (v1 : Int32) (v2 : Int32) (h : qH) : Option (qH) :=
  (gR h v0 10 23).bind fun x1 =>
  (sI .int h x1 v1 v2).bind fun h3 =>
  (gR h3 v0 10 26).bind fun x5 =>
  (sI .int h3 x5 v1 0).bind fun h7 =>
  (gR h7 v0 10 27).bind fun x9 =>
  (sI .int h7 x9 v1 0).bind fun h11 =>
  (gR h11 v0 10 28).bind fun x13 =>
  (sI .int h11 x13 v1 20).bind fun h15 =>
  some h15
set_option maxHeartbeats 4000000 in
set_option maxRecDepth 100000 in
theorem okX10_tests_b136 {l : Launch} {v0 : Nat} {v1 : Int32} {v2 : Int32} {h : qH} {h' : qH} (hyp : fX10_tests_b136 v0 v1 v2 h = some h') : q_W l 2 yX10_tests cX10_tests 3 none none h' 136 [(0, .ref v0), (1, .int v1), (2, .int v2)] [] h := by
  unfold fX10_tests_b136 at hyp
  refine q_aload_n 0 rfl dX10_tests_136 ?_
  refine q_bind hyp (fun x1 e2 hyp => ?_)
  refine q_getR kF_X10_48 dX10_tests_137 e2 ?_
  refine q_iload_n 1 rfl dX10_tests_140 ?_
  refine q_iload_n 2 rfl dX10_tests_141 ?_
  refine q_bind hyp (fun h3 e4 hyp => ?_)
  refine q_iast dX10_tests_142 e4 ?_
  refine q_aload_n 0 rfl dX10_tests_143 ?_
  refine q_bind hyp (fun x5 e6 hyp => ?_)
  refine q_getR kF_X10_57 dX10_tests_144 e6 ?_
  refine q_iload_n 1 rfl dX10_tests_147 ?_
  refine q_iconst (x := 0) rfl dX10_tests_148 ?_
  refine q_bind hyp (fun h7 e8 hyp => ?_)
  refine q_iast dX10_tests_149 e8 ?_
  refine q_aload_n 0 rfl dX10_tests_150 ?_
  refine q_bind hyp (fun x9 e10 hyp => ?_)
  refine q_getR kF_X10_60 dX10_tests_151 e10 ?_
  refine q_iload_n 1 rfl dX10_tests_154 ?_
  refine q_iconst (x := 0) rfl dX10_tests_155 ?_
  refine q_bind hyp (fun h11 e12 hyp => ?_)
  refine q_iast dX10_tests_156 e12 ?_
  refine q_aload_n 0 rfl dX10_tests_157 ?_
  refine q_bind hyp (fun x13 e14 hyp => ?_)
  refine q_getR kF_X10_63 dX10_tests_158 e14 ?_
  refine q_iload_n 1 rfl dX10_tests_161 ?_
  refine q_bipush (x := 20) (by decide) dX10_tests_162 ?_
  refine q_bind hyp (fun h15 e16 hyp => ?_)
  refine q_iast dX10_tests_164 e16 ?_
  exact q_vretH rfl dX10_tests_165 hyp
def fX10_tests_b135 (v0 : Nat) (v1 : Int32) (s0 : Int32) (h : qH) : Option (qH) :=
  fX10_tests_b136 v0 v1 s0 h
set_option maxHeartbeats 4000000 in
set_option maxRecDepth 100000 in
theorem okX10_tests_b135 {l : Launch} {v0 : Nat} {v1 : Int32} {s0 : Int32} {h : qH} {h' : qH} (hyp : fX10_tests_b135 v0 v1 s0 h = some h') : q_W l 2 yX10_tests cX10_tests 3 none none h' 135 [(0, .ref v0), (1, .int v1)] [.int s0] h := by
  unfold fX10_tests_b135 at hyp
  refine q_istore_n (ls' := [(2, .int s0), (0, .ref v0), (1, .int v1)]) (by decide) rfl dX10_tests_135 ?_
  exact q_sub [1, 2, 0] rfl (okX10_tests_b136 hyp)
def fX10_tests_b130 (v0 : Nat) (v1 : Int32) (h : qH) : Option (qH) :=
  fX10_tests_b135 v0 v1 1 h
set_option maxHeartbeats 4000000 in
set_option maxRecDepth 100000 in
theorem okX10_tests_b130 {l : Launch} {v0 : Nat} {v1 : Int32} {h : qH} {h' : qH} (hyp : fX10_tests_b130 v0 v1 h = some h') : q_W l 2 yX10_tests cX10_tests 3 none none h' 130 [(0, .ref v0), (1, .int v1)] [] h := by
  unfold fX10_tests_b130 at hyp
  refine q_iconst (x := 1) rfl dX10_tests_130 ?_
  refine q_goto (tgt := 135) dX10_tests_131 (by decide) ?_
  exact q_sub [0, 1] rfl (okX10_tests_b135 hyp)
def fX10_tests_b106 (v0 : Nat) (v1 : Int32) (v2 : Int32) (h : qH) : Option (qH) :=
  (gR h v0 10 24).bind fun x1 =>
  (aI .int h x1 v1).bind fun x3 =>
  if x3 = 27 then
  ((gR h v0 10 23).bind fun x6 =>
  (aI .int h x6 v1).bind fun x8 =>
  if x8 = 0 then
  (if v2 = 0 then
  (fX10_tests_b135 v0 v1 0 h)
  else
  (fX10_tests_b130 v0 v1 h))
  else
  (fX10_tests_b130 v0 v1 h))
  else
  (fX10_tests_b136 v0 v1 v2 h)
set_option maxHeartbeats 4000000 in
set_option maxRecDepth 100000 in
theorem okX10_tests_b106 {l : Launch} {v0 : Nat} {v1 : Int32} {v2 : Int32} {h : qH} {h' : qH} (hyp : fX10_tests_b106 v0 v1 v2 h = some h') : q_W l 2 yX10_tests cX10_tests 3 none none h' 106 [(0, .ref v0), (1, .int v1), (2, .int v2)] [] h := by
  unfold fX10_tests_b106 at hyp
  refine q_aload_n 0 rfl dX10_tests_106 ?_
  refine q_bind hyp (fun x1 e2 hyp => ?_)
  refine q_getR kF_X10_51 dX10_tests_107 e2 ?_
  refine q_iload_n 1 rfl dX10_tests_110 ?_
  refine q_bind hyp (fun x3 e4 hyp => ?_)
  refine q_iald dX10_tests_111 e4 ?_
  refine q_bipush (x := 27) (by decide) dX10_tests_112 ?_
  refine q_icmp_ne (tgt := 136) dX10_tests_114 (by decide) (fun c5 => ?_) (fun c5 => ?_)
  · have hyp := q_neg c5 hyp
    exact q_sub [0, 1, 2] rfl (okX10_tests_b136 hyp)
  · have hyp := q_pos c5 hyp
    refine q_aload_n 0 rfl dX10_tests_117 ?_
    refine q_bind hyp (fun x6 e7 hyp => ?_)
    refine q_getR kF_X10_48 dX10_tests_118 e7 ?_
    refine q_iload_n 1 rfl dX10_tests_121 ?_
    refine q_bind hyp (fun x8 e9 hyp => ?_)
    refine q_iald dX10_tests_122 e9 ?_
    refine q_if_ne (tgt := 130) dX10_tests_123 (by decide) (fun c10 => ?_) (fun c10 => ?_)
    · have hyp := q_neg c10 hyp
      exact q_sub [0, 1] rfl (okX10_tests_b130 hyp)
    · have hyp := q_pos c10 hyp
      refine q_iload_n 2 rfl dX10_tests_126 ?_
      refine q_if_eq (tgt := 134) dX10_tests_127 (by decide) (fun c11 => ?_) (fun c11 => ?_)
      · have hyp := q_pos c11 hyp
        refine q_iconst (x := 0) rfl dX10_tests_134 ?_
        exact q_sub [0, 1] rfl (okX10_tests_b135 hyp)
      · have hyp := q_neg c11 hyp
        exact q_sub [0, 1] rfl (okX10_tests_b130 hyp)
def fX10_tests_b105 (v0 : Nat) (v1 : Int32) (s0 : Int32) (h : qH) : Option (qH) :=
  fX10_tests_b106 v0 v1 s0 h
set_option maxHeartbeats 4000000 in
set_option maxRecDepth 100000 in
theorem okX10_tests_b105 {l : Launch} {v0 : Nat} {v1 : Int32} {s0 : Int32} {h : qH} {h' : qH} (hyp : fX10_tests_b105 v0 v1 s0 h = some h') : q_W l 2 yX10_tests cX10_tests 3 none none h' 105 [(0, .ref v0), (1, .int v1)] [.int s0] h := by
  unfold fX10_tests_b105 at hyp
  refine q_istore_n (ls' := [(2, .int s0), (0, .ref v0), (1, .int v1)]) (by decide) rfl dX10_tests_105 ?_
  exact q_sub [1, 2, 0] rfl (okX10_tests_b106 hyp)
def fX10_tests_b104 (v0 : Nat) (v1 : Int32) (h : qH) : Option (qH) :=
  fX10_tests_b105 v0 v1 0 h
set_option maxHeartbeats 4000000 in
set_option maxRecDepth 100000 in
theorem okX10_tests_b104 {l : Launch} {v0 : Nat} {v1 : Int32} {h : qH} {h' : qH} (hyp : fX10_tests_b104 v0 v1 h = some h') : q_W l 2 yX10_tests cX10_tests 3 none none h' 104 [(0, .ref v0), (1, .int v1)] [] h := by
  unfold fX10_tests_b104 at hyp
  refine q_iconst (x := 0) rfl dX10_tests_104 ?_
  exact q_sub [0, 1] rfl (okX10_tests_b105 hyp)
def fX10_tests_b76 (v0 : Nat) (v1 : Int32) (v2 : Int32) (h : qH) : Option (qH) :=
  (gR h v0 10 24).bind fun x1 =>
  (aI .int h x1 v1).bind fun x3 =>
  if x3 = 26 then
  ((gR h v0 10 23).bind fun x6 =>
  (aI .int h x6 v1).bind fun x8 =>
  if x8 = 0 then
  (fX10_tests_b104 v0 v1 h)
  else
  (if v2 = 0 then
  (fX10_tests_b104 v0 v1 h)
  else
  (fX10_tests_b105 v0 v1 1 h)))
  else
  (fX10_tests_b106 v0 v1 v2 h)
set_option maxHeartbeats 4000000 in
set_option maxRecDepth 100000 in
theorem okX10_tests_b76 {l : Launch} {v0 : Nat} {v1 : Int32} {v2 : Int32} {h : qH} {h' : qH} (hyp : fX10_tests_b76 v0 v1 v2 h = some h') : q_W l 2 yX10_tests cX10_tests 3 none none h' 76 [(0, .ref v0), (1, .int v1), (2, .int v2)] [] h := by
  unfold fX10_tests_b76 at hyp
  refine q_aload_n 0 rfl dX10_tests_76 ?_
  refine q_bind hyp (fun x1 e2 hyp => ?_)
  refine q_getR kF_X10_51 dX10_tests_77 e2 ?_
  refine q_iload_n 1 rfl dX10_tests_80 ?_
  refine q_bind hyp (fun x3 e4 hyp => ?_)
  refine q_iald dX10_tests_81 e4 ?_
  refine q_bipush (x := 26) (by decide) dX10_tests_82 ?_
  refine q_icmp_ne (tgt := 106) dX10_tests_84 (by decide) (fun c5 => ?_) (fun c5 => ?_)
  · have hyp := q_neg c5 hyp
    exact q_sub [0, 1, 2] rfl (okX10_tests_b106 hyp)
  · have hyp := q_pos c5 hyp
    refine q_aload_n 0 rfl dX10_tests_87 ?_
    refine q_bind hyp (fun x6 e7 hyp => ?_)
    refine q_getR kF_X10_48 dX10_tests_88 e7 ?_
    refine q_iload_n 1 rfl dX10_tests_91 ?_
    refine q_bind hyp (fun x8 e9 hyp => ?_)
    refine q_iald dX10_tests_92 e9 ?_
    refine q_if_eq (tgt := 104) dX10_tests_93 (by decide) (fun c10 => ?_) (fun c10 => ?_)
    · have hyp := q_pos c10 hyp
      exact q_sub [0, 1] rfl (okX10_tests_b104 hyp)
    · have hyp := q_neg c10 hyp
      refine q_iload_n 2 rfl dX10_tests_96 ?_
      refine q_if_eq (tgt := 104) dX10_tests_97 (by decide) (fun c11 => ?_) (fun c11 => ?_)
      · have hyp := q_pos c11 hyp
        exact q_sub [0, 1] rfl (okX10_tests_b104 hyp)
      · have hyp := q_neg c11 hyp
        refine q_iconst (x := 1) rfl dX10_tests_100 ?_
        refine q_goto (tgt := 105) dX10_tests_101 (by decide) ?_
        exact q_sub [0, 1] rfl (okX10_tests_b105 hyp)
def fX10_tests_b75 (v0 : Nat) (v1 : Int32) (s0 : Int32) (h : qH) : Option (qH) :=
  fX10_tests_b76 v0 v1 s0 h
set_option maxHeartbeats 4000000 in
set_option maxRecDepth 100000 in
theorem okX10_tests_b75 {l : Launch} {v0 : Nat} {v1 : Int32} {s0 : Int32} {h : qH} {h' : qH} (hyp : fX10_tests_b75 v0 v1 s0 h = some h') : q_W l 2 yX10_tests cX10_tests 3 none none h' 75 [(0, .ref v0), (1, .int v1)] [.int s0] h := by
  unfold fX10_tests_b75 at hyp
  refine q_istore_n (ls' := [(2, .int s0), (0, .ref v0), (1, .int v1)]) (by decide) rfl dX10_tests_75 ?_
  exact q_sub [1, 2, 0] rfl (okX10_tests_b76 hyp)
def fX10_tests_b44 (v0 : Nat) (v1 : Int32) (v2 : Int32) (h : qH) : Option (qH) :=
  (gR h v0 10 26).bind fun x1 =>
  (aI .int h x1 v1).bind fun x3 =>
  if x3 = 25 then
  ((gR h v0 10 25).bind fun x6 =>
  (aI .int h x6 v1).bind fun x8 =>
  (gR h v0 10 27).bind fun x10 =>
  (aI .int h x10 v1).bind fun x12 =>
  if x8 = x12 then
  (fX10_tests_b75 v0 v1 1 h)
  else
  (fX10_tests_b75 v0 v1 0 h))
  else
  (fX10_tests_b76 v0 v1 v2 h)
set_option maxHeartbeats 4000000 in
set_option maxRecDepth 100000 in
theorem okX10_tests_b44 {l : Launch} {v0 : Nat} {v1 : Int32} {v2 : Int32} {h : qH} {h' : qH} (hyp : fX10_tests_b44 v0 v1 v2 h = some h') : q_W l 2 yX10_tests cX10_tests 3 none none h' 44 [(0, .ref v0), (1, .int v1), (2, .int v2)] [] h := by
  unfold fX10_tests_b44 at hyp
  refine q_aload_n 0 rfl dX10_tests_44 ?_
  refine q_bind hyp (fun x1 e2 hyp => ?_)
  refine q_getR kF_X10_57 dX10_tests_45 e2 ?_
  refine q_iload_n 1 rfl dX10_tests_48 ?_
  refine q_bind hyp (fun x3 e4 hyp => ?_)
  refine q_iald dX10_tests_49 e4 ?_
  refine q_bipush (x := 25) (by decide) dX10_tests_50 ?_
  refine q_icmp_ne (tgt := 76) dX10_tests_52 (by decide) (fun c5 => ?_) (fun c5 => ?_)
  · have hyp := q_neg c5 hyp
    exact q_sub [0, 1, 2] rfl (okX10_tests_b76 hyp)
  · have hyp := q_pos c5 hyp
    refine q_aload_n 0 rfl dX10_tests_55 ?_
    refine q_bind hyp (fun x6 e7 hyp => ?_)
    refine q_getR kF_X10_54 dX10_tests_56 e7 ?_
    refine q_iload_n 1 rfl dX10_tests_59 ?_
    refine q_bind hyp (fun x8 e9 hyp => ?_)
    refine q_iald dX10_tests_60 e9 ?_
    refine q_aload_n 0 rfl dX10_tests_61 ?_
    refine q_bind hyp (fun x10 e11 hyp => ?_)
    refine q_getR kF_X10_60 dX10_tests_62 e11 ?_
    refine q_iload_n 1 rfl dX10_tests_65 ?_
    refine q_bind hyp (fun x12 e13 hyp => ?_)
    refine q_iald dX10_tests_66 e13 ?_
    refine q_icmp_ne (tgt := 74) dX10_tests_67 (by decide) (fun c14 => ?_) (fun c14 => ?_)
    · have hyp := q_neg c14 hyp
      refine q_iconst (x := 0) rfl dX10_tests_74 ?_
      exact q_sub [0, 1] rfl (okX10_tests_b75 hyp)
    · have hyp := q_pos c14 hyp
      refine q_iconst (x := 1) rfl dX10_tests_70 ?_
      refine q_goto (tgt := 75) dX10_tests_71 (by decide) ?_
      exact q_sub [0, 1] rfl (okX10_tests_b75 hyp)
def fX10_tests_b43 (v0 : Nat) (v1 : Int32) (s0 : Int32) (h : qH) : Option (qH) :=
  fX10_tests_b44 v0 v1 s0 h
set_option maxHeartbeats 4000000 in
set_option maxRecDepth 100000 in
theorem okX10_tests_b43 {l : Launch} {v0 : Nat} {v1 : Int32} {s0 : Int32} {h : qH} {h' : qH} (hyp : fX10_tests_b43 v0 v1 s0 h = some h') : q_W l 2 yX10_tests cX10_tests 3 none none h' 43 [(0, .ref v0), (1, .int v1)] [.int s0] h := by
  unfold fX10_tests_b43 at hyp
  refine q_istore_n (ls' := [(2, .int s0), (0, .ref v0), (1, .int v1)]) (by decide) rfl dX10_tests_43 ?_
  exact q_sub [1, 2, 0] rfl (okX10_tests_b44 hyp)
def fX10_tests (v0 : Nat) (v1 : Int32) (h : qH) : Option (qH) :=
  (isO h v0 10).bind fun _ =>
  (fX10_sums v0 v1 h).bind fun h1 =>
  (gR h1 v0 10 27).bind fun x2 =>
  (aI .int h1 x2 v1).bind fun x4 =>
  (gR h1 v0 10 26).bind fun x6 =>
  (aI .int h1 x6 v1).bind fun x8 =>
  if x8 = 24 then
  ((gR h1 v0 10 25).bind fun x11 =>
  (aI .int h1 x11 v1).bind fun x13 =>
  (gR h1 v0 10 27).bind fun x15 =>
  (aI .int h1 x15 v1).bind fun x17 =>
  if x17 ≤ x13 then
  (fX10_tests_b43 v0 v1 0 h1)
  else
  (fX10_tests_b43 v0 v1 1 h1))
  else
  (fX10_tests_b44 v0 v1 x4 h1)
theorem obX10_tests {v0 : Nat} {v1 : Int32} {h : qH} {p : qH} (hyp : fX10_tests v0 v1 h = some p) : ∃ fs, h.1 v0 = some (.inr (10, fs)) := by
  unfold fX10_tests at hyp
  exact q_bind hyp (fun _ e _ => isO_some e)
set_option maxHeartbeats 4000000 in
set_option maxRecDepth 100000 in
theorem okX10_tests {l : Launch} {v0 : Nat} {v1 : Int32} {h : qH} {h' : qH} (hyp : fX10_tests v0 v1 h = some h') : q_M l 2 yX10_tests cX10_tests 3 none [.ref v0, .int v1] h none h' := by
  unfold fX10_tests at hyp
  refine q_bind hyp (fun _ _ hyp => ?_)
  refine q_M.of (by decide) (Nat.le_of_ble_eq_true rfl) ?_
  refine q_to (ls' := [(0, .ref v0), (1, .int v1)]) (st' := []) rfl rfl ?_
  refine q_aload_n 0 rfl dX10_tests_0 ?_
  refine q_iload_n 1 rfl dX10_tests_1 ?_
  refine q_bind hyp (fun h1 e20 hyp => ?_)
  refine q_callV (as := [.int v1]) (st := []) kY_X10_sums kL_X10_213 (okX10_sums (l := l) e20) (by decide) rfl (obX10_sums e20) (Nat.le_of_ble_eq_true rfl) dX10_tests_2 ?_
  refine q_to (ls' := [(0, .ref v0), (1, .int v1)]) (st' := []) rfl rfl ?_
  refine q_aload_n 0 rfl dX10_tests_5 ?_
  refine q_bind hyp (fun x2 e3 hyp => ?_)
  refine q_getR kF_X10_60 dX10_tests_6 e3 ?_
  refine q_iload_n 1 rfl dX10_tests_9 ?_
  refine q_bind hyp (fun x4 e5 hyp => ?_)
  refine q_iald dX10_tests_10 e5 ?_
  refine q_istore_n (ls' := [(2, .int x4), (0, .ref v0), (1, .int v1)]) (by decide) rfl dX10_tests_11 ?_
  refine q_aload_n 1 rfl dX10_tests_12 ?_
  refine q_bind hyp (fun x6 e7 hyp => ?_)
  refine q_getR kF_X10_57 dX10_tests_13 e7 ?_
  refine q_iload_n 2 rfl dX10_tests_16 ?_
  refine q_bind hyp (fun x8 e9 hyp => ?_)
  refine q_iald dX10_tests_17 e9 ?_
  refine q_bipush (x := 24) (by decide) dX10_tests_18 ?_
  refine q_icmp_ne (tgt := 44) dX10_tests_20 (by decide) (fun c10 => ?_) (fun c10 => ?_)
  · have hyp := q_neg c10 hyp
    exact q_sub [1, 2, 0] rfl (okX10_tests_b44 hyp)
  · have hyp := q_pos c10 hyp
    refine q_aload_n 1 rfl dX10_tests_23 ?_
    refine q_bind hyp (fun x11 e12 hyp => ?_)
    refine q_getR kF_X10_54 dX10_tests_24 e12 ?_
    refine q_iload_n 2 rfl dX10_tests_27 ?_
    refine q_bind hyp (fun x13 e14 hyp => ?_)
    refine q_iald dX10_tests_28 e14 ?_
    refine q_aload_n 1 rfl dX10_tests_29 ?_
    refine q_bind hyp (fun x15 e16 hyp => ?_)
    refine q_getR kF_X10_60 dX10_tests_30 e16 ?_
    refine q_iload_n 2 rfl dX10_tests_33 ?_
    refine q_bind hyp (fun x17 e18 hyp => ?_)
    refine q_iald dX10_tests_34 e18 ?_
    refine q_icmp_ge (tgt := 42) dX10_tests_35 (by decide) (fun c19 => ?_) (fun c19 => ?_)
    · have hyp := q_pos c19 hyp
      refine q_iconst (x := 0) rfl dX10_tests_42 ?_
      exact q_sub [1, 2] rfl (okX10_tests_b43 hyp)
    · have hyp := q_neg c19 hyp
      refine q_iconst (x := 1) rfl dX10_tests_38 ?_
      refine q_goto (tgt := 43) dX10_tests_39 (by decide) ?_
      exact q_sub [1, 2] rfl (okX10_tests_b43 hyp)
theorem dX10_worked_0 : decode cX10_worked 0 = .ok (.iconst 0, 1) := by decide +kernel
theorem dX10_worked_1 : decode cX10_worked 1 = .ok (.istore_n 2, 1) := by decide +kernel
theorem dX10_worked_2 : decode cX10_worked 2 = .ok (.aload_n 0, 1) := by decide +kernel
theorem dX10_worked_3 : decode cX10_worked 3 = .ok (.iconst 0, 1) := by decide +kernel
theorem dX10_worked_4 : decode cX10_worked 4 = .ok (.invokevirtual 216, 3) := by decide +kernel
theorem dX10_worked_7 : decode cX10_worked 7 = .ok (.aload_n 0, 1) := by decide +kernel
theorem dX10_worked_8 : decode cX10_worked 8 = .ok (.getfield 32, 3) := by decide +kernel
theorem dX10_worked_11 : decode cX10_worked 11 = .ok (.iload_n 1, 1) := by decide +kernel
theorem dX10_worked_12 : decode cX10_worked 12 = .ok (.iaload, 1) := by decide +kernel
theorem dX10_worked_13 : decode cX10_worked 13 = .ok (.istore_n 3, 1) := by decide +kernel
theorem dX10_worked_14 : decode cX10_worked 14 = .ok (.iload_n 3, 1) := by decide +kernel
theorem dX10_worked_15 : decode cX10_worked 15 = .ok (.aload_n 0, 1) := by decide +kernel
theorem dX10_worked_16 : decode cX10_worked 16 = .ok (.getfield 35, 3) := by decide +kernel
theorem dX10_worked_19 : decode cX10_worked 19 = .ok (.iload_n 1, 1) := by decide +kernel
theorem dX10_worked_20 : decode cX10_worked 20 = .ok (.iaload, 1) := by decide +kernel
theorem dX10_worked_21 : decode cX10_worked 21 = .ok (.if_icmp .ge 314, 3) := by decide +kernel
theorem dX10_worked_24 : decode cX10_worked 24 = .ok (.aload_n 0, 1) := by decide +kernel
theorem dX10_worked_25 : decode cX10_worked 25 = .ok (.getfield 38, 3) := by decide +kernel
theorem dX10_worked_28 : decode cX10_worked 28 = .ok (.iload_n 3, 1) := by decide +kernel
theorem dX10_worked_29 : decode cX10_worked 29 = .ok (.iaload, 1) := by decide +kernel
theorem dX10_worked_30 : decode cX10_worked 30 = .ok (.istore 4, 2) := by decide +kernel
theorem dX10_worked_32 : decode cX10_worked 32 = .ok (.iload 4, 2) := by decide +kernel
theorem dX10_worked_34 : decode cX10_worked 34 = .ok (.bipush 28, 2) := by decide +kernel
theorem dX10_worked_36 : decode cX10_worked 36 = .ok (.if_icmp .eq 10, 3) := by decide +kernel
theorem dX10_worked_39 : decode cX10_worked 39 = .ok (.iload 4, 2) := by decide +kernel
theorem dX10_worked_41 : decode cX10_worked 41 = .ok (.bipush 30, 2) := by decide +kernel
theorem dX10_worked_43 : decode cX10_worked 43 = .ok (.if_icmp .ne 32, 3) := by decide +kernel
theorem dX10_worked_46 : decode cX10_worked 46 = .ok (.iinc 2 1, 3) := by decide +kernel
theorem dX10_worked_49 : decode cX10_worked 49 = .ok (.aload_n 0, 1) := by decide +kernel
theorem dX10_worked_50 : decode cX10_worked 50 = .ok (.getfield 72, 3) := by decide +kernel
theorem dX10_worked_53 : decode cX10_worked 53 = .ok (.iload_n 2, 1) := by decide +kernel
theorem dX10_worked_54 : decode cX10_worked 54 = .ok (.iload 4, 2) := by decide +kernel
theorem dX10_worked_56 : decode cX10_worked 56 = .ok (.bipush 30, 2) := by decide +kernel
theorem dX10_worked_58 : decode cX10_worked 58 = .ok (.if_icmp .ne 7, 3) := by decide +kernel
theorem dX10_worked_61 : decode cX10_worked 61 = .ok (.iconst 1, 1) := by decide +kernel
theorem dX10_worked_62 : decode cX10_worked 62 = .ok (.goto 4, 3) := by decide +kernel
theorem dX10_worked_65 : decode cX10_worked 65 = .ok (.iconst 0, 1) := by decide +kernel
theorem dX10_worked_66 : decode cX10_worked 66 = .ok (.iastore, 1) := by decide +kernel
theorem dX10_worked_67 : decode cX10_worked 67 = .ok (.aload_n 0, 1) := by decide +kernel
theorem dX10_worked_68 : decode cX10_worked 68 = .ok (.iload_n 2, 1) := by decide +kernel
theorem dX10_worked_69 : decode cX10_worked 69 = .ok (.invokevirtual 216, 3) := by decide +kernel
theorem dX10_worked_72 : decode cX10_worked 72 = .ok (.goto 257, 3) := by decide +kernel
theorem dX10_worked_75 : decode cX10_worked 75 = .ok (.iload 4, 2) := by decide +kernel
theorem dX10_worked_77 : decode cX10_worked 77 = .ok (.bipush 20, 2) := by decide +kernel
theorem dX10_worked_79 : decode cX10_worked 79 = .ok (.if_icmp .eq 10, 3) := by decide +kernel
theorem dX10_worked_82 : decode cX10_worked 82 = .ok (.iload 4, 2) := by decide +kernel
theorem dX10_worked_84 : decode cX10_worked 84 = .ok (.bipush 21, 2) := by decide +kernel
theorem dX10_worked_86 : decode cX10_worked 86 = .ok (.if_icmp .ne 19, 3) := by decide +kernel
theorem dX10_worked_89 : decode cX10_worked 89 = .ok (.aload_n 0, 1) := by decide +kernel
theorem dX10_worked_90 : decode cX10_worked 90 = .ok (.iload_n 2, 1) := by decide +kernel
theorem dX10_worked_91 : decode cX10_worked 91 = .ok (.invokevirtual 213, 3) := by decide +kernel
theorem dX10_worked_94 : decode cX10_worked 94 = .ok (.aload_n 0, 1) := by decide +kernel
theorem dX10_worked_95 : decode cX10_worked 95 = .ok (.getfield 63, 3) := by decide +kernel
theorem dX10_worked_98 : decode cX10_worked 98 = .ok (.iload_n 2, 1) := by decide +kernel
theorem dX10_worked_99 : decode cX10_worked 99 = .ok (.iload 4, 2) := by decide +kernel
theorem dX10_worked_101 : decode cX10_worked 101 = .ok (.iastore, 1) := by decide +kernel
theorem dX10_worked_102 : decode cX10_worked 102 = .ok (.goto 227, 3) := by decide +kernel
theorem dX10_worked_105 : decode cX10_worked 105 = .ok (.iload 4, 2) := by decide +kernel
theorem dX10_worked_107 : decode cX10_worked 107 = .ok (.bipush 22, 2) := by decide +kernel
theorem dX10_worked_109 : decode cX10_worked 109 = .ok (.if_icmp .ne 14, 3) := by decide +kernel
theorem dX10_worked_112 : decode cX10_worked 112 = .ok (.aload_n 0, 1) := by decide +kernel
theorem dX10_worked_113 : decode cX10_worked 113 = .ok (.getfield 69, 3) := by decide +kernel
theorem dX10_worked_116 : decode cX10_worked 116 = .ok (.iload_n 2, 1) := by decide +kernel
theorem dX10_worked_117 : decode cX10_worked 117 = .ok (.iload 4, 2) := by decide +kernel
theorem dX10_worked_119 : decode cX10_worked 119 = .ok (.iastore, 1) := by decide +kernel
theorem dX10_worked_120 : decode cX10_worked 120 = .ok (.goto 209, 3) := by decide +kernel
theorem dX10_worked_123 : decode cX10_worked 123 = .ok (.iload 4, 2) := by decide +kernel
theorem dX10_worked_125 : decode cX10_worked 125 = .ok (.bipush 24, 2) := by decide +kernel
theorem dX10_worked_127 : decode cX10_worked 127 = .ok (.if_icmp .eq 10, 3) := by decide +kernel
theorem dX10_worked_130 : decode cX10_worked 130 = .ok (.iload 4, 2) := by decide +kernel
theorem dX10_worked_132 : decode cX10_worked 132 = .ok (.bipush 25, 2) := by decide +kernel
theorem dX10_worked_134 : decode cX10_worked 134 = .ok (.if_icmp .ne 46, 3) := by decide +kernel
theorem dX10_worked_137 : decode cX10_worked 137 = .ok (.aload_n 0, 1) := by decide +kernel
theorem dX10_worked_138 : decode cX10_worked 138 = .ok (.iload_n 2, 1) := by decide +kernel
theorem dX10_worked_139 : decode cX10_worked 139 = .ok (.invokevirtual 213, 3) := by decide +kernel
theorem dX10_worked_142 : decode cX10_worked 142 = .ok (.aload_n 0, 1) := by decide +kernel
theorem dX10_worked_143 : decode cX10_worked 143 = .ok (.getfield 54, 3) := by decide +kernel
theorem dX10_worked_146 : decode cX10_worked 146 = .ok (.iload_n 2, 1) := by decide +kernel
theorem dX10_worked_147 : decode cX10_worked 147 = .ok (.aload_n 0, 1) := by decide +kernel
theorem dX10_worked_148 : decode cX10_worked 148 = .ok (.getfield 60, 3) := by decide +kernel
theorem dX10_worked_151 : decode cX10_worked 151 = .ok (.iload_n 2, 1) := by decide +kernel
theorem dX10_worked_152 : decode cX10_worked 152 = .ok (.iaload, 1) := by decide +kernel
theorem dX10_worked_153 : decode cX10_worked 153 = .ok (.iastore, 1) := by decide +kernel
theorem dX10_worked_154 : decode cX10_worked 154 = .ok (.aload_n 0, 1) := by decide +kernel
theorem dX10_worked_155 : decode cX10_worked 155 = .ok (.getfield 57, 3) := by decide +kernel
theorem dX10_worked_158 : decode cX10_worked 158 = .ok (.iload_n 2, 1) := by decide +kernel
theorem dX10_worked_159 : decode cX10_worked 159 = .ok (.iload 4, 2) := by decide +kernel
theorem dX10_worked_161 : decode cX10_worked 161 = .ok (.iastore, 1) := by decide +kernel
theorem dX10_worked_162 : decode cX10_worked 162 = .ok (.aload_n 0, 1) := by decide +kernel
theorem dX10_worked_163 : decode cX10_worked 163 = .ok (.getfield 60, 3) := by decide +kernel
theorem dX10_worked_166 : decode cX10_worked 166 = .ok (.iload_n 2, 1) := by decide +kernel
theorem dX10_worked_167 : decode cX10_worked 167 = .ok (.iconst 0, 1) := by decide +kernel
theorem dX10_worked_168 : decode cX10_worked 168 = .ok (.iastore, 1) := by decide +kernel
theorem dX10_worked_169 : decode cX10_worked 169 = .ok (.aload_n 0, 1) := by decide +kernel
theorem dX10_worked_170 : decode cX10_worked 170 = .ok (.getfield 63, 3) := by decide +kernel
theorem dX10_worked_173 : decode cX10_worked 173 = .ok (.iload_n 2, 1) := by decide +kernel
theorem dX10_worked_174 : decode cX10_worked 174 = .ok (.bipush 20, 2) := by decide +kernel
theorem dX10_worked_176 : decode cX10_worked 176 = .ok (.iastore, 1) := by decide +kernel
theorem dX10_worked_177 : decode cX10_worked 177 = .ok (.goto 152, 3) := by decide +kernel
theorem dX10_worked_180 : decode cX10_worked 180 = .ok (.iload 4, 2) := by decide +kernel
theorem dX10_worked_182 : decode cX10_worked 182 = .ok (.bipush 26, 2) := by decide +kernel
theorem dX10_worked_184 : decode cX10_worked 184 = .ok (.if_icmp .eq 10, 3) := by decide +kernel
theorem dX10_worked_187 : decode cX10_worked 187 = .ok (.iload 4, 2) := by decide +kernel
theorem dX10_worked_189 : decode cX10_worked 189 = .ok (.bipush 27, 2) := by decide +kernel
theorem dX10_worked_191 : decode cX10_worked 191 = .ok (.if_icmp .ne 19, 3) := by decide +kernel
theorem dX10_worked_194 : decode cX10_worked 194 = .ok (.aload_n 0, 1) := by decide +kernel
theorem dX10_worked_195 : decode cX10_worked 195 = .ok (.iload_n 2, 1) := by decide +kernel
theorem dX10_worked_196 : decode cX10_worked 196 = .ok (.invokevirtual 219, 3) := by decide +kernel
theorem dX10_worked_199 : decode cX10_worked 199 = .ok (.aload_n 0, 1) := by decide +kernel
theorem dX10_worked_200 : decode cX10_worked 200 = .ok (.getfield 51, 3) := by decide +kernel
theorem dX10_worked_203 : decode cX10_worked 203 = .ok (.iload_n 2, 1) := by decide +kernel
theorem dX10_worked_204 : decode cX10_worked 204 = .ok (.iload 4, 2) := by decide +kernel
theorem dX10_worked_206 : decode cX10_worked 206 = .ok (.iastore, 1) := by decide +kernel
theorem dX10_worked_207 : decode cX10_worked 207 = .ok (.goto 122, 3) := by decide +kernel
theorem dX10_worked_210 : decode cX10_worked 210 = .ok (.iload 4, 2) := by decide +kernel
theorem dX10_worked_212 : decode cX10_worked 212 = .ok (.bipush 100, 2) := by decide +kernel
theorem dX10_worked_214 : decode cX10_worked 214 = .ok (.if_icmp .lt 11, 3) := by decide +kernel
theorem dX10_worked_217 : decode cX10_worked 217 = .ok (.iload 4, 2) := by decide +kernel
theorem dX10_worked_219 : decode cX10_worked 219 = .ok (.bipush 100, 2) := by decide +kernel
theorem dX10_worked_221 : decode cX10_worked 221 = .ok (.isub, 1) := by decide +kernel
theorem dX10_worked_222 : decode cX10_worked 222 = .ok (.goto 21, 3) := by decide +kernel
theorem dX10_worked_225 : decode cX10_worked 225 = .ok (.iload 4, 2) := by decide +kernel
theorem dX10_worked_227 : decode cX10_worked 227 = .ok (.bipush 20, 2) := by decide +kernel
theorem dX10_worked_229 : decode cX10_worked 229 = .ok (.if_icmp .ge 13, 3) := by decide +kernel
theorem dX10_worked_232 : decode cX10_worked 232 = .ok (.aload_n 0, 1) := by decide +kernel
theorem dX10_worked_233 : decode cX10_worked 233 = .ok (.getfield 75, 3) := by decide +kernel
theorem dX10_worked_236 : decode cX10_worked 236 = .ok (.iload 4, 2) := by decide +kernel
theorem dX10_worked_238 : decode cX10_worked 238 = .ok (.iaload, 1) := by decide +kernel
theorem dX10_worked_239 : decode cX10_worked 239 = .ok (.goto 4, 3) := by decide +kernel
theorem dX10_worked_242 : decode cX10_worked 242 = .ok (.iconst 0, 1) := by decide +kernel
theorem dX10_worked_243 : decode cX10_worked 243 = .ok (.istore 5, 2) := by decide +kernel
theorem dX10_worked_245 : decode cX10_worked 245 = .ok (.iload 4, 2) := by decide +kernel
theorem dX10_worked_247 : decode cX10_worked 247 = .ok (.bipush 29, 2) := by decide +kernel
theorem dX10_worked_249 : decode cX10_worked 249 = .ok (.if_icmp .ne 19, 3) := by decide +kernel
theorem dX10_worked_252 : decode cX10_worked 252 = .ok (.aload_n 0, 1) := by decide +kernel
theorem dX10_worked_253 : decode cX10_worked 253 = .ok (.iload_n 2, 1) := by decide +kernel
theorem dX10_worked_254 : decode cX10_worked 254 = .ok (.invokevirtual 219, 3) := by decide +kernel
theorem dX10_worked_257 : decode cX10_worked 257 = .ok (.aload_n 0, 1) := by decide +kernel
theorem dX10_worked_258 : decode cX10_worked 258 = .ok (.getfield 48, 3) := by decide +kernel
theorem dX10_worked_261 : decode cX10_worked 261 = .ok (.iload_n 2, 1) := by decide +kernel
theorem dX10_worked_262 : decode cX10_worked 262 = .ok (.iaload, 1) := by decide +kernel
theorem dX10_worked_263 : decode cX10_worked 263 = .ok (.istore 5, 2) := by decide +kernel
theorem dX10_worked_265 : decode cX10_worked 265 = .ok (.iinc 2 (-1), 3) := by decide +kernel
theorem dX10_worked_268 : decode cX10_worked 268 = .ok (.iload_n 2, 1) := by decide +kernel
theorem dX10_worked_269 : decode cX10_worked 269 = .ok (.ifCond .le 31, 3) := by decide +kernel
theorem dX10_worked_272 : decode cX10_worked 272 = .ok (.aload_n 0, 1) := by decide +kernel
theorem dX10_worked_273 : decode cX10_worked 273 = .ok (.getfield 72, 3) := by decide +kernel
theorem dX10_worked_276 : decode cX10_worked 276 = .ok (.iload_n 2, 1) := by decide +kernel
theorem dX10_worked_277 : decode cX10_worked 277 = .ok (.iaload, 1) := by decide +kernel
theorem dX10_worked_278 : decode cX10_worked 278 = .ok (.iconst 1, 1) := by decide +kernel
theorem dX10_worked_279 : decode cX10_worked 279 = .ok (.if_icmp .ne 21, 3) := by decide +kernel
theorem dX10_worked_282 : decode cX10_worked 282 = .ok (.iload 5, 2) := by decide +kernel
theorem dX10_worked_284 : decode cX10_worked 284 = .ok (.ifCond .ne 7, 3) := by decide +kernel
theorem dX10_worked_287 : decode cX10_worked 287 = .ok (.iconst 1, 1) := by decide +kernel
theorem dX10_worked_288 : decode cX10_worked 288 = .ok (.goto 4, 3) := by decide +kernel
theorem dX10_worked_291 : decode cX10_worked 291 = .ok (.iconst 0, 1) := by decide +kernel
theorem dX10_worked_292 : decode cX10_worked 292 = .ok (.istore 5, 2) := by decide +kernel
theorem dX10_worked_294 : decode cX10_worked 294 = .ok (.iinc 2 (-1), 3) := by decide +kernel
theorem dX10_worked_297 : decode cX10_worked 297 = .ok (.goto (-29), 3) := by decide +kernel
theorem dX10_worked_300 : decode cX10_worked 300 = .ok (.aload_n 0, 1) := by decide +kernel
theorem dX10_worked_301 : decode cX10_worked 301 = .ok (.getfield 66, 3) := by decide +kernel
theorem dX10_worked_304 : decode cX10_worked 304 = .ok (.iload_n 2, 1) := by decide +kernel
theorem dX10_worked_305 : decode cX10_worked 305 = .ok (.aload_n 0, 1) := by decide +kernel
theorem dX10_worked_306 : decode cX10_worked 306 = .ok (.getfield 69, 3) := by decide +kernel
theorem dX10_worked_309 : decode cX10_worked 309 = .ok (.iload_n 2, 1) := by decide +kernel
theorem dX10_worked_310 : decode cX10_worked 310 = .ok (.iaload, 1) := by decide +kernel
theorem dX10_worked_311 : decode cX10_worked 311 = .ok (.ifCond .ne 8, 3) := by decide +kernel
theorem dX10_worked_314 : decode cX10_worked 314 = .ok (.iload 5, 2) := by decide +kernel
theorem dX10_worked_316 : decode cX10_worked 316 = .ok (.goto 12, 3) := by decide +kernel
theorem dX10_worked_319 : decode cX10_worked 319 = .ok (.aload_n 0, 1) := by decide +kernel
theorem dX10_worked_320 : decode cX10_worked 320 = .ok (.getfield 66, 3) := by decide +kernel
theorem dX10_worked_323 : decode cX10_worked 323 = .ok (.iload_n 2, 1) := by decide +kernel
theorem dX10_worked_324 : decode cX10_worked 324 = .ok (.iaload, 1) := by decide +kernel
theorem dX10_worked_325 : decode cX10_worked 325 = .ok (.iload 5, 2) := by decide +kernel
theorem dX10_worked_327 : decode cX10_worked 327 = .ok (.imul, 1) := by decide +kernel
theorem dX10_worked_328 : decode cX10_worked 328 = .ok (.iastore, 1) := by decide +kernel
theorem dX10_worked_329 : decode cX10_worked 329 = .ok (.iinc 3 1, 3) := by decide +kernel
theorem dX10_worked_332 : decode cX10_worked 332 = .ok (.goto (-318), 3) := by decide +kernel
theorem dX10_worked_335 : decode cX10_worked 335 = .ok (.aload_n 0, 1) := by decide +kernel
theorem dX10_worked_336 : decode cX10_worked 336 = .ok (.iconst 0, 1) := by decide +kernel
theorem dX10_worked_337 : decode cX10_worked 337 = .ok (.invokevirtual 219, 3) := by decide +kernel
theorem dX10_worked_340 : decode cX10_worked 340 = .ok (.aload_n 0, 1) := by decide +kernel
theorem dX10_worked_341 : decode cX10_worked 341 = .ok (.getfield 48, 3) := by decide +kernel
theorem dX10_worked_344 : decode cX10_worked 344 = .ok (.iconst 0, 1) := by decide +kernel
theorem dX10_worked_345 : decode cX10_worked 345 = .ok (.iaload, 1) := by decide +kernel
theorem dX10_worked_346 : decode cX10_worked 346 = .ok (.ireturn, 1) := by decide +kernel
def fX10_worked_b328 (n : Nat) (K14 : Nat → Int32 → Int32 → Int32 → qH → Option (Int32 × qH)) (v0 : Nat) (v1 : Int32) (v2 : Int32) (v3 : Int32) (s0 : Int32) (s1 : Int32) (s2 : Nat) (h : qH) : Option (Int32 × qH) :=
  (sI .int h s2 s1 s0).bind fun h1 =>
  K14 v0 v1 v2 (v3 + 1) h1
set_option maxHeartbeats 4000000 in
set_option maxRecDepth 100000 in
theorem okX10_worked_b328 {l : Launch} {n : Nat} {K14 : Nat → Int32 → Int32 → Int32 → qH → Option (Int32 × qH)} {v0 : Nat} {v1 : Int32} {v2 : Int32} {v3 : Int32} {s0 : Int32} {s1 : Int32} {s2 : Nat} {h : qH} {r : Int32} {h' : qH} (hK14 : ∀ (v0 : Nat) (v1 : Int32) (v2 : Int32) (v3 : Int32) (h : qH), K14 v0 v1 v2 v3 h = some (r, h') → q_W l 3 yX10_worked cX10_worked 6 (some .int) (some (.int r)) h' 14 [(0, .ref v0), (1, .int v1), (2, .int v2), (3, .int v3)] [] h) (hyp : fX10_worked_b328 n K14 v0 v1 v2 v3 s0 s1 s2 h = some (r, h')) : q_W l 3 yX10_worked cX10_worked 6 (some .int) (some (.int r)) h' 328 [(0, .ref v0), (1, .int v1), (2, .int v2), (3, .int v3)] [.int s0, .int s1, .ref s2] h := by
  unfold fX10_worked_b328 at hyp
  refine q_bind hyp (fun h1 e2 hyp => ?_)
  refine q_iast dX10_worked_328 e2 ?_
  refine q_iinc (ls' := [(3, .int (v3 + 1)), (0, .ref v0), (1, .int v1), (2, .int v2)]) 3 rfl rfl (by decide) rfl dX10_worked_329 ?_
  refine q_goto (tgt := 14) dX10_worked_332 (by decide) ?_
  exact q_sub [1, 2, 3, 0] rfl (hK14 v0 v1 v2 (v3 + 1) h1 hyp)
def fX10_worked_b300 (n : Nat) (K14 : Nat → Int32 → Int32 → Int32 → qH → Option (Int32 × qH)) (v0 : Nat) (v1 : Int32) (v2 : Int32) (v3 : Int32) (v5 : Int32) (h : qH) : Option (Int32 × qH) :=
  (gR h v0 10 29).bind fun x1 =>
  (gR h v0 10 30).bind fun x3 =>
  (aI .int h x3 v2).bind fun x5 =>
  if x5 = 0 then
  (fX10_worked_b328 n K14 v0 v1 v2 v3 v5 v2 x1 h)
  else
  ((gR h v0 10 29).bind fun x8 =>
  (aI .int h x8 v2).bind fun x10 =>
  fX10_worked_b328 n K14 v0 v1 v2 v3 (x10 * v5) v2 x1 h)
set_option maxHeartbeats 4000000 in
set_option maxRecDepth 100000 in
theorem okX10_worked_b300 {l : Launch} {n : Nat} {K14 : Nat → Int32 → Int32 → Int32 → qH → Option (Int32 × qH)} {v0 : Nat} {v1 : Int32} {v2 : Int32} {v3 : Int32} {v5 : Int32} {h : qH} {r : Int32} {h' : qH} (hK14 : ∀ (v0 : Nat) (v1 : Int32) (v2 : Int32) (v3 : Int32) (h : qH), K14 v0 v1 v2 v3 h = some (r, h') → q_W l 3 yX10_worked cX10_worked 6 (some .int) (some (.int r)) h' 14 [(0, .ref v0), (1, .int v1), (2, .int v2), (3, .int v3)] [] h) (hyp : fX10_worked_b300 n K14 v0 v1 v2 v3 v5 h = some (r, h')) : q_W l 3 yX10_worked cX10_worked 6 (some .int) (some (.int r)) h' 300 [(0, .ref v0), (1, .int v1), (2, .int v2), (3, .int v3), (5, .int v5)] [] h := by
  unfold fX10_worked_b300 at hyp
  refine q_aload_n 0 rfl dX10_worked_300 ?_
  refine q_bind hyp (fun x1 e2 hyp => ?_)
  refine q_getR kF_X10_66 dX10_worked_301 e2 ?_
  refine q_iload_n 2 rfl dX10_worked_304 ?_
  refine q_aload_n 0 rfl dX10_worked_305 ?_
  refine q_bind hyp (fun x3 e4 hyp => ?_)
  refine q_getR kF_X10_69 dX10_worked_306 e4 ?_
  refine q_iload_n 2 rfl dX10_worked_309 ?_
  refine q_bind hyp (fun x5 e6 hyp => ?_)
  refine q_iald dX10_worked_310 e6 ?_
  refine q_if_ne (tgt := 319) dX10_worked_311 (by decide) (fun c7 => ?_) (fun c7 => ?_)
  · have hyp := q_neg c7 hyp
    refine q_aload_n 0 rfl dX10_worked_319 ?_
    refine q_bind hyp (fun x8 e9 hyp => ?_)
    refine q_getR kF_X10_66 dX10_worked_320 e9 ?_
    refine q_iload_n 2 rfl dX10_worked_323 ?_
    refine q_bind hyp (fun x10 e11 hyp => ?_)
    refine q_iald dX10_worked_324 e11 ?_
    refine q_iload 4 rfl dX10_worked_325 ?_
    refine q_imul dX10_worked_327 ?_
    exact q_sub [0, 1, 2, 3] rfl (okX10_worked_b328 hK14 hyp)
  · have hyp := q_pos c7 hyp
    refine q_iload 4 rfl dX10_worked_314 ?_
    refine q_goto (tgt := 328) dX10_worked_316 (by decide) ?_
    exact q_sub [0, 1, 2, 3] rfl (okX10_worked_b328 hK14 hyp)
def fX10_worked_b268 (n : Nat) (K14 : Nat → Int32 → Int32 → Int32 → qH → Option (Int32 × qH)) : Nat → Nat → Int32 → Int32 → Int32 → Int32 → qH → Option (Int32 × qH)
  | 0, _, _, _, _, _, _ => none
  | w + 1, v0, v1, v2, v3, v5, h =>
    if v2 ≤ 0 then
    (fX10_worked_b300 n K14 v0 v1 v2 v3 v5 h)
    else
    ((gR h v0 10 31).bind fun x2 =>
    (aI .int h x2 v2).bind fun x4 =>
    if x4 = 1 then
    (if v5 = 0 then
    (fX10_worked_b268 n K14 w v0 v1 (v2 + (-1)) v3 1 h)
    else
    (fX10_worked_b268 n K14 w v0 v1 (v2 + (-1)) v3 0 h))
    else
    (fX10_worked_b300 n K14 v0 v1 v2 v3 v5 h))
set_option maxHeartbeats 4000000 in
set_option maxRecDepth 100000 in
theorem okX10_worked_b268 {l : Launch} {n : Nat} {K14 : Nat → Int32 → Int32 → Int32 → qH → Option (Int32 × qH)} {r : Int32} {h' : qH} (hK14 : ∀ (v0 : Nat) (v1 : Int32) (v2 : Int32) (v3 : Int32) (h : qH), K14 v0 v1 v2 v3 h = some (r, h') → q_W l 3 yX10_worked cX10_worked 6 (some .int) (some (.int r)) h' 14 [(0, .ref v0), (1, .int v1), (2, .int v2), (3, .int v3)] [] h) : ∀ (w : Nat) (v0 : Nat) (v1 : Int32) (v2 : Int32) (v3 : Int32) (v5 : Int32) (h : qH), fX10_worked_b268 n K14 w v0 v1 v2 v3 v5 h = some (r, h') → q_W l 3 yX10_worked cX10_worked 6 (some .int) (some (.int r)) h' 268 [(0, .ref v0), (1, .int v1), (2, .int v2), (3, .int v3), (5, .int v5)] [] h := by
  intro w
  induction w with
  | zero => intro v0 v1 v2 v3 v5 h hyp; cases hyp
  | succ w ih =>
    intro v0 v1 v2 v3 v5 h hyp
    unfold fX10_worked_b268 at hyp
    refine q_iload_n 2 rfl dX10_worked_268 ?_
    refine q_if_le (tgt := 300) dX10_worked_269 (by decide) (fun c1 => ?_) (fun c1 => ?_)
    · have hyp := q_pos c1 hyp
      exact q_sub [0, 1, 2, 3, 4] rfl (okX10_worked_b300 hK14 hyp)
    · have hyp := q_neg c1 hyp
      refine q_aload_n 0 rfl dX10_worked_272 ?_
      refine q_bind hyp (fun x2 e3 hyp => ?_)
      refine q_getR kF_X10_72 dX10_worked_273 e3 ?_
      refine q_iload_n 2 rfl dX10_worked_276 ?_
      refine q_bind hyp (fun x4 e5 hyp => ?_)
      refine q_iald dX10_worked_277 e5 ?_
      refine q_iconst (x := 1) rfl dX10_worked_278 ?_
      refine q_icmp_ne (tgt := 300) dX10_worked_279 (by decide) (fun c6 => ?_) (fun c6 => ?_)
      · have hyp := q_neg c6 hyp
        exact q_sub [0, 1, 2, 3, 4] rfl (okX10_worked_b300 hK14 hyp)
      · have hyp := q_pos c6 hyp
        refine q_iload 4 rfl dX10_worked_282 ?_
        refine q_if_ne (tgt := 291) dX10_worked_284 (by decide) (fun c7 => ?_) (fun c7 => ?_)
        · have hyp := q_neg c7 hyp
          refine q_iconst (x := 0) rfl dX10_worked_291 ?_
          refine q_istore (ls' := [(5, .int 0), (0, .ref v0), (1, .int v1), (2, .int v2), (3, .int v3)]) (by decide) rfl dX10_worked_292 ?_
          refine q_iinc (ls' := [(2, .int (v2 + (-1))), (5, .int 0), (0, .ref v0), (1, .int v1), (3, .int v3)]) 3 rfl (by rw [show Int32.ofInt (-1) = (-1 : Int32) by decide]) (by decide) rfl dX10_worked_294 ?_
          refine q_goto (tgt := 268) dX10_worked_297 (by decide) ?_
          exact q_sub [2, 3, 0, 4, 1] rfl (ih v0 v1 (v2 + (-1)) v3 0 h hyp)
        · have hyp := q_pos c7 hyp
          refine q_iconst (x := 1) rfl dX10_worked_287 ?_
          refine q_goto (tgt := 292) dX10_worked_288 (by decide) ?_
          refine q_istore (ls' := [(5, .int 1), (0, .ref v0), (1, .int v1), (2, .int v2), (3, .int v3)]) (by decide) rfl dX10_worked_292 ?_
          refine q_iinc (ls' := [(2, .int (v2 + (-1))), (5, .int 1), (0, .ref v0), (1, .int v1), (3, .int v3)]) 3 rfl (by rw [show Int32.ofInt (-1) = (-1 : Int32) by decide]) (by decide) rfl dX10_worked_294 ?_
          refine q_goto (tgt := 268) dX10_worked_297 (by decide) ?_
          exact q_sub [2, 3, 0, 4, 1] rfl (ih v0 v1 (v2 + (-1)) v3 1 h hyp)
def fX10_worked_b243 (n : Nat) (K14 : Nat → Int32 → Int32 → Int32 → qH → Option (Int32 × qH)) (v0 : Nat) (v1 : Int32) (v2 : Int32) (v3 : Int32) (v4 : Int32) (s0 : Int32) (h : qH) : Option (Int32 × qH) :=
  if v4 = 29 then
  ((fX10_tests v0 v2 h).bind fun h2 =>
  (gR h2 v0 10 23).bind fun x3 =>
  (aI .int h2 x3 v2).bind fun x5 =>
  fX10_worked_b268 n K14 n v0 v1 (v2 + (-1)) v3 x5 h2)
  else
  (fX10_worked_b268 n K14 n v0 v1 v2 v3 s0 h)
set_option maxHeartbeats 4000000 in
set_option maxRecDepth 100000 in
theorem okX10_worked_b243 {l : Launch} {n : Nat} {K14 : Nat → Int32 → Int32 → Int32 → qH → Option (Int32 × qH)} {v0 : Nat} {v1 : Int32} {v2 : Int32} {v3 : Int32} {v4 : Int32} {s0 : Int32} {h : qH} {r : Int32} {h' : qH} (hK14 : ∀ (v0 : Nat) (v1 : Int32) (v2 : Int32) (v3 : Int32) (h : qH), K14 v0 v1 v2 v3 h = some (r, h') → q_W l 3 yX10_worked cX10_worked 6 (some .int) (some (.int r)) h' 14 [(0, .ref v0), (1, .int v1), (2, .int v2), (3, .int v3)] [] h) (hyp : fX10_worked_b243 n K14 v0 v1 v2 v3 v4 s0 h = some (r, h')) : q_W l 3 yX10_worked cX10_worked 6 (some .int) (some (.int r)) h' 243 [(0, .ref v0), (1, .int v1), (2, .int v2), (3, .int v3), (4, .int v4)] [.int s0] h := by
  unfold fX10_worked_b243 at hyp
  refine q_istore (ls' := [(5, .int s0), (0, .ref v0), (1, .int v1), (2, .int v2), (3, .int v3), (4, .int v4)]) (by decide) rfl dX10_worked_243 ?_
  refine q_iload 5 rfl dX10_worked_245 ?_
  refine q_bipush (x := 29) (by decide) dX10_worked_247 ?_
  refine q_icmp_ne (tgt := 268) dX10_worked_249 (by decide) (fun c1 => ?_) (fun c1 => ?_)
  · have hyp := q_neg c1 hyp
    exact q_sub [1, 2, 3, 4, 0] rfl (okX10_worked_b268 hK14 _ v0 v1 v2 v3 s0 h hyp)
  · have hyp := q_pos c1 hyp
    refine q_aload_n 1 rfl dX10_worked_252 ?_
    refine q_iload_n 3 rfl dX10_worked_253 ?_
    refine q_bind hyp (fun h2 e7 hyp => ?_)
    refine q_callV (as := [.int v2]) (st := []) kY_X10_tests kL_X10_219 (okX10_tests (l := l) e7) (by decide) rfl (obX10_tests e7) (Nat.le_of_ble_eq_true rfl) dX10_worked_254 ?_
    refine q_to (ls' := [(5, .int s0), (0, .ref v0), (1, .int v1), (2, .int v2), (3, .int v3), (4, .int v4)]) (st' := []) rfl rfl ?_
    refine q_aload_n 1 rfl dX10_worked_257 ?_
    refine q_bind hyp (fun x3 e4 hyp => ?_)
    refine q_getR kF_X10_48 dX10_worked_258 e4 ?_
    refine q_iload_n 3 rfl dX10_worked_261 ?_
    refine q_bind hyp (fun x5 e6 hyp => ?_)
    refine q_iald dX10_worked_262 e6 ?_
    refine q_istore (ls' := [(5, .int x5), (0, .ref v0), (1, .int v1), (2, .int v2), (3, .int v3), (4, .int v4)]) (by decide) rfl dX10_worked_263 ?_
    refine q_iinc (ls' := [(2, .int (v2 + (-1))), (5, .int x5), (0, .ref v0), (1, .int v1), (3, .int v3), (4, .int v4)]) 3 rfl (by rw [show Int32.ofInt (-1) = (-1 : Int32) by decide]) (by decide) rfl dX10_worked_265 ?_
    exact q_sub [2, 3, 0, 4, 1] rfl (okX10_worked_b268 hK14 _ v0 v1 (v2 + (-1)) v3 x5 h2 hyp)
def fX10_worked_b194 (n : Nat) (K14 : Nat → Int32 → Int32 → Int32 → qH → Option (Int32 × qH)) (v0 : Nat) (v1 : Int32) (v2 : Int32) (v3 : Int32) (v4 : Int32) (h : qH) : Option (Int32 × qH) :=
  (fX10_tests v0 v2 h).bind fun h1 =>
  (gR h1 v0 10 24).bind fun x2 =>
  (sI .int h1 x2 v2 v4).bind fun h4 =>
  K14 v0 v1 v2 (v3 + 1) h4
set_option maxHeartbeats 4000000 in
set_option maxRecDepth 100000 in
theorem okX10_worked_b194 {l : Launch} {n : Nat} {K14 : Nat → Int32 → Int32 → Int32 → qH → Option (Int32 × qH)} {v0 : Nat} {v1 : Int32} {v2 : Int32} {v3 : Int32} {v4 : Int32} {h : qH} {r : Int32} {h' : qH} (hK14 : ∀ (v0 : Nat) (v1 : Int32) (v2 : Int32) (v3 : Int32) (h : qH), K14 v0 v1 v2 v3 h = some (r, h') → q_W l 3 yX10_worked cX10_worked 6 (some .int) (some (.int r)) h' 14 [(0, .ref v0), (1, .int v1), (2, .int v2), (3, .int v3)] [] h) (hyp : fX10_worked_b194 n K14 v0 v1 v2 v3 v4 h = some (r, h')) : q_W l 3 yX10_worked cX10_worked 6 (some .int) (some (.int r)) h' 194 [(0, .ref v0), (1, .int v1), (2, .int v2), (3, .int v3), (4, .int v4)] [] h := by
  unfold fX10_worked_b194 at hyp
  refine q_aload_n 0 rfl dX10_worked_194 ?_
  refine q_iload_n 2 rfl dX10_worked_195 ?_
  refine q_bind hyp (fun h1 e6 hyp => ?_)
  refine q_callV (as := [.int v2]) (st := []) kY_X10_tests kL_X10_219 (okX10_tests (l := l) e6) (by decide) rfl (obX10_tests e6) (Nat.le_of_ble_eq_true rfl) dX10_worked_196 ?_
  refine q_to (ls' := [(0, .ref v0), (1, .int v1), (2, .int v2), (3, .int v3), (4, .int v4)]) (st' := []) rfl rfl ?_
  refine q_aload_n 0 rfl dX10_worked_199 ?_
  refine q_bind hyp (fun x2 e3 hyp => ?_)
  refine q_getR kF_X10_51 dX10_worked_200 e3 ?_
  refine q_iload_n 2 rfl dX10_worked_203 ?_
  refine q_iload 4 rfl dX10_worked_204 ?_
  refine q_bind hyp (fun h4 e5 hyp => ?_)
  refine q_iast dX10_worked_206 e5 ?_
  refine q_goto (tgt := 329) dX10_worked_207 (by decide) ?_
  refine q_iinc (ls' := [(3, .int (v3 + 1)), (0, .ref v0), (1, .int v1), (2, .int v2), (4, .int v4)]) 3 rfl rfl (by decide) rfl dX10_worked_329 ?_
  refine q_goto (tgt := 14) dX10_worked_332 (by decide) ?_
  exact q_sub [1, 2, 3, 0] rfl (hK14 v0 v1 v2 (v3 + 1) h4 hyp)
def fX10_worked_b137 (n : Nat) (K14 : Nat → Int32 → Int32 → Int32 → qH → Option (Int32 × qH)) (v0 : Nat) (v1 : Int32) (v2 : Int32) (v3 : Int32) (v4 : Int32) (h : qH) : Option (Int32 × qH) :=
  (fX10_sums v0 v2 h).bind fun h1 =>
  (gR h1 v0 10 25).bind fun x2 =>
  (gR h1 v0 10 27).bind fun x4 =>
  (aI .int h1 x4 v2).bind fun x6 =>
  (sI .int h1 x2 v2 x6).bind fun h8 =>
  (gR h8 v0 10 26).bind fun x10 =>
  (sI .int h8 x10 v2 v4).bind fun h12 =>
  (gR h12 v0 10 27).bind fun x14 =>
  (sI .int h12 x14 v2 0).bind fun h16 =>
  (gR h16 v0 10 28).bind fun x18 =>
  (sI .int h16 x18 v2 20).bind fun h20 =>
  K14 v0 v1 v2 (v3 + 1) h20
set_option maxHeartbeats 4000000 in
set_option maxRecDepth 100000 in
theorem okX10_worked_b137 {l : Launch} {n : Nat} {K14 : Nat → Int32 → Int32 → Int32 → qH → Option (Int32 × qH)} {v0 : Nat} {v1 : Int32} {v2 : Int32} {v3 : Int32} {v4 : Int32} {h : qH} {r : Int32} {h' : qH} (hK14 : ∀ (v0 : Nat) (v1 : Int32) (v2 : Int32) (v3 : Int32) (h : qH), K14 v0 v1 v2 v3 h = some (r, h') → q_W l 3 yX10_worked cX10_worked 6 (some .int) (some (.int r)) h' 14 [(0, .ref v0), (1, .int v1), (2, .int v2), (3, .int v3)] [] h) (hyp : fX10_worked_b137 n K14 v0 v1 v2 v3 v4 h = some (r, h')) : q_W l 3 yX10_worked cX10_worked 6 (some .int) (some (.int r)) h' 137 [(0, .ref v0), (1, .int v1), (2, .int v2), (3, .int v3), (4, .int v4)] [] h := by
  unfold fX10_worked_b137 at hyp
  refine q_aload_n 0 rfl dX10_worked_137 ?_
  refine q_iload_n 2 rfl dX10_worked_138 ?_
  refine q_bind hyp (fun h1 e22 hyp => ?_)
  refine q_callV (as := [.int v2]) (st := []) kY_X10_sums kL_X10_213 (okX10_sums (l := l) e22) (by decide) rfl (obX10_sums e22) (Nat.le_of_ble_eq_true rfl) dX10_worked_139 ?_
  refine q_to (ls' := [(0, .ref v0), (1, .int v1), (2, .int v2), (3, .int v3), (4, .int v4)]) (st' := []) rfl rfl ?_
  refine q_aload_n 0 rfl dX10_worked_142 ?_
  refine q_bind hyp (fun x2 e3 hyp => ?_)
  refine q_getR kF_X10_54 dX10_worked_143 e3 ?_
  refine q_iload_n 2 rfl dX10_worked_146 ?_
  refine q_aload_n 0 rfl dX10_worked_147 ?_
  refine q_bind hyp (fun x4 e5 hyp => ?_)
  refine q_getR kF_X10_60 dX10_worked_148 e5 ?_
  refine q_iload_n 2 rfl dX10_worked_151 ?_
  refine q_bind hyp (fun x6 e7 hyp => ?_)
  refine q_iald dX10_worked_152 e7 ?_
  refine q_bind hyp (fun h8 e9 hyp => ?_)
  refine q_iast dX10_worked_153 e9 ?_
  refine q_aload_n 0 rfl dX10_worked_154 ?_
  refine q_bind hyp (fun x10 e11 hyp => ?_)
  refine q_getR kF_X10_57 dX10_worked_155 e11 ?_
  refine q_iload_n 2 rfl dX10_worked_158 ?_
  refine q_iload 4 rfl dX10_worked_159 ?_
  refine q_bind hyp (fun h12 e13 hyp => ?_)
  refine q_iast dX10_worked_161 e13 ?_
  refine q_aload_n 0 rfl dX10_worked_162 ?_
  refine q_bind hyp (fun x14 e15 hyp => ?_)
  refine q_getR kF_X10_60 dX10_worked_163 e15 ?_
  refine q_iload_n 2 rfl dX10_worked_166 ?_
  refine q_iconst (x := 0) rfl dX10_worked_167 ?_
  refine q_bind hyp (fun h16 e17 hyp => ?_)
  refine q_iast dX10_worked_168 e17 ?_
  refine q_aload_n 0 rfl dX10_worked_169 ?_
  refine q_bind hyp (fun x18 e19 hyp => ?_)
  refine q_getR kF_X10_63 dX10_worked_170 e19 ?_
  refine q_iload_n 2 rfl dX10_worked_173 ?_
  refine q_bipush (x := 20) (by decide) dX10_worked_174 ?_
  refine q_bind hyp (fun h20 e21 hyp => ?_)
  refine q_iast dX10_worked_176 e21 ?_
  refine q_goto (tgt := 329) dX10_worked_177 (by decide) ?_
  refine q_iinc (ls' := [(3, .int (v3 + 1)), (0, .ref v0), (1, .int v1), (2, .int v2), (4, .int v4)]) 3 rfl rfl (by decide) rfl dX10_worked_329 ?_
  refine q_goto (tgt := 14) dX10_worked_332 (by decide) ?_
  exact q_sub [1, 2, 3, 0] rfl (hK14 v0 v1 v2 (v3 + 1) h20 hyp)
def fX10_worked_b89 (n : Nat) (K14 : Nat → Int32 → Int32 → Int32 → qH → Option (Int32 × qH)) (v0 : Nat) (v1 : Int32) (v2 : Int32) (v3 : Int32) (v4 : Int32) (h : qH) : Option (Int32 × qH) :=
  (fX10_sums v0 v2 h).bind fun h1 =>
  (gR h1 v0 10 28).bind fun x2 =>
  (sI .int h1 x2 v2 v4).bind fun h4 =>
  K14 v0 v1 v2 (v3 + 1) h4
set_option maxHeartbeats 4000000 in
set_option maxRecDepth 100000 in
theorem okX10_worked_b89 {l : Launch} {n : Nat} {K14 : Nat → Int32 → Int32 → Int32 → qH → Option (Int32 × qH)} {v0 : Nat} {v1 : Int32} {v2 : Int32} {v3 : Int32} {v4 : Int32} {h : qH} {r : Int32} {h' : qH} (hK14 : ∀ (v0 : Nat) (v1 : Int32) (v2 : Int32) (v3 : Int32) (h : qH), K14 v0 v1 v2 v3 h = some (r, h') → q_W l 3 yX10_worked cX10_worked 6 (some .int) (some (.int r)) h' 14 [(0, .ref v0), (1, .int v1), (2, .int v2), (3, .int v3)] [] h) (hyp : fX10_worked_b89 n K14 v0 v1 v2 v3 v4 h = some (r, h')) : q_W l 3 yX10_worked cX10_worked 6 (some .int) (some (.int r)) h' 89 [(0, .ref v0), (1, .int v1), (2, .int v2), (3, .int v3), (4, .int v4)] [] h := by
  unfold fX10_worked_b89 at hyp
  refine q_aload_n 0 rfl dX10_worked_89 ?_
  refine q_iload_n 2 rfl dX10_worked_90 ?_
  refine q_bind hyp (fun h1 e6 hyp => ?_)
  refine q_callV (as := [.int v2]) (st := []) kY_X10_sums kL_X10_213 (okX10_sums (l := l) e6) (by decide) rfl (obX10_sums e6) (Nat.le_of_ble_eq_true rfl) dX10_worked_91 ?_
  refine q_to (ls' := [(0, .ref v0), (1, .int v1), (2, .int v2), (3, .int v3), (4, .int v4)]) (st' := []) rfl rfl ?_
  refine q_aload_n 0 rfl dX10_worked_94 ?_
  refine q_bind hyp (fun x2 e3 hyp => ?_)
  refine q_getR kF_X10_63 dX10_worked_95 e3 ?_
  refine q_iload_n 2 rfl dX10_worked_98 ?_
  refine q_iload 4 rfl dX10_worked_99 ?_
  refine q_bind hyp (fun h4 e5 hyp => ?_)
  refine q_iast dX10_worked_101 e5 ?_
  refine q_goto (tgt := 329) dX10_worked_102 (by decide) ?_
  refine q_iinc (ls' := [(3, .int (v3 + 1)), (0, .ref v0), (1, .int v1), (2, .int v2), (4, .int v4)]) 3 rfl rfl (by decide) rfl dX10_worked_329 ?_
  refine q_goto (tgt := 14) dX10_worked_332 (by decide) ?_
  exact q_sub [1, 2, 3, 0] rfl (hK14 v0 v1 v2 (v3 + 1) h4 hyp)
def fX10_worked_b66 (n : Nat) (K14 : Nat → Int32 → Int32 → Int32 → qH → Option (Int32 × qH)) (v0 : Nat) (v1 : Int32) (v2 : Int32) (v3 : Int32) (s0 : Int32) (s1 : Int32) (s2 : Nat) (h : qH) : Option (Int32 × qH) :=
  (sI .int h s2 s1 s0).bind fun h1 =>
  (fX10_opens v0 v2 h1).bind fun h3 =>
  K14 v0 v1 v2 (v3 + 1) h3
set_option maxHeartbeats 4000000 in
set_option maxRecDepth 100000 in
theorem okX10_worked_b66 {l : Launch} {n : Nat} {K14 : Nat → Int32 → Int32 → Int32 → qH → Option (Int32 × qH)} {v0 : Nat} {v1 : Int32} {v2 : Int32} {v3 : Int32} {s0 : Int32} {s1 : Int32} {s2 : Nat} {h : qH} {r : Int32} {h' : qH} (hK14 : ∀ (v0 : Nat) (v1 : Int32) (v2 : Int32) (v3 : Int32) (h : qH), K14 v0 v1 v2 v3 h = some (r, h') → q_W l 3 yX10_worked cX10_worked 6 (some .int) (some (.int r)) h' 14 [(0, .ref v0), (1, .int v1), (2, .int v2), (3, .int v3)] [] h) (hyp : fX10_worked_b66 n K14 v0 v1 v2 v3 s0 s1 s2 h = some (r, h')) : q_W l 3 yX10_worked cX10_worked 6 (some .int) (some (.int r)) h' 66 [(0, .ref v0), (1, .int v1), (2, .int v2), (3, .int v3)] [.int s0, .int s1, .ref s2] h := by
  unfold fX10_worked_b66 at hyp
  refine q_bind hyp (fun h1 e2 hyp => ?_)
  refine q_iast dX10_worked_66 e2 ?_
  refine q_aload_n 0 rfl dX10_worked_67 ?_
  refine q_iload_n 2 rfl dX10_worked_68 ?_
  refine q_bind hyp (fun h3 e4 hyp => ?_)
  refine q_callV (as := [.int v2]) (st := []) kY_X10_opens kL_X10_216 (okX10_opens (l := l) e4) (by decide) rfl (obX10_opens e4) (Nat.le_of_ble_eq_true rfl) dX10_worked_69 ?_
  refine q_to (ls' := [(0, .ref v0), (1, .int v1), (2, .int v2), (3, .int v3)]) (st' := []) rfl rfl ?_
  refine q_goto (tgt := 329) dX10_worked_72 (by decide) ?_
  refine q_iinc (ls' := [(3, .int (v3 + 1)), (0, .ref v0), (1, .int v1), (2, .int v2)]) 3 rfl rfl (by decide) rfl dX10_worked_329 ?_
  refine q_goto (tgt := 14) dX10_worked_332 (by decide) ?_
  exact q_sub [1, 2, 3, 0] rfl (hK14 v0 v1 v2 (v3 + 1) h3 hyp)
def fX10_worked_b46 (n : Nat) (K14 : Nat → Int32 → Int32 → Int32 → qH → Option (Int32 × qH)) (v0 : Nat) (v1 : Int32) (v2 : Int32) (v3 : Int32) (v4 : Int32) (h : qH) : Option (Int32 × qH) :=
  (gR h v0 10 31).bind fun x1 =>
  if v4 = 30 then
  (fX10_worked_b66 n K14 v0 v1 (v2 + 1) v3 1 (v2 + 1) x1 h)
  else
  (fX10_worked_b66 n K14 v0 v1 (v2 + 1) v3 0 (v2 + 1) x1 h)
set_option maxHeartbeats 4000000 in
set_option maxRecDepth 100000 in
theorem okX10_worked_b46 {l : Launch} {n : Nat} {K14 : Nat → Int32 → Int32 → Int32 → qH → Option (Int32 × qH)} {v0 : Nat} {v1 : Int32} {v2 : Int32} {v3 : Int32} {v4 : Int32} {h : qH} {r : Int32} {h' : qH} (hK14 : ∀ (v0 : Nat) (v1 : Int32) (v2 : Int32) (v3 : Int32) (h : qH), K14 v0 v1 v2 v3 h = some (r, h') → q_W l 3 yX10_worked cX10_worked 6 (some .int) (some (.int r)) h' 14 [(0, .ref v0), (1, .int v1), (2, .int v2), (3, .int v3)] [] h) (hyp : fX10_worked_b46 n K14 v0 v1 v2 v3 v4 h = some (r, h')) : q_W l 3 yX10_worked cX10_worked 6 (some .int) (some (.int r)) h' 46 [(0, .ref v0), (1, .int v1), (2, .int v2), (3, .int v3), (4, .int v4)] [] h := by
  unfold fX10_worked_b46 at hyp
  refine q_iinc (ls' := [(2, .int (v2 + 1)), (0, .ref v0), (1, .int v1), (3, .int v3), (4, .int v4)]) 2 rfl rfl (by decide) rfl dX10_worked_46 ?_
  refine q_aload_n 1 rfl dX10_worked_49 ?_
  refine q_bind hyp (fun x1 e2 hyp => ?_)
  refine q_getR kF_X10_72 dX10_worked_50 e2 ?_
  refine q_iload_n 0 rfl dX10_worked_53 ?_
  refine q_iload 4 rfl dX10_worked_54 ?_
  refine q_bipush (x := 30) (by decide) dX10_worked_56 ?_
  refine q_icmp_ne (tgt := 65) dX10_worked_58 (by decide) (fun c3 => ?_) (fun c3 => ?_)
  · have hyp := q_neg c3 hyp
    refine q_iconst (x := 0) rfl dX10_worked_65 ?_
    exact q_sub [1, 2, 0, 3] rfl (okX10_worked_b66 hK14 hyp)
  · have hyp := q_pos c3 hyp
    refine q_iconst (x := 1) rfl dX10_worked_61 ?_
    refine q_goto (tgt := 66) dX10_worked_62 (by decide) ?_
    exact q_sub [1, 2, 0, 3] rfl (okX10_worked_b66 hK14 hyp)
def fX10_worked_b14 (n : Nat) : Nat → Nat → Int32 → Int32 → Int32 → qH → Option (Int32 × qH)
  | 0, _, _, _, _, _ => none
  | w + 1, v0, v1, v2, v3, h =>
    (gR h v0 10 17).bind fun x1 =>
    (aI .int h x1 v1).bind fun x3 =>
    if x3 ≤ v3 then
    ((fX10_tests v0 0 h).bind fun h6 =>
    (gR h6 v0 10 23).bind fun x7 =>
    (aI .int h6 x7 0).bind fun x9 =>
    some (x9, h6))
    else
    ((gR h v0 10 18).bind fun x12 =>
    (aI .int h x12 v3).bind fun x14 =>
    if x14 = 28 then
    (fX10_worked_b46 n (fX10_worked_b14 n w) v0 v1 v2 v3 x14 h)
    else
    (if x14 = 30 then
    (fX10_worked_b46 n (fX10_worked_b14 n w) v0 v1 v2 v3 x14 h)
    else
    (if x14 = 20 then
    (fX10_worked_b89 n (fX10_worked_b14 n w) v0 v1 v2 v3 x14 h)
    else
    (if x14 = 21 then
    (fX10_worked_b89 n (fX10_worked_b14 n w) v0 v1 v2 v3 x14 h)
    else
    (if x14 = 22 then
    ((gR h v0 10 30).bind fun x31 =>
    (sI .int h x31 v2 x14).bind fun h33 =>
    fX10_worked_b14 n w v0 v1 v2 (v3 + 1) h33)
    else
    (if x14 = 24 then
    (fX10_worked_b137 n (fX10_worked_b14 n w) v0 v1 v2 v3 x14 h)
    else
    (if x14 = 25 then
    (fX10_worked_b137 n (fX10_worked_b14 n w) v0 v1 v2 v3 x14 h)
    else
    (if x14 = 26 then
    (fX10_worked_b194 n (fX10_worked_b14 n w) v0 v1 v2 v3 x14 h)
    else
    (if x14 = 27 then
    (fX10_worked_b194 n (fX10_worked_b14 n w) v0 v1 v2 v3 x14 h)
    else
    (if x14 < 100 then
    (if 20 ≤ x14 then
    (fX10_worked_b243 n (fX10_worked_b14 n w) v0 v1 v2 v3 x14 0 h)
    else
    ((gR h v0 10 32).bind fun x27 =>
    (aI .int h x27 x14).bind fun x29 =>
    fX10_worked_b243 n (fX10_worked_b14 n w) v0 v1 v2 v3 x14 x29 h))
    else
    (fX10_worked_b243 n (fX10_worked_b14 n w) v0 v1 v2 v3 x14 (x14 - 100) h)))))))))))
set_option maxHeartbeats 4000000 in
set_option maxRecDepth 100000 in
theorem okX10_worked_b14 {l : Launch} {n : Nat} {r : Int32} {h' : qH} : ∀ (w : Nat) (v0 : Nat) (v1 : Int32) (v2 : Int32) (v3 : Int32) (h : qH), fX10_worked_b14 n w v0 v1 v2 v3 h = some (r, h') → q_W l 3 yX10_worked cX10_worked 6 (some .int) (some (.int r)) h' 14 [(0, .ref v0), (1, .int v1), (2, .int v2), (3, .int v3)] [] h := by
  intro w
  induction w with
  | zero => intro v0 v1 v2 v3 h hyp; cases hyp
  | succ w ih =>
    intro v0 v1 v2 v3 h hyp
    unfold fX10_worked_b14 at hyp
    refine q_iload_n 3 rfl dX10_worked_14 ?_
    refine q_aload_n 0 rfl dX10_worked_15 ?_
    refine q_bind hyp (fun x1 e2 hyp => ?_)
    refine q_getR kF_X10_35 dX10_worked_16 e2 ?_
    refine q_iload_n 1 rfl dX10_worked_19 ?_
    refine q_bind hyp (fun x3 e4 hyp => ?_)
    refine q_iald dX10_worked_20 e4 ?_
    refine q_icmp_ge (tgt := 335) dX10_worked_21 (by decide) (fun c5 => ?_) (fun c5 => ?_)
    · have hyp := q_pos c5 hyp
      refine q_aload_n 0 rfl dX10_worked_335 ?_
      refine q_iconst (x := 0) rfl dX10_worked_336 ?_
      refine q_bind hyp (fun h6 e11 hyp => ?_)
      refine q_callV (as := [.int 0]) (st := []) kY_X10_tests kL_X10_219 (okX10_tests (l := l) e11) (by decide) rfl (obX10_tests e11) (Nat.le_of_ble_eq_true rfl) dX10_worked_337 ?_
      refine q_to (ls' := [(0, .ref v0), (1, .int v1), (2, .int v2), (3, .int v3)]) (st' := []) rfl rfl ?_
      refine q_aload_n 0 rfl dX10_worked_340 ?_
      refine q_bind hyp (fun x7 e8 hyp => ?_)
      refine q_getR kF_X10_48 dX10_worked_341 e8 ?_
      refine q_iconst (x := 0) rfl dX10_worked_344 ?_
      refine q_bind hyp (fun x9 e10 hyp => ?_)
      refine q_iald dX10_worked_345 e10 ?_
      exact q_iretH rfl rfl dX10_worked_346 hyp
    · have hyp := q_neg c5 hyp
      refine q_aload_n 0 rfl dX10_worked_24 ?_
      refine q_bind hyp (fun x12 e13 hyp => ?_)
      refine q_getR kF_X10_38 dX10_worked_25 e13 ?_
      refine q_iload_n 3 rfl dX10_worked_28 ?_
      refine q_bind hyp (fun x14 e15 hyp => ?_)
      refine q_iald dX10_worked_29 e15 ?_
      refine q_istore (ls' := [(4, .int x14), (0, .ref v0), (1, .int v1), (2, .int v2), (3, .int v3)]) (by decide) rfl dX10_worked_30 ?_
      refine q_iload 0 rfl dX10_worked_32 ?_
      refine q_bipush (x := 28) (by decide) dX10_worked_34 ?_
      refine q_icmp_eq (tgt := 46) dX10_worked_36 (by decide) (fun c16 => ?_) (fun c16 => ?_)
      · have hyp := q_pos c16 hyp
        exact q_sub [1, 2, 3, 4, 0] rfl (okX10_worked_b46 ih hyp)
      · have hyp := q_neg c16 hyp
        refine q_iload 0 rfl dX10_worked_39 ?_
        refine q_bipush (x := 30) (by decide) dX10_worked_41 ?_
        refine q_icmp_ne (tgt := 75) dX10_worked_43 (by decide) (fun c17 => ?_) (fun c17 => ?_)
        · have hyp := q_neg c17 hyp
          refine q_iload 0 rfl dX10_worked_75 ?_
          refine q_bipush (x := 20) (by decide) dX10_worked_77 ?_
          refine q_icmp_eq (tgt := 89) dX10_worked_79 (by decide) (fun c18 => ?_) (fun c18 => ?_)
          · have hyp := q_pos c18 hyp
            exact q_sub [1, 2, 3, 4, 0] rfl (okX10_worked_b89 ih hyp)
          · have hyp := q_neg c18 hyp
            refine q_iload 0 rfl dX10_worked_82 ?_
            refine q_bipush (x := 21) (by decide) dX10_worked_84 ?_
            refine q_icmp_ne (tgt := 105) dX10_worked_86 (by decide) (fun c19 => ?_) (fun c19 => ?_)
            · have hyp := q_neg c19 hyp
              refine q_iload 0 rfl dX10_worked_105 ?_
              refine q_bipush (x := 22) (by decide) dX10_worked_107 ?_
              refine q_icmp_ne (tgt := 123) dX10_worked_109 (by decide) (fun c20 => ?_) (fun c20 => ?_)
              · have hyp := q_neg c20 hyp
                refine q_iload 0 rfl dX10_worked_123 ?_
                refine q_bipush (x := 24) (by decide) dX10_worked_125 ?_
                refine q_icmp_eq (tgt := 137) dX10_worked_127 (by decide) (fun c21 => ?_) (fun c21 => ?_)
                · have hyp := q_pos c21 hyp
                  exact q_sub [1, 2, 3, 4, 0] rfl (okX10_worked_b137 ih hyp)
                · have hyp := q_neg c21 hyp
                  refine q_iload 0 rfl dX10_worked_130 ?_
                  refine q_bipush (x := 25) (by decide) dX10_worked_132 ?_
                  refine q_icmp_ne (tgt := 180) dX10_worked_134 (by decide) (fun c22 => ?_) (fun c22 => ?_)
                  · have hyp := q_neg c22 hyp
                    refine q_iload 0 rfl dX10_worked_180 ?_
                    refine q_bipush (x := 26) (by decide) dX10_worked_182 ?_
                    refine q_icmp_eq (tgt := 194) dX10_worked_184 (by decide) (fun c23 => ?_) (fun c23 => ?_)
                    · have hyp := q_pos c23 hyp
                      exact q_sub [1, 2, 3, 4, 0] rfl (okX10_worked_b194 ih hyp)
                    · have hyp := q_neg c23 hyp
                      refine q_iload 0 rfl dX10_worked_187 ?_
                      refine q_bipush (x := 27) (by decide) dX10_worked_189 ?_
                      refine q_icmp_ne (tgt := 210) dX10_worked_191 (by decide) (fun c24 => ?_) (fun c24 => ?_)
                      · have hyp := q_neg c24 hyp
                        refine q_iload 0 rfl dX10_worked_210 ?_
                        refine q_bipush (x := 100) (by decide) dX10_worked_212 ?_
                        refine q_icmp_lt (tgt := 225) dX10_worked_214 (by decide) (fun c25 => ?_) (fun c25 => ?_)
                        · have hyp := q_pos c25 hyp
                          refine q_iload 0 rfl dX10_worked_225 ?_
                          refine q_bipush (x := 20) (by decide) dX10_worked_227 ?_
                          refine q_icmp_ge (tgt := 242) dX10_worked_229 (by decide) (fun c26 => ?_) (fun c26 => ?_)
                          · have hyp := q_pos c26 hyp
                            refine q_iconst (x := 0) rfl dX10_worked_242 ?_
                            exact q_sub [1, 2, 3, 4, 0] rfl (okX10_worked_b243 ih hyp)
                          · have hyp := q_neg c26 hyp
                            refine q_aload_n 1 rfl dX10_worked_232 ?_
                            refine q_bind hyp (fun x27 e28 hyp => ?_)
                            refine q_getR kF_X10_75 dX10_worked_233 e28 ?_
                            refine q_iload 0 rfl dX10_worked_236 ?_
                            refine q_bind hyp (fun x29 e30 hyp => ?_)
                            refine q_iald dX10_worked_238 e30 ?_
                            refine q_goto (tgt := 243) dX10_worked_239 (by decide) ?_
                            exact q_sub [1, 2, 3, 4, 0] rfl (okX10_worked_b243 ih hyp)
                        · have hyp := q_neg c25 hyp
                          refine q_iload 0 rfl dX10_worked_217 ?_
                          refine q_bipush (x := 100) (by decide) dX10_worked_219 ?_
                          refine q_isub dX10_worked_221 ?_
                          refine q_goto (tgt := 243) dX10_worked_222 (by decide) ?_
                          exact q_sub [1, 2, 3, 4, 0] rfl (okX10_worked_b243 ih hyp)
                      · have hyp := q_pos c24 hyp
                        exact q_sub [1, 2, 3, 4, 0] rfl (okX10_worked_b194 ih hyp)
                  · have hyp := q_pos c22 hyp
                    exact q_sub [1, 2, 3, 4, 0] rfl (okX10_worked_b137 ih hyp)
              · have hyp := q_pos c20 hyp
                refine q_aload_n 1 rfl dX10_worked_112 ?_
                refine q_bind hyp (fun x31 e32 hyp => ?_)
                refine q_getR kF_X10_69 dX10_worked_113 e32 ?_
                refine q_iload_n 3 rfl dX10_worked_116 ?_
                refine q_iload 0 rfl dX10_worked_117 ?_
                refine q_bind hyp (fun h33 e34 hyp => ?_)
                refine q_iast dX10_worked_119 e34 ?_
                refine q_goto (tgt := 329) dX10_worked_120 (by decide) ?_
                refine q_iinc (ls' := [(3, .int (v3 + 1)), (4, .int x14), (0, .ref v0), (1, .int v1), (2, .int v2)]) 4 rfl rfl (by decide) rfl dX10_worked_329 ?_
                refine q_goto (tgt := 14) dX10_worked_332 (by decide) ?_
                exact q_sub [2, 3, 4, 0] rfl (ih v0 v1 v2 (v3 + 1) h33 hyp)
            · have hyp := q_pos c19 hyp
              exact q_sub [1, 2, 3, 4, 0] rfl (okX10_worked_b89 ih hyp)
        · have hyp := q_pos c17 hyp
          exact q_sub [1, 2, 3, 4, 0] rfl (okX10_worked_b46 ih hyp)
def fX10_worked (n : Nat) (v0 : Nat) (v1 : Int32) (h : qH) : Option (Int32 × qH) :=
  (isO h v0 10).bind fun _ =>
  (fX10_opens v0 0 h).bind fun h1 =>
  (gR h1 v0 10 16).bind fun x2 =>
  (aI .int h1 x2 v1).bind fun x4 =>
  fX10_worked_b14 n n v0 v1 0 x4 h1
theorem obX10_worked {n : Nat} {v0 : Nat} {v1 : Int32} {h : qH} {p : Int32 × qH} (hyp : fX10_worked n v0 v1 h = some p) : ∃ fs, h.1 v0 = some (.inr (10, fs)) := by
  unfold fX10_worked at hyp
  exact q_bind hyp (fun _ e _ => isO_some e)
set_option maxHeartbeats 4000000 in
set_option maxRecDepth 100000 in
theorem okX10_worked {l : Launch} {n : Nat} {v0 : Nat} {v1 : Int32} {h : qH} {p : Int32 × qH} (hyp : fX10_worked n v0 v1 h = some p) : q_M l 3 yX10_worked cX10_worked 6 (some .int) [.ref v0, .int v1] h (some (.int p.1)) p.2 := by
  obtain ⟨r, h'⟩ := p
  unfold fX10_worked at hyp
  refine q_bind hyp (fun _ _ hyp => ?_)
  refine q_M.of (by decide) (Nat.le_of_ble_eq_true rfl) ?_
  refine q_to (ls' := [(0, .ref v0), (1, .int v1)]) (st' := []) rfl rfl ?_
  refine q_iconst (x := 0) rfl dX10_worked_0 ?_
  refine q_istore_n (ls' := [(2, .int 0), (0, .ref v0), (1, .int v1)]) (by decide) rfl dX10_worked_1 ?_
  refine q_aload_n 1 rfl dX10_worked_2 ?_
  refine q_iconst (x := 0) rfl dX10_worked_3 ?_
  refine q_bind hyp (fun h1 e6 hyp => ?_)
  refine q_callV (as := [.int 0]) (st := []) kY_X10_opens kL_X10_216 (okX10_opens (l := l) e6) (by decide) rfl (obX10_opens e6) (Nat.le_of_ble_eq_true rfl) dX10_worked_4 ?_
  refine q_to (ls' := [(2, .int 0), (0, .ref v0), (1, .int v1)]) (st' := []) rfl rfl ?_
  refine q_aload_n 1 rfl dX10_worked_7 ?_
  refine q_bind hyp (fun x2 e3 hyp => ?_)
  refine q_getR kF_X10_32 dX10_worked_8 e3 ?_
  refine q_iload_n 2 rfl dX10_worked_11 ?_
  refine q_bind hyp (fun x4 e5 hyp => ?_)
  refine q_iald dX10_worked_12 e5 ?_
  refine q_istore_n (ls' := [(3, .int x4), (2, .int 0), (0, .ref v0), (1, .int v1)]) (by decide) rfl dX10_worked_13 ?_
  exact q_sub [2, 3, 1, 0] rfl (okX10_worked_b14 _ v0 v1 0 x4 h1 hyp)
theorem dX10_takenBy_0 : decode cX10_takenBy 0 = .ok (.aload_n 0, 1) := by decide +kernel
theorem dX10_takenBy_1 : decode cX10_takenBy 1 = .ok (.getfield 35, 3) := by decide +kernel
theorem dX10_takenBy_4 : decode cX10_takenBy 4 = .ok (.iconst 0, 1) := by decide +kernel
theorem dX10_takenBy_5 : decode cX10_takenBy 5 = .ok (.iaload, 1) := by decide +kernel
theorem dX10_takenBy_6 : decode cX10_takenBy 6 = .ok (.aload_n 0, 1) := by decide +kernel
theorem dX10_takenBy_7 : decode cX10_takenBy 7 = .ok (.getfield 32, 3) := by decide +kernel
theorem dX10_takenBy_10 : decode cX10_takenBy 10 = .ok (.iconst 0, 1) := by decide +kernel
theorem dX10_takenBy_11 : decode cX10_takenBy 11 = .ok (.iaload, 1) := by decide +kernel
theorem dX10_takenBy_12 : decode cX10_takenBy 12 = .ok (.if_icmp .ne 10, 3) := by decide +kernel
theorem dX10_takenBy_15 : decode cX10_takenBy 15 = .ok (.aload_n 0, 1) := by decide +kernel
theorem dX10_takenBy_16 : decode cX10_takenBy 16 = .ok (.getfield 13, 3) := by decide +kernel
theorem dX10_takenBy_19 : decode cX10_takenBy 19 = .ok (.iconst 1, 1) := by decide +kernel
theorem dX10_takenBy_20 : decode cX10_takenBy 20 = .ok (.iaload, 1) := by decide +kernel
theorem dX10_takenBy_21 : decode cX10_takenBy 21 = .ok (.ireturn, 1) := by decide +kernel
theorem dX10_takenBy_22 : decode cX10_takenBy 22 = .ok (.aload_n 0, 1) := by decide +kernel
theorem dX10_takenBy_23 : decode cX10_takenBy 23 = .ok (.getfield 75, 3) := by decide +kernel
theorem dX10_takenBy_26 : decode cX10_takenBy 26 = .ok (.iconst 1, 1) := by decide +kernel
theorem dX10_takenBy_27 : decode cX10_takenBy 27 = .ok (.iload_n 2, 1) := by decide +kernel
theorem dX10_takenBy_28 : decode cX10_takenBy 28 = .ok (.iastore, 1) := by decide +kernel
theorem dX10_takenBy_29 : decode cX10_takenBy 29 = .ok (.aload_n 0, 1) := by decide +kernel
theorem dX10_takenBy_30 : decode cX10_takenBy 30 = .ok (.getfield 75, 3) := by decide +kernel
theorem dX10_takenBy_33 : decode cX10_takenBy 33 = .ok (.iconst 2, 1) := by decide +kernel
theorem dX10_takenBy_34 : decode cX10_takenBy 34 = .ok (.iload_n 3, 1) := by decide +kernel
theorem dX10_takenBy_35 : decode cX10_takenBy 35 = .ok (.iastore, 1) := by decide +kernel
theorem dX10_takenBy_36 : decode cX10_takenBy 36 = .ok (.aload_n 0, 1) := by decide +kernel
theorem dX10_takenBy_37 : decode cX10_takenBy 37 = .ok (.getfield 75, 3) := by decide +kernel
theorem dX10_takenBy_40 : decode cX10_takenBy 40 = .ok (.iconst 3, 1) := by decide +kernel
theorem dX10_takenBy_41 : decode cX10_takenBy 41 = .ok (.bipush 100, 2) := by decide +kernel
theorem dX10_takenBy_43 : decode cX10_takenBy 43 = .ok (.aload_n 0, 1) := by decide +kernel
theorem dX10_takenBy_44 : decode cX10_takenBy 44 = .ok (.getfield 23, 3) := by decide +kernel
theorem dX10_takenBy_47 : decode cX10_takenBy 47 = .ok (.iload_n 1, 1) := by decide +kernel
theorem dX10_takenBy_48 : decode cX10_takenBy 48 = .ok (.iaload, 1) := by decide +kernel
theorem dX10_takenBy_49 : decode cX10_takenBy 49 = .ok (.isub, 1) := by decide +kernel
theorem dX10_takenBy_50 : decode cX10_takenBy 50 = .ok (.aload_n 0, 1) := by decide +kernel
theorem dX10_takenBy_51 : decode cX10_takenBy 51 = .ok (.getfield 99, 3) := by decide +kernel
theorem dX10_takenBy_54 : decode cX10_takenBy 54 = .ok (.iconst 0, 1) := by decide +kernel
theorem dX10_takenBy_55 : decode cX10_takenBy 55 = .ok (.iaload, 1) := by decide +kernel
theorem dX10_takenBy_56 : decode cX10_takenBy 56 = .ok (.iadd, 1) := by decide +kernel
theorem dX10_takenBy_57 : decode cX10_takenBy 57 = .ok (.iastore, 1) := by decide +kernel
theorem dX10_takenBy_58 : decode cX10_takenBy 58 = .ok (.aload_n 0, 1) := by decide +kernel
theorem dX10_takenBy_59 : decode cX10_takenBy 59 = .ok (.getfield 75, 3) := by decide +kernel
theorem dX10_takenBy_62 : decode cX10_takenBy 62 = .ok (.iconst 4, 1) := by decide +kernel
theorem dX10_takenBy_63 : decode cX10_takenBy 63 = .ok (.aload_n 0, 1) := by decide +kernel
theorem dX10_takenBy_64 : decode cX10_takenBy 64 = .ok (.getfield 13, 3) := by decide +kernel
theorem dX10_takenBy_67 : decode cX10_takenBy 67 = .ok (.iconst 1, 1) := by decide +kernel
theorem dX10_takenBy_68 : decode cX10_takenBy 68 = .ok (.iaload, 1) := by decide +kernel
theorem dX10_takenBy_69 : decode cX10_takenBy 69 = .ok (.iastore, 1) := by decide +kernel
theorem dX10_takenBy_70 : decode cX10_takenBy 70 = .ok (.aload_n 0, 1) := by decide +kernel
theorem dX10_takenBy_71 : decode cX10_takenBy 71 = .ok (.iconst 0, 1) := by decide +kernel
theorem dX10_takenBy_72 : decode cX10_takenBy 72 = .ok (.invokevirtual 324, 3) := by decide +kernel
theorem dX10_takenBy_75 : decode cX10_takenBy 75 = .ok (.iconst 0, 1) := by decide +kernel
theorem dX10_takenBy_76 : decode cX10_takenBy 76 = .ok (.bipush 20, 2) := by decide +kernel
theorem dX10_takenBy_78 : decode cX10_takenBy 78 = .ok (.invokestatic 327, 3) := by decide +kernel
theorem dX10_takenBy_81 : decode cX10_takenBy 81 = .ok (.ireturn, 1) := by decide +kernel
def fX10_takenBy (n : Nat) (v0 : Nat) (v1 : Int32) (v2 : Int32) (v3 : Int32) (h : qH) : Option (Int32 × qH) :=
  (isO h v0 10).bind fun _ =>
  (gR h v0 10 17).bind fun x1 =>
  (aI .int h x1 0).bind fun x3 =>
  (gR h v0 10 16).bind fun x5 =>
  (aI .int h x5 0).bind fun x7 =>
  if x3 = x7 then
  ((gR h v0 10 10).bind fun x42 =>
  (aI .int h x42 1).bind fun x44 =>
  some (x44, h))
  else
  ((gR h v0 10 32).bind fun x10 =>
  (sI .int h x10 1 v2).bind fun h12 =>
  (gR h12 v0 10 32).bind fun x14 =>
  (sI .int h12 x14 2 v3).bind fun h16 =>
  (gR h16 v0 10 32).bind fun x18 =>
  (gR h16 v0 10 13).bind fun x20 =>
  (aI .int h16 x20 v1).bind fun x22 =>
  (gR h16 v0 10 41).bind fun x24 =>
  (aI .int h16 x24 0).bind fun x26 =>
  (sI .int h16 x18 3 ((100 - x22) + x26)).bind fun h28 =>
  (gR h28 v0 10 32).bind fun x30 =>
  (gR h28 v0 10 10).bind fun x32 =>
  (aI .int h28 x32 1).bind fun x34 =>
  (sI .int h28 x30 4 x34).bind fun h36 =>
  (fX10_worked n v0 0 h36).bind fun p38 =>
  (fX10_between p38.1 0 20 p38.2).bind fun p39 =>
  some (p39.1, p39.2))
theorem obX10_takenBy {n : Nat} {v0 : Nat} {v1 : Int32} {v2 : Int32} {v3 : Int32} {h : qH} {p : Int32 × qH} (hyp : fX10_takenBy n v0 v1 v2 v3 h = some p) : ∃ fs, h.1 v0 = some (.inr (10, fs)) := by
  unfold fX10_takenBy at hyp
  exact q_bind hyp (fun _ e _ => isO_some e)
set_option maxHeartbeats 4000000 in
set_option maxRecDepth 100000 in
theorem okX10_takenBy {l : Launch} {n : Nat} {v0 : Nat} {v1 : Int32} {v2 : Int32} {v3 : Int32} {h : qH} {p : Int32 × qH} (hyp : fX10_takenBy n v0 v1 v2 v3 h = some p) : q_M l 4 yX10_takenBy cX10_takenBy 4 (some .int) [.ref v0, .int v1, .int v2, .int v3] h (some (.int p.1)) p.2 := by
  obtain ⟨r, h'⟩ := p
  unfold fX10_takenBy at hyp
  refine q_bind hyp (fun _ _ hyp => ?_)
  refine q_M.of (by decide) (Nat.le_of_ble_eq_true rfl) ?_
  refine q_to (ls' := [(0, .ref v0), (1, .int v1), (2, .int v2), (3, .int v3)]) (st' := []) rfl rfl ?_
  refine q_aload_n 0 rfl dX10_takenBy_0 ?_
  refine q_bind hyp (fun x1 e2 hyp => ?_)
  refine q_getR kF_X10_35 dX10_takenBy_1 e2 ?_
  refine q_iconst (x := 0) rfl dX10_takenBy_4 ?_
  refine q_bind hyp (fun x3 e4 hyp => ?_)
  refine q_iald dX10_takenBy_5 e4 ?_
  refine q_aload_n 0 rfl dX10_takenBy_6 ?_
  refine q_bind hyp (fun x5 e6 hyp => ?_)
  refine q_getR kF_X10_32 dX10_takenBy_7 e6 ?_
  refine q_iconst (x := 0) rfl dX10_takenBy_10 ?_
  refine q_bind hyp (fun x7 e8 hyp => ?_)
  refine q_iald dX10_takenBy_11 e8 ?_
  refine q_icmp_ne (tgt := 22) dX10_takenBy_12 (by decide) (fun c9 => ?_) (fun c9 => ?_)
  · have hyp := q_neg c9 hyp
    refine q_aload_n 0 rfl dX10_takenBy_22 ?_
    refine q_bind hyp (fun x10 e11 hyp => ?_)
    refine q_getR kF_X10_75 dX10_takenBy_23 e11 ?_
    refine q_iconst (x := 1) rfl dX10_takenBy_26 ?_
    refine q_iload_n 2 rfl dX10_takenBy_27 ?_
    refine q_bind hyp (fun h12 e13 hyp => ?_)
    refine q_iast dX10_takenBy_28 e13 ?_
    refine q_aload_n 0 rfl dX10_takenBy_29 ?_
    refine q_bind hyp (fun x14 e15 hyp => ?_)
    refine q_getR kF_X10_75 dX10_takenBy_30 e15 ?_
    refine q_iconst (x := 2) rfl dX10_takenBy_33 ?_
    refine q_iload_n 3 rfl dX10_takenBy_34 ?_
    refine q_bind hyp (fun h16 e17 hyp => ?_)
    refine q_iast dX10_takenBy_35 e17 ?_
    refine q_aload_n 0 rfl dX10_takenBy_36 ?_
    refine q_bind hyp (fun x18 e19 hyp => ?_)
    refine q_getR kF_X10_75 dX10_takenBy_37 e19 ?_
    refine q_iconst (x := 3) rfl dX10_takenBy_40 ?_
    refine q_bipush (x := 100) (by decide) dX10_takenBy_41 ?_
    refine q_aload_n 0 rfl dX10_takenBy_43 ?_
    refine q_bind hyp (fun x20 e21 hyp => ?_)
    refine q_getR kF_X10_23 dX10_takenBy_44 e21 ?_
    refine q_iload_n 1 rfl dX10_takenBy_47 ?_
    refine q_bind hyp (fun x22 e23 hyp => ?_)
    refine q_iald dX10_takenBy_48 e23 ?_
    refine q_isub dX10_takenBy_49 ?_
    refine q_aload_n 0 rfl dX10_takenBy_50 ?_
    refine q_bind hyp (fun x24 e25 hyp => ?_)
    refine q_getR kF_X10_99 dX10_takenBy_51 e25 ?_
    refine q_iconst (x := 0) rfl dX10_takenBy_54 ?_
    refine q_bind hyp (fun x26 e27 hyp => ?_)
    refine q_iald dX10_takenBy_55 e27 ?_
    refine q_iadd dX10_takenBy_56 ?_
    refine q_bind hyp (fun h28 e29 hyp => ?_)
    refine q_iast dX10_takenBy_57 e29 ?_
    refine q_aload_n 0 rfl dX10_takenBy_58 ?_
    refine q_bind hyp (fun x30 e31 hyp => ?_)
    refine q_getR kF_X10_75 dX10_takenBy_59 e31 ?_
    refine q_iconst (x := 4) rfl dX10_takenBy_62 ?_
    refine q_aload_n 0 rfl dX10_takenBy_63 ?_
    refine q_bind hyp (fun x32 e33 hyp => ?_)
    refine q_getR kF_X10_13 dX10_takenBy_64 e33 ?_
    refine q_iconst (x := 1) rfl dX10_takenBy_67 ?_
    refine q_bind hyp (fun x34 e35 hyp => ?_)
    refine q_iald dX10_takenBy_68 e35 ?_
    refine q_bind hyp (fun h36 e37 hyp => ?_)
    refine q_iast dX10_takenBy_69 e37 ?_
    refine q_aload_n 0 rfl dX10_takenBy_70 ?_
    refine q_iconst (x := 0) rfl dX10_takenBy_71 ?_
    refine q_bind hyp (fun p38 e41 hyp => ?_)
    refine q_callV (as := [.int 0]) (st := []) kY_X10_worked kL_X10_324 (okX10_worked (l := l) e41) (by decide) rfl (obX10_worked e41) (Nat.le_of_ble_eq_true rfl) dX10_takenBy_72 ?_
    refine q_to (ls' := [(0, .ref v0), (1, .int v1), (2, .int v2), (3, .int v3)]) (st' := [.int p38.1]) rfl rfl ?_
    refine q_iconst (x := 0) rfl dX10_takenBy_75 ?_
    refine q_bipush (x := 20) (by decide) dX10_takenBy_76 ?_
    refine q_bind hyp (fun p39 e40 hyp => ?_)
    refine q_callS (as := [.int p38.1, .int 0, .int 20]) (st := []) kY_X10_between kS_X10_between kL_X10_327 (okX10_between (l := l) e40) (by decide) rfl (Nat.le_of_ble_eq_true rfl) dX10_takenBy_78 ?_
    refine q_to (ls' := [(0, .ref v0), (1, .int v1), (2, .int v2), (3, .int v3)]) (st' := [.int p39.1]) rfl rfl ?_
    exact q_iretH rfl rfl dX10_takenBy_81 hyp
  · have hyp := q_pos c9 hyp
    refine q_aload_n 0 rfl dX10_takenBy_15 ?_
    refine q_bind hyp (fun x42 e43 hyp => ?_)
    refine q_getR kF_X10_13 dX10_takenBy_16 e43 ?_
    refine q_iconst (x := 1) rfl dX10_takenBy_19 ?_
    refine q_bind hyp (fun x44 e45 hyp => ?_)
    refine q_iald dX10_takenBy_20 e45 ?_
    exact q_iretH rfl rfl dX10_takenBy_21 hyp
theorem dX10_wantsOf_0 : decode cX10_wantsOf 0 = .ok (.aload_n 0, 1) := by decide +kernel
theorem dX10_wantsOf_1 : decode cX10_wantsOf 1 = .ok (.getfield 99, 3) := by decide +kernel
theorem dX10_wantsOf_4 : decode cX10_wantsOf 4 = .ok (.iconst 2, 1) := by decide +kernel
theorem dX10_wantsOf_5 : decode cX10_wantsOf 5 = .ok (.iload_n 1, 1) := by decide +kernel
theorem dX10_wantsOf_6 : decode cX10_wantsOf 6 = .ok (.iadd, 1) := by decide +kernel
theorem dX10_wantsOf_7 : decode cX10_wantsOf 7 = .ok (.iaload, 1) := by decide +kernel
theorem dX10_wantsOf_8 : decode cX10_wantsOf 8 = .ok (.istore_n 2, 1) := by decide +kernel
theorem dX10_wantsOf_9 : decode cX10_wantsOf 9 = .ok (.iconst 0, 1) := by decide +kernel
theorem dX10_wantsOf_10 : decode cX10_wantsOf 10 = .ok (.istore_n 3, 1) := by decide +kernel
theorem dX10_wantsOf_11 : decode cX10_wantsOf 11 = .ok (.iload_n 2, 1) := by decide +kernel
theorem dX10_wantsOf_12 : decode cX10_wantsOf 12 = .ok (.ifCond .le 49, 3) := by decide +kernel
theorem dX10_wantsOf_15 : decode cX10_wantsOf 15 = .ok (.iload_n 3, 1) := by decide +kernel
theorem dX10_wantsOf_16 : decode cX10_wantsOf 16 = .ok (.bipush 40, 2) := by decide +kernel
theorem dX10_wantsOf_18 : decode cX10_wantsOf 18 = .ok (.if_icmp .gt 43, 3) := by decide +kernel
theorem dX10_wantsOf_21 : decode cX10_wantsOf 21 = .ok (.aload_n 0, 1) := by decide +kernel
theorem dX10_wantsOf_22 : decode cX10_wantsOf 22 = .ok (.getfield 20, 3) := by decide +kernel
theorem dX10_wantsOf_25 : decode cX10_wantsOf 25 = .ok (.iload_n 1, 1) := by decide +kernel
theorem dX10_wantsOf_26 : decode cX10_wantsOf 26 = .ok (.iaload, 1) := by decide +kernel
theorem dX10_wantsOf_27 : decode cX10_wantsOf 27 = .ok (.iconst 3, 1) := by decide +kernel
theorem dX10_wantsOf_28 : decode cX10_wantsOf 28 = .ok (.if_icmp .eq 33, 3) := by decide +kernel
theorem dX10_wantsOf_31 : decode cX10_wantsOf 31 = .ok (.iconst 0, 1) := by decide +kernel
theorem dX10_wantsOf_32 : decode cX10_wantsOf 32 = .ok (.iload_n 2, 1) := by decide +kernel
theorem dX10_wantsOf_33 : decode cX10_wantsOf 33 = .ok (.aload_n 0, 1) := by decide +kernel
theorem dX10_wantsOf_34 : decode cX10_wantsOf 34 = .ok (.iload_n 1, 1) := by decide +kernel
theorem dX10_wantsOf_35 : decode cX10_wantsOf 35 = .ok (.iload_n 2, 1) := by decide +kernel
theorem dX10_wantsOf_36 : decode cX10_wantsOf 36 = .ok (.aload_n 0, 1) := by decide +kernel
theorem dX10_wantsOf_37 : decode cX10_wantsOf 37 = .ok (.getfield 99, 3) := by decide +kernel
theorem dX10_wantsOf_40 : decode cX10_wantsOf 40 = .ok (.bipush 9, 2) := by decide +kernel
theorem dX10_wantsOf_42 : decode cX10_wantsOf 42 = .ok (.iload_n 1, 1) := by decide +kernel
theorem dX10_wantsOf_43 : decode cX10_wantsOf 43 = .ok (.iadd, 1) := by decide +kernel
theorem dX10_wantsOf_44 : decode cX10_wantsOf 44 = .ok (.iaload, 1) := by decide +kernel
theorem dX10_wantsOf_45 : decode cX10_wantsOf 45 = .ok (.iload_n 3, 1) := by decide +kernel
theorem dX10_wantsOf_46 : decode cX10_wantsOf 46 = .ok (.iadd, 1) := by decide +kernel
theorem dX10_wantsOf_47 : decode cX10_wantsOf 47 = .ok (.invokevirtual 334, 3) := by decide +kernel
theorem dX10_wantsOf_50 : decode cX10_wantsOf 50 = .ok (.isub, 1) := by decide +kernel
theorem dX10_wantsOf_51 : decode cX10_wantsOf 51 = .ok (.invokestatic 337, 3) := by decide +kernel
theorem dX10_wantsOf_54 : decode cX10_wantsOf 54 = .ok (.istore_n 2, 1) := by decide +kernel
theorem dX10_wantsOf_55 : decode cX10_wantsOf 55 = .ok (.iinc 3 1, 3) := by decide +kernel
theorem dX10_wantsOf_58 : decode cX10_wantsOf 58 = .ok (.goto (-47), 3) := by decide +kernel
theorem dX10_wantsOf_61 : decode cX10_wantsOf 61 = .ok (.iload_n 2, 1) := by decide +kernel
theorem dX10_wantsOf_62 : decode cX10_wantsOf 62 = .ok (.ifCond .gt 9, 3) := by decide +kernel
theorem dX10_wantsOf_65 : decode cX10_wantsOf 65 = .ok (.iload_n 3, 1) := by decide +kernel
theorem dX10_wantsOf_66 : decode cX10_wantsOf 66 = .ok (.bipush 40, 2) := by decide +kernel
theorem dX10_wantsOf_68 : decode cX10_wantsOf 68 = .ok (.if_icmp .le 7, 3) := by decide +kernel
theorem dX10_wantsOf_71 : decode cX10_wantsOf 71 = .ok (.iconst (-1), 1) := by decide +kernel
theorem dX10_wantsOf_72 : decode cX10_wantsOf 72 = .ok (.goto 4, 3) := by decide +kernel
theorem dX10_wantsOf_75 : decode cX10_wantsOf 75 = .ok (.iload_n 3, 1) := by decide +kernel
theorem dX10_wantsOf_76 : decode cX10_wantsOf 76 = .ok (.ireturn, 1) := by decide +kernel
def fX10_wantsOf_b61 (n : Nat) (v2 : Int32) (v3 : Int32) (h : qH) : Option (Int32 × qH) :=
  if 0 < v2 then
  (some ((-1), h))
  else
  (if v3 ≤ 40 then
  (some (v3, h))
  else
  (some ((-1), h)))
set_option maxHeartbeats 4000000 in
set_option maxRecDepth 100000 in
theorem okX10_wantsOf_b61 {l : Launch} {n : Nat} {v2 : Int32} {v3 : Int32} {h : qH} {r : Int32} {h' : qH} (hyp : fX10_wantsOf_b61 n v2 v3 h = some (r, h')) : q_W l 5 yX10_wantsOf cX10_wantsOf 4 (some .int) (some (.int r)) h' 61 [(2, .int v2), (3, .int v3)] [] h := by
  unfold fX10_wantsOf_b61 at hyp
  refine q_iload_n 0 rfl dX10_wantsOf_61 ?_
  refine q_if_gt (tgt := 71) dX10_wantsOf_62 (by decide) (fun c1 => ?_) (fun c1 => ?_)
  · have hyp := q_pos c1 hyp
    refine q_iconst (x := (-1)) rfl dX10_wantsOf_71 ?_
    refine q_goto (tgt := 76) dX10_wantsOf_72 (by decide) ?_
    exact q_iretH rfl rfl dX10_wantsOf_76 hyp
  · have hyp := q_neg c1 hyp
    refine q_iload_n 1 rfl dX10_wantsOf_65 ?_
    refine q_bipush (x := 40) (by decide) dX10_wantsOf_66 ?_
    refine q_icmp_le (tgt := 75) dX10_wantsOf_68 (by decide) (fun c2 => ?_) (fun c2 => ?_)
    · have hyp := q_pos c2 hyp
      refine q_iload_n 1 rfl dX10_wantsOf_75 ?_
      exact q_iretH rfl rfl dX10_wantsOf_76 hyp
    · have hyp := q_neg c2 hyp
      refine q_iconst (x := (-1)) rfl dX10_wantsOf_71 ?_
      refine q_goto (tgt := 76) dX10_wantsOf_72 (by decide) ?_
      exact q_iretH rfl rfl dX10_wantsOf_76 hyp
def fX10_wantsOf_b11 (n : Nat) : Nat → Nat → Int32 → Int32 → Int32 → qH → Option (Int32 × qH)
  | 0, _, _, _, _, _ => none
  | w + 1, v0, v1, v2, v3, h =>
    if v2 ≤ 0 then
    (fX10_wantsOf_b61 n v2 v3 h)
    else
    (if 40 < v3 then
    (fX10_wantsOf_b61 n v2 v3 h)
    else
    ((gR h v0 10 12).bind fun x3 =>
    (aI .int h x3 v1).bind fun x5 =>
    if x5 = 3 then
    (fX10_wantsOf_b61 n v2 v3 h)
    else
    ((gR h v0 10 41).bind fun x8 =>
    (aI .int h x8 (9 + v1)).bind fun x10 =>
    (fX10_takenBy n v0 v1 v2 (x10 + v3) h).bind fun p12 =>
    fX10_wantsOf_b11 n w v0 v1 (if (0 : Int32) < (v2 - p12.1) then (v2 - p12.1) else (0 : Int32)) (v3 + 1) p12.2)))
set_option maxHeartbeats 4000000 in
set_option maxRecDepth 100000 in
theorem okX10_wantsOf_b11 {l : Launch} {n : Nat} {r : Int32} {h' : qH} : ∀ (w : Nat) (v0 : Nat) (v1 : Int32) (v2 : Int32) (v3 : Int32) (h : qH), fX10_wantsOf_b11 n w v0 v1 v2 v3 h = some (r, h') → q_W l 5 yX10_wantsOf cX10_wantsOf 4 (some .int) (some (.int r)) h' 11 [(0, .ref v0), (1, .int v1), (2, .int v2), (3, .int v3)] [] h := by
  intro w
  induction w with
  | zero => intro v0 v1 v2 v3 h hyp; cases hyp
  | succ w ih =>
    intro v0 v1 v2 v3 h hyp
    unfold fX10_wantsOf_b11 at hyp
    refine q_iload_n 2 rfl dX10_wantsOf_11 ?_
    refine q_if_le (tgt := 61) dX10_wantsOf_12 (by decide) (fun c1 => ?_) (fun c1 => ?_)
    · have hyp := q_pos c1 hyp
      exact q_sub [2, 3] rfl (okX10_wantsOf_b61 hyp)
    · have hyp := q_neg c1 hyp
      refine q_iload_n 3 rfl dX10_wantsOf_15 ?_
      refine q_bipush (x := 40) (by decide) dX10_wantsOf_16 ?_
      refine q_icmp_gt (tgt := 61) dX10_wantsOf_18 (by decide) (fun c2 => ?_) (fun c2 => ?_)
      · have hyp := q_pos c2 hyp
        exact q_sub [2, 3] rfl (okX10_wantsOf_b61 hyp)
      · have hyp := q_neg c2 hyp
        refine q_aload_n 0 rfl dX10_wantsOf_21 ?_
        refine q_bind hyp (fun x3 e4 hyp => ?_)
        refine q_getR kF_X10_20 dX10_wantsOf_22 e4 ?_
        refine q_iload_n 1 rfl dX10_wantsOf_25 ?_
        refine q_bind hyp (fun x5 e6 hyp => ?_)
        refine q_iald dX10_wantsOf_26 e6 ?_
        refine q_iconst (x := 3) rfl dX10_wantsOf_27 ?_
        refine q_icmp_eq (tgt := 61) dX10_wantsOf_28 (by decide) (fun c7 => ?_) (fun c7 => ?_)
        · have hyp := q_pos c7 hyp
          exact q_sub [2, 3] rfl (okX10_wantsOf_b61 hyp)
        · have hyp := q_neg c7 hyp
          refine q_iconst (x := 0) rfl dX10_wantsOf_31 ?_
          refine q_iload_n 2 rfl dX10_wantsOf_32 ?_
          refine q_aload_n 0 rfl dX10_wantsOf_33 ?_
          refine q_iload_n 1 rfl dX10_wantsOf_34 ?_
          refine q_iload_n 2 rfl dX10_wantsOf_35 ?_
          refine q_aload_n 0 rfl dX10_wantsOf_36 ?_
          refine q_bind hyp (fun x8 e9 hyp => ?_)
          refine q_getR kF_X10_99 dX10_wantsOf_37 e9 ?_
          refine q_bipush (x := 9) (by decide) dX10_wantsOf_40 ?_
          refine q_iload_n 1 rfl dX10_wantsOf_42 ?_
          refine q_iadd dX10_wantsOf_43 ?_
          refine q_bind hyp (fun x10 e11 hyp => ?_)
          refine q_iald dX10_wantsOf_44 e11 ?_
          refine q_iload_n 3 rfl dX10_wantsOf_45 ?_
          refine q_iadd dX10_wantsOf_46 ?_
          refine q_bind hyp (fun p12 e13 hyp => ?_)
          refine q_callV (as := [.int v1, .int v2, .int (x10 + v3)]) (st := [.int v2, .int 0]) kY_X10_takenBy kL_X10_334 (okX10_takenBy (l := l) e13) (by decide) rfl (obX10_takenBy e13) (Nat.le_of_ble_eq_true rfl) dX10_wantsOf_47 ?_
          refine q_to (ls' := [(0, .ref v0), (1, .int v1), (2, .int v2), (3, .int v3)]) (st' := [.int p12.1, .int v2, .int 0]) rfl rfl ?_
          refine q_isub dX10_wantsOf_50 ?_
          refine q_max kL_X10_337 kS_max kZ_math kD_max (by decide) (Nat.le_of_ble_eq_true rfl) dX10_wantsOf_51 ?_
          refine q_istore_n (ls' := [(2, .int (if (0 : Int32) < (v2 - p12.1) then (v2 - p12.1) else (0 : Int32))), (0, .ref v0), (1, .int v1), (3, .int v3)]) (by decide) rfl dX10_wantsOf_54 ?_
          refine q_iinc (ls' := [(3, .int (v3 + 1)), (2, .int (if (0 : Int32) < (v2 - p12.1) then (v2 - p12.1) else (0 : Int32))), (0, .ref v0), (1, .int v1)]) 3 rfl rfl (by decide) rfl dX10_wantsOf_55 ?_
          refine q_goto (tgt := 11) dX10_wantsOf_58 (by decide) ?_
          exact q_sub [2, 3, 1, 0] rfl (ih v0 v1 (if (0 : Int32) < (v2 - p12.1) then (v2 - p12.1) else (0 : Int32)) (v3 + 1) p12.2 hyp)
def fX10_wantsOf (n : Nat) (v0 : Nat) (v1 : Int32) (h : qH) : Option (Int32 × qH) :=
  (isO h v0 10).bind fun _ =>
  (gR h v0 10 41).bind fun x1 =>
  (aI .int h x1 (2 + v1)).bind fun x3 =>
  fX10_wantsOf_b11 n n v0 v1 x3 0 h
theorem obX10_wantsOf {n : Nat} {v0 : Nat} {v1 : Int32} {h : qH} {p : Int32 × qH} (hyp : fX10_wantsOf n v0 v1 h = some p) : ∃ fs, h.1 v0 = some (.inr (10, fs)) := by
  unfold fX10_wantsOf at hyp
  exact q_bind hyp (fun _ e _ => isO_some e)
set_option maxHeartbeats 4000000 in
set_option maxRecDepth 100000 in
theorem okX10_wantsOf {l : Launch} {n : Nat} {v0 : Nat} {v1 : Int32} {h : qH} {p : Int32 × qH} (hyp : fX10_wantsOf n v0 v1 h = some p) : q_M l 5 yX10_wantsOf cX10_wantsOf 4 (some .int) [.ref v0, .int v1] h (some (.int p.1)) p.2 := by
  obtain ⟨r, h'⟩ := p
  unfold fX10_wantsOf at hyp
  refine q_bind hyp (fun _ _ hyp => ?_)
  refine q_M.of (by decide) (Nat.le_of_ble_eq_true rfl) ?_
  refine q_to (ls' := [(0, .ref v0), (1, .int v1)]) (st' := []) rfl rfl ?_
  refine q_aload_n 0 rfl dX10_wantsOf_0 ?_
  refine q_bind hyp (fun x1 e2 hyp => ?_)
  refine q_getR kF_X10_99 dX10_wantsOf_1 e2 ?_
  refine q_iconst (x := 2) rfl dX10_wantsOf_4 ?_
  refine q_iload_n 1 rfl dX10_wantsOf_5 ?_
  refine q_iadd dX10_wantsOf_6 ?_
  refine q_bind hyp (fun x3 e4 hyp => ?_)
  refine q_iald dX10_wantsOf_7 e4 ?_
  refine q_istore_n (ls' := [(2, .int x3), (0, .ref v0), (1, .int v1)]) (by decide) rfl dX10_wantsOf_8 ?_
  refine q_iconst (x := 0) rfl dX10_wantsOf_9 ?_
  refine q_istore_n (ls' := [(3, .int 0), (2, .int x3), (0, .ref v0), (1, .int v1)]) (by decide) rfl dX10_wantsOf_10 ?_
  exact q_sub [2, 3, 1, 0] rfl (okX10_wantsOf_b11 _ v0 v1 x3 0 h hyp)
theorem dX10_costOf_0 : decode cX10_costOf 0 = .ok (.aload_n 0, 1) := by decide +kernel
theorem dX10_costOf_1 : decode cX10_costOf 1 = .ok (.iload_n 1, 1) := by decide +kernel
theorem dX10_costOf_2 : decode cX10_costOf 2 = .ok (.invokevirtual 380, 3) := by decide +kernel
theorem dX10_costOf_5 : decode cX10_costOf 5 = .ok (.istore_n 2, 1) := by decide +kernel
theorem dX10_costOf_6 : decode cX10_costOf 6 = .ok (.iload_n 2, 1) := by decide +kernel
theorem dX10_costOf_7 : decode cX10_costOf 7 = .ok (.ifCond .ge 9, 3) := by decide +kernel
theorem dX10_costOf_10 : decode cX10_costOf 10 = .ok (.ldc_w 383, 3) := by decide +kernel
theorem dX10_costOf_13 : decode cX10_costOf 13 = .ok (.goto 10, 3) := by decide +kernel
theorem dX10_costOf_16 : decode cX10_costOf 16 = .ok (.iload_n 2, 1) := by decide +kernel
theorem dX10_costOf_17 : decode cX10_costOf 17 = .ok (.aload_n 0, 1) := by decide +kernel
theorem dX10_costOf_18 : decode cX10_costOf 18 = .ok (.iload_n 1, 1) := by decide +kernel
theorem dX10_costOf_19 : decode cX10_costOf 19 = .ok (.invokevirtual 331, 3) := by decide +kernel
theorem dX10_costOf_22 : decode cX10_costOf 22 = .ok (.imul, 1) := by decide +kernel
theorem dX10_costOf_23 : decode cX10_costOf 23 = .ok (.ireturn, 1) := by decide +kernel
def fX10_costOf (n : Nat) (v0 : Nat) (v1 : Int32) (h : qH) : Option (Int32 × qH) :=
  (isO h v0 10).bind fun _ =>
  (fX10_wantsOf n v0 v1 h).bind fun p1 =>
  if 0 ≤ p1.1 then
  ((fX10_priceOf v0 v1 p1.2).bind fun p3 =>
  some (p1.1 * p3.1, p3.2))
  else
  (some (1000000, p1.2))
theorem obX10_costOf {n : Nat} {v0 : Nat} {v1 : Int32} {h : qH} {p : Int32 × qH} (hyp : fX10_costOf n v0 v1 h = some p) : ∃ fs, h.1 v0 = some (.inr (10, fs)) := by
  unfold fX10_costOf at hyp
  exact q_bind hyp (fun _ e _ => isO_some e)
set_option maxHeartbeats 4000000 in
set_option maxRecDepth 100000 in
theorem okX10_costOf {l : Launch} {n : Nat} {v0 : Nat} {v1 : Int32} {h : qH} {p : Int32 × qH} (hyp : fX10_costOf n v0 v1 h = some p) : q_M l 6 yX10_costOf cX10_costOf 3 (some .int) [.ref v0, .int v1] h (some (.int p.1)) p.2 := by
  obtain ⟨r, h'⟩ := p
  unfold fX10_costOf at hyp
  refine q_bind hyp (fun _ _ hyp => ?_)
  refine q_M.of (by decide) (Nat.le_of_ble_eq_true rfl) ?_
  refine q_to (ls' := [(0, .ref v0), (1, .int v1)]) (st' := []) rfl rfl ?_
  refine q_aload_n 0 rfl dX10_costOf_0 ?_
  refine q_iload_n 1 rfl dX10_costOf_1 ?_
  refine q_bind hyp (fun p1 e5 hyp => ?_)
  refine q_callV (as := [.int v1]) (st := []) kY_X10_wantsOf kL_X10_380 (okX10_wantsOf (l := l) e5) (by decide) rfl (obX10_wantsOf e5) (Nat.le_of_ble_eq_true rfl) dX10_costOf_2 ?_
  refine q_to (ls' := [(0, .ref v0), (1, .int v1)]) (st' := [.int p1.1]) rfl rfl ?_
  refine q_istore_n (ls' := [(2, .int p1.1), (0, .ref v0), (1, .int v1)]) (by decide) rfl dX10_costOf_5 ?_
  refine q_iload_n 0 rfl dX10_costOf_6 ?_
  refine q_if_ge (tgt := 16) dX10_costOf_7 (by decide) (fun c2 => ?_) (fun c2 => ?_)
  · have hyp := q_pos c2 hyp
    refine q_iload_n 0 rfl dX10_costOf_16 ?_
    refine q_aload_n 1 rfl dX10_costOf_17 ?_
    refine q_iload_n 2 rfl dX10_costOf_18 ?_
    refine q_bind hyp (fun p3 e4 hyp => ?_)
    refine q_callV (as := [.int v1]) (st := [.int p1.1]) kY_X10_priceOf kL_X10_331 (okX10_priceOf (l := l) e4) (by decide) rfl (obX10_priceOf e4) (Nat.le_of_ble_eq_true rfl) dX10_costOf_19 ?_
    refine q_to (ls' := [(2, .int p1.1), (0, .ref v0), (1, .int v1)]) (st' := [.int p3.1, .int p1.1]) rfl rfl ?_
    refine q_imul dX10_costOf_22 ?_
    exact q_iretH rfl rfl dX10_costOf_23 hyp
  · have hyp := q_neg c2 hyp
    refine q_ldcw kK_X10_383 dX10_costOf_10 ?_
    refine q_goto (tgt := 23) dX10_costOf_13 (by decide) ?_
    exact q_iretH rfl rfl dX10_costOf_23 hyp
theorem dX10_laysCosts_0 : decode cX10_laysCosts 0 = .ok (.iconst 0, 1) := by decide +kernel
theorem dX10_laysCosts_1 : decode cX10_laysCosts 1 = .ok (.istore_n 1, 1) := by decide +kernel
theorem dX10_laysCosts_2 : decode cX10_laysCosts 2 = .ok (.iload_n 1, 1) := by decide +kernel
theorem dX10_laysCosts_3 : decode cX10_laysCosts 3 = .ok (.aload_n 0, 1) := by decide +kernel
theorem dX10_laysCosts_4 : decode cX10_laysCosts 4 = .ok (.getfield 13, 3) := by decide +kernel
theorem dX10_laysCosts_7 : decode cX10_laysCosts 7 = .ok (.iconst 0, 1) := by decide +kernel
theorem dX10_laysCosts_8 : decode cX10_laysCosts 8 = .ok (.iaload, 1) := by decide +kernel
theorem dX10_laysCosts_9 : decode cX10_laysCosts 9 = .ok (.if_icmp .ge 20, 3) := by decide +kernel
theorem dX10_laysCosts_12 : decode cX10_laysCosts 12 = .ok (.aload_n 0, 1) := by decide +kernel
theorem dX10_laysCosts_13 : decode cX10_laysCosts 13 = .ok (.getfield 120, 3) := by decide +kernel
theorem dX10_laysCosts_16 : decode cX10_laysCosts 16 = .ok (.iload_n 1, 1) := by decide +kernel
theorem dX10_laysCosts_17 : decode cX10_laysCosts 17 = .ok (.aload_n 0, 1) := by decide +kernel
theorem dX10_laysCosts_18 : decode cX10_laysCosts 18 = .ok (.iload_n 1, 1) := by decide +kernel
theorem dX10_laysCosts_19 : decode cX10_laysCosts 19 = .ok (.invokevirtual 384, 3) := by decide +kernel
theorem dX10_laysCosts_22 : decode cX10_laysCosts 22 = .ok (.iastore, 1) := by decide +kernel
theorem dX10_laysCosts_23 : decode cX10_laysCosts 23 = .ok (.iinc 1 1, 3) := by decide +kernel
theorem dX10_laysCosts_26 : decode cX10_laysCosts 26 = .ok (.goto (-24), 3) := by decide +kernel
theorem dX10_laysCosts_29 : decode cX10_laysCosts 29 = .ok (.return_, 1) := by decide +kernel
def fX10_laysCosts_b2 (n : Nat) : Nat → Nat → Int32 → qH → Option (qH)
  | 0, _, _, _ => none
  | w + 1, v0, v1, h =>
    (gR h v0 10 10).bind fun x1 =>
    (aI .int h x1 0).bind fun x3 =>
    if x3 ≤ v1 then
    (some h)
    else
    ((gR h v0 10 49).bind fun x6 =>
    (fX10_costOf n v0 v1 h).bind fun p8 =>
    (sI .int p8.2 x6 v1 p8.1).bind fun h9 =>
    fX10_laysCosts_b2 n w v0 (v1 + 1) h9)
set_option maxHeartbeats 4000000 in
set_option maxRecDepth 100000 in
theorem okX10_laysCosts_b2 {l : Launch} {n : Nat} {h' : qH} : ∀ (w : Nat) (v0 : Nat) (v1 : Int32) (h : qH), fX10_laysCosts_b2 n w v0 v1 h = some h' → q_W l 7 yX10_laysCosts cX10_laysCosts 2 none none h' 2 [(0, .ref v0), (1, .int v1)] [] h := by
  intro w
  induction w with
  | zero => intro v0 v1 h hyp; cases hyp
  | succ w ih =>
    intro v0 v1 h hyp
    unfold fX10_laysCosts_b2 at hyp
    refine q_iload_n 1 rfl dX10_laysCosts_2 ?_
    refine q_aload_n 0 rfl dX10_laysCosts_3 ?_
    refine q_bind hyp (fun x1 e2 hyp => ?_)
    refine q_getR kF_X10_13 dX10_laysCosts_4 e2 ?_
    refine q_iconst (x := 0) rfl dX10_laysCosts_7 ?_
    refine q_bind hyp (fun x3 e4 hyp => ?_)
    refine q_iald dX10_laysCosts_8 e4 ?_
    refine q_icmp_ge (tgt := 29) dX10_laysCosts_9 (by decide) (fun c5 => ?_) (fun c5 => ?_)
    · have hyp := q_pos c5 hyp
      exact q_vretH rfl dX10_laysCosts_29 hyp
    · have hyp := q_neg c5 hyp
      refine q_aload_n 0 rfl dX10_laysCosts_12 ?_
      refine q_bind hyp (fun x6 e7 hyp => ?_)
      refine q_getR kF_X10_120 dX10_laysCosts_13 e7 ?_
      refine q_iload_n 1 rfl dX10_laysCosts_16 ?_
      refine q_aload_n 0 rfl dX10_laysCosts_17 ?_
      refine q_iload_n 1 rfl dX10_laysCosts_18 ?_
      refine q_bind hyp (fun p8 e11 hyp => ?_)
      refine q_callV (as := [.int v1]) (st := [.int v1, .ref x6]) kY_X10_costOf kL_X10_384 (okX10_costOf (l := l) e11) (by decide) rfl (obX10_costOf e11) (Nat.le_of_ble_eq_true rfl) dX10_laysCosts_19 ?_
      refine q_to (ls' := [(0, .ref v0), (1, .int v1)]) (st' := [.int p8.1, .int v1, .ref x6]) rfl rfl ?_
      refine q_bind hyp (fun h9 e10 hyp => ?_)
      refine q_iast dX10_laysCosts_22 e10 ?_
      refine q_iinc (ls' := [(1, .int (v1 + 1)), (0, .ref v0)]) 1 rfl rfl (by decide) rfl dX10_laysCosts_23 ?_
      refine q_goto (tgt := 2) dX10_laysCosts_26 (by decide) ?_
      exact q_sub [1, 0] rfl (ih v0 (v1 + 1) h9 hyp)
def fX10_laysCosts (n : Nat) (v0 : Nat) (h : qH) : Option (qH) :=
  (isO h v0 10).bind fun _ =>
  fX10_laysCosts_b2 n n v0 0 h
theorem obX10_laysCosts {n : Nat} {v0 : Nat} {h : qH} {p : qH} (hyp : fX10_laysCosts n v0 h = some p) : ∃ fs, h.1 v0 = some (.inr (10, fs)) := by
  unfold fX10_laysCosts at hyp
  exact q_bind hyp (fun _ e _ => isO_some e)
set_option maxHeartbeats 4000000 in
set_option maxRecDepth 100000 in
theorem okX10_laysCosts {l : Launch} {n : Nat} {v0 : Nat} {h : qH} {h' : qH} (hyp : fX10_laysCosts n v0 h = some h') : q_M l 7 yX10_laysCosts cX10_laysCosts 2 none [.ref v0] h none h' := by
  unfold fX10_laysCosts at hyp
  refine q_bind hyp (fun _ _ hyp => ?_)
  refine q_M.of (by decide) (Nat.le_of_ble_eq_true rfl) ?_
  refine q_to (ls' := [(0, .ref v0)]) (st' := []) rfl rfl ?_
  refine q_iconst (x := 0) rfl dX10_laysCosts_0 ?_
  refine q_istore_n (ls' := [(1, .int 0), (0, .ref v0)]) (by decide) rfl dX10_laysCosts_1 ?_
  exact q_sub [1, 0] rfl (okX10_laysCosts_b2 _ v0 0 h hyp)
