/-! Functions over the abstract heap, and that the machine computes them (written by gen.py). -/
theorem dX9_count_0 : decode cX9_count 0 = .ok (.iload_n 1, 1) := by decide +kernel
theorem dX9_count_1 : decode cX9_count 1 = .ok (.tableswitch 155 0 10 #[59, 67, 75, 83, 91, 99, 111, 123, 131, 139, 147], 59) := by decide +kernel
theorem dX9_count_60 : decode cX9_count 60 = .ok (.aload_n 0, 1) := by decide +kernel
theorem dX9_count_61 : decode cX9_count 61 = .ok (.getfield 28, 3) := by decide +kernel
theorem dX9_count_64 : decode cX9_count 64 = .ok (.getfield 220, 3) := by decide +kernel
theorem dX9_count_67 : decode cX9_count 67 = .ok (.ireturn, 1) := by decide +kernel
theorem dX9_count_68 : decode cX9_count 68 = .ok (.aload_n 0, 1) := by decide +kernel
theorem dX9_count_69 : decode cX9_count 69 = .ok (.getfield 28, 3) := by decide +kernel
theorem dX9_count_72 : decode cX9_count 72 = .ok (.getfield 344, 3) := by decide +kernel
theorem dX9_count_75 : decode cX9_count 75 = .ok (.ireturn, 1) := by decide +kernel
theorem dX9_count_76 : decode cX9_count 76 = .ok (.aload_n 0, 1) := by decide +kernel
theorem dX9_count_77 : decode cX9_count 77 = .ok (.getfield 28, 3) := by decide +kernel
theorem dX9_count_80 : decode cX9_count 80 = .ok (.getfield 347, 3) := by decide +kernel
theorem dX9_count_83 : decode cX9_count 83 = .ok (.ireturn, 1) := by decide +kernel
theorem dX9_count_84 : decode cX9_count 84 = .ok (.aload_n 0, 1) := by decide +kernel
theorem dX9_count_85 : decode cX9_count 85 = .ok (.getfield 38, 3) := by decide +kernel
theorem dX9_count_88 : decode cX9_count 88 = .ok (.getfield 207, 3) := by decide +kernel
theorem dX9_count_91 : decode cX9_count 91 = .ok (.ireturn, 1) := by decide +kernel
theorem dX9_count_92 : decode cX9_count 92 = .ok (.aload_n 0, 1) := by decide +kernel
theorem dX9_count_93 : decode cX9_count 93 = .ok (.getfield 38, 3) := by decide +kernel
theorem dX9_count_96 : decode cX9_count 96 = .ok (.getfield 241, 3) := by decide +kernel
theorem dX9_count_99 : decode cX9_count 99 = .ok (.ireturn, 1) := by decide +kernel
theorem dX9_count_100 : decode cX9_count 100 = .ok (.aload_n 0, 1) := by decide +kernel
theorem dX9_count_101 : decode cX9_count 101 = .ok (.aload_n 0, 1) := by decide +kernel
theorem dX9_count_102 : decode cX9_count 102 = .ok (.getfield 38, 3) := by decide +kernel
theorem dX9_count_105 : decode cX9_count 105 = .ok (.getfield 132, 3) := by decide +kernel
theorem dX9_count_108 : decode cX9_count 108 = .ok (.invokevirtual 350, 3) := by decide +kernel
theorem dX9_count_111 : decode cX9_count 111 = .ok (.ireturn, 1) := by decide +kernel
theorem dX9_count_112 : decode cX9_count 112 = .ok (.aload_n 0, 1) := by decide +kernel
theorem dX9_count_113 : decode cX9_count 113 = .ok (.aload_n 0, 1) := by decide +kernel
theorem dX9_count_114 : decode cX9_count 114 = .ok (.getfield 38, 3) := by decide +kernel
theorem dX9_count_117 : decode cX9_count 117 = .ok (.getfield 135, 3) := by decide +kernel
theorem dX9_count_120 : decode cX9_count 120 = .ok (.invokevirtual 350, 3) := by decide +kernel
theorem dX9_count_123 : decode cX9_count 123 = .ok (.ireturn, 1) := by decide +kernel
theorem dX9_count_124 : decode cX9_count 124 = .ok (.aload_n 0, 1) := by decide +kernel
theorem dX9_count_125 : decode cX9_count 125 = .ok (.getfield 55, 3) := by decide +kernel
theorem dX9_count_128 : decode cX9_count 128 = .ok (.getfield 184, 3) := by decide +kernel
theorem dX9_count_131 : decode cX9_count 131 = .ok (.ireturn, 1) := by decide +kernel
theorem dX9_count_132 : decode cX9_count 132 = .ok (.aload_n 0, 1) := by decide +kernel
theorem dX9_count_133 : decode cX9_count 133 = .ok (.getfield 65, 3) := by decide +kernel
theorem dX9_count_136 : decode cX9_count 136 = .ok (.getfield 106, 3) := by decide +kernel
theorem dX9_count_139 : decode cX9_count 139 = .ok (.ireturn, 1) := by decide +kernel
theorem dX9_count_140 : decode cX9_count 140 = .ok (.aload_n 0, 1) := by decide +kernel
theorem dX9_count_141 : decode cX9_count 141 = .ok (.getfield 48, 3) := by decide +kernel
theorem dX9_count_144 : decode cX9_count 144 = .ok (.getfield 354, 3) := by decide +kernel
theorem dX9_count_147 : decode cX9_count 147 = .ok (.ireturn, 1) := by decide +kernel
theorem dX9_count_148 : decode cX9_count 148 = .ok (.aload_n 0, 1) := by decide +kernel
theorem dX9_count_149 : decode cX9_count 149 = .ok (.getfield 10, 3) := by decide +kernel
theorem dX9_count_152 : decode cX9_count 152 = .ok (.getfield 94, 3) := by decide +kernel
theorem dX9_count_155 : decode cX9_count 155 = .ok (.ireturn, 1) := by decide +kernel
theorem dX9_count_156 : decode cX9_count 156 = .ok (.iconst (-1), 1) := by decide +kernel
theorem dX9_count_157 : decode cX9_count 157 = .ok (.ireturn, 1) := by decide +kernel
def fX9_count (n : Nat) (v0 : Nat) (v1 : Int32) (h : qH) : Option (Int32 × qH) :=
  (isO h v0 9).bind fun _ =>
  if v1 = 0 then
  ((gR h v0 9 2).bind fun x2 =>
  (gI h x2 5 6).bind fun x4 =>
  some (x4, h))
  else
  (if v1 = 1 then
  ((gR h v0 9 2).bind fun x7 =>
  (gI h x7 5 7).bind fun x9 =>
  some (x9, h))
  else
  (if v1 = 2 then
  ((gR h v0 9 2).bind fun x12 =>
  (gI h x12 5 9).bind fun x14 =>
  some (x14, h))
  else
  (if v1 = 3 then
  ((gR h v0 9 4).bind fun x17 =>
  (gI h x17 8 3).bind fun x19 =>
  some (x19, h))
  else
  (if v1 = 4 then
  ((gR h v0 9 4).bind fun x22 =>
  (gI h x22 8 2).bind fun x24 =>
  some (x24, h))
  else
  (if v1 = 5 then
  ((gR h v0 9 4).bind fun x27 =>
  (gR h x27 8 0).bind fun x29 =>
  (fX9_sumOf n v0 x29 h).bind fun p31 =>
  some (p31.1, p31.2))
  else
  (if v1 = 6 then
  ((gR h v0 9 4).bind fun x34 =>
  (gR h x34 8 1).bind fun x36 =>
  (fX9_sumOf n v0 x36 h).bind fun p38 =>
  some (p38.1, p38.2))
  else
  (if v1 = 7 then
  ((gR h v0 9 7).bind fun x41 =>
  (gI h x41 2 2).bind fun x43 =>
  some (x43, h))
  else
  (if v1 = 8 then
  ((gR h v0 9 9).bind fun x46 =>
  (gI h x46 7 3).bind fun x48 =>
  some (x48, h))
  else
  (if v1 = 9 then
  ((gR h v0 9 6).bind fun x51 =>
  (gI h x51 0 1).bind fun x53 =>
  some (x53, h))
  else
  (if v1 = 10 then
  ((gR h v0 9 0).bind fun x56 =>
  (gI h x56 6 1).bind fun x58 =>
  some (x58, h))
  else
  (some ((-1), h))))))))))))
theorem obX9_count {n : Nat} {v0 : Nat} {v1 : Int32} {h : qH} {p : Int32 × qH} (hyp : fX9_count n v0 v1 h = some p) : ∃ fs, h.1 v0 = some (.inr (9, fs)) := by
  unfold fX9_count at hyp
  exact q_bind hyp (fun _ e _ => isO_some e)
set_option maxHeartbeats 4000000 in
set_option maxRecDepth 100000 in
theorem okX9_count {l : Launch} {n : Nat} {v0 : Nat} {v1 : Int32} {h : qH} {p : Int32 × qH} (hyp : fX9_count n v0 v1 h = some p) : q_M l 2 yX9_count cX9_count 2 (some .int) [.ref v0, .int v1] h (some (.int p.1)) p.2 := by
  obtain ⟨r, h'⟩ := p
  unfold fX9_count at hyp
  refine q_bind hyp (fun _ _ hyp => ?_)
  refine q_M.of (by decide) (Nat.le_of_ble_eq_true rfl) ?_
  refine q_to (ls' := [(0, .ref v0), (1, .int v1)]) (st' := []) rfl rfl ?_
  refine q_iload_n 1 rfl dX9_count_0 ?_
  refine q_ite hyp (fun c1 hyp => ?_) (fun c1 hyp => ?_)
  · refine q_tableIn (off := 59) (tgt := 60) dX9_count_1 (by rw [c1]; decide) (by rw [c1]; decide) (by rw [c1]; rfl) (by decide) ?_
    refine q_aload_n 0 rfl dX9_count_60 ?_
    refine q_bind hyp (fun x2 e3 hyp => ?_)
    refine q_getR kF_X9_28 dX9_count_61 e3 ?_
    refine q_bind hyp (fun x4 e5 hyp => ?_)
    refine q_getI kF_X9_220 dX9_count_64 e5 ?_
    exact q_iretH rfl rfl dX9_count_67 hyp
  · refine q_ite hyp (fun c6 hyp => ?_) (fun c6 hyp => ?_)
    · refine q_tableIn (off := 67) (tgt := 68) dX9_count_1 (by rw [c6]; decide) (by rw [c6]; decide) (by rw [c6]; rfl) (by decide) ?_
      refine q_aload_n 0 rfl dX9_count_68 ?_
      refine q_bind hyp (fun x7 e8 hyp => ?_)
      refine q_getR kF_X9_28 dX9_count_69 e8 ?_
      refine q_bind hyp (fun x9 e10 hyp => ?_)
      refine q_getI kF_X9_344 dX9_count_72 e10 ?_
      exact q_iretH rfl rfl dX9_count_75 hyp
    · refine q_ite hyp (fun c11 hyp => ?_) (fun c11 hyp => ?_)
      · refine q_tableIn (off := 75) (tgt := 76) dX9_count_1 (by rw [c11]; decide) (by rw [c11]; decide) (by rw [c11]; rfl) (by decide) ?_
        refine q_aload_n 0 rfl dX9_count_76 ?_
        refine q_bind hyp (fun x12 e13 hyp => ?_)
        refine q_getR kF_X9_28 dX9_count_77 e13 ?_
        refine q_bind hyp (fun x14 e15 hyp => ?_)
        refine q_getI kF_X9_347 dX9_count_80 e15 ?_
        exact q_iretH rfl rfl dX9_count_83 hyp
      · refine q_ite hyp (fun c16 hyp => ?_) (fun c16 hyp => ?_)
        · refine q_tableIn (off := 83) (tgt := 84) dX9_count_1 (by rw [c16]; decide) (by rw [c16]; decide) (by rw [c16]; rfl) (by decide) ?_
          refine q_aload_n 0 rfl dX9_count_84 ?_
          refine q_bind hyp (fun x17 e18 hyp => ?_)
          refine q_getR kF_X9_38 dX9_count_85 e18 ?_
          refine q_bind hyp (fun x19 e20 hyp => ?_)
          refine q_getI kF_X9_207 dX9_count_88 e20 ?_
          exact q_iretH rfl rfl dX9_count_91 hyp
        · refine q_ite hyp (fun c21 hyp => ?_) (fun c21 hyp => ?_)
          · refine q_tableIn (off := 91) (tgt := 92) dX9_count_1 (by rw [c21]; decide) (by rw [c21]; decide) (by rw [c21]; rfl) (by decide) ?_
            refine q_aload_n 0 rfl dX9_count_92 ?_
            refine q_bind hyp (fun x22 e23 hyp => ?_)
            refine q_getR kF_X9_38 dX9_count_93 e23 ?_
            refine q_bind hyp (fun x24 e25 hyp => ?_)
            refine q_getI kF_X9_241 dX9_count_96 e25 ?_
            exact q_iretH rfl rfl dX9_count_99 hyp
          · refine q_ite hyp (fun c26 hyp => ?_) (fun c26 hyp => ?_)
            · refine q_tableIn (off := 99) (tgt := 100) dX9_count_1 (by rw [c26]; decide) (by rw [c26]; decide) (by rw [c26]; rfl) (by decide) ?_
              refine q_aload_n 0 rfl dX9_count_100 ?_
              refine q_aload_n 0 rfl dX9_count_101 ?_
              refine q_bind hyp (fun x27 e28 hyp => ?_)
              refine q_getR kF_X9_38 dX9_count_102 e28 ?_
              refine q_bind hyp (fun x29 e30 hyp => ?_)
              refine q_getR kF_X9_132 dX9_count_105 e30 ?_
              refine q_bind hyp (fun p31 e32 hyp => ?_)
              refine q_callV (as := [.ref x29]) (st := []) kY_X9_sumOf kL_X9_350 (okX9_sumOf (l := l) e32) (by decide) rfl (obX9_sumOf e32) (Nat.le_of_ble_eq_true rfl) dX9_count_108 ?_
              refine q_to (ls' := [(0, .ref v0), (1, .int v1)]) (st' := [.int p31.1]) rfl rfl ?_
              exact q_iretH rfl rfl dX9_count_111 hyp
            · refine q_ite hyp (fun c33 hyp => ?_) (fun c33 hyp => ?_)
              · refine q_tableIn (off := 111) (tgt := 112) dX9_count_1 (by rw [c33]; decide) (by rw [c33]; decide) (by rw [c33]; rfl) (by decide) ?_
                refine q_aload_n 0 rfl dX9_count_112 ?_
                refine q_aload_n 0 rfl dX9_count_113 ?_
                refine q_bind hyp (fun x34 e35 hyp => ?_)
                refine q_getR kF_X9_38 dX9_count_114 e35 ?_
                refine q_bind hyp (fun x36 e37 hyp => ?_)
                refine q_getR kF_X9_135 dX9_count_117 e37 ?_
                refine q_bind hyp (fun p38 e39 hyp => ?_)
                refine q_callV (as := [.ref x36]) (st := []) kY_X9_sumOf kL_X9_350 (okX9_sumOf (l := l) e39) (by decide) rfl (obX9_sumOf e39) (Nat.le_of_ble_eq_true rfl) dX9_count_120 ?_
                refine q_to (ls' := [(0, .ref v0), (1, .int v1)]) (st' := [.int p38.1]) rfl rfl ?_
                exact q_iretH rfl rfl dX9_count_123 hyp
              · refine q_ite hyp (fun c40 hyp => ?_) (fun c40 hyp => ?_)
                · refine q_tableIn (off := 123) (tgt := 124) dX9_count_1 (by rw [c40]; decide) (by rw [c40]; decide) (by rw [c40]; rfl) (by decide) ?_
                  refine q_aload_n 0 rfl dX9_count_124 ?_
                  refine q_bind hyp (fun x41 e42 hyp => ?_)
                  refine q_getR kF_X9_55 dX9_count_125 e42 ?_
                  refine q_bind hyp (fun x43 e44 hyp => ?_)
                  refine q_getI kF_X9_184 dX9_count_128 e44 ?_
                  exact q_iretH rfl rfl dX9_count_131 hyp
                · refine q_ite hyp (fun c45 hyp => ?_) (fun c45 hyp => ?_)
                  · refine q_tableIn (off := 131) (tgt := 132) dX9_count_1 (by rw [c45]; decide) (by rw [c45]; decide) (by rw [c45]; rfl) (by decide) ?_
                    refine q_aload_n 0 rfl dX9_count_132 ?_
                    refine q_bind hyp (fun x46 e47 hyp => ?_)
                    refine q_getR kF_X9_65 dX9_count_133 e47 ?_
                    refine q_bind hyp (fun x48 e49 hyp => ?_)
                    refine q_getI kF_X9_106 dX9_count_136 e49 ?_
                    exact q_iretH rfl rfl dX9_count_139 hyp
                  · refine q_ite hyp (fun c50 hyp => ?_) (fun c50 hyp => ?_)
                    · refine q_tableIn (off := 139) (tgt := 140) dX9_count_1 (by rw [c50]; decide) (by rw [c50]; decide) (by rw [c50]; rfl) (by decide) ?_
                      refine q_aload_n 0 rfl dX9_count_140 ?_
                      refine q_bind hyp (fun x51 e52 hyp => ?_)
                      refine q_getR kF_X9_48 dX9_count_141 e52 ?_
                      refine q_bind hyp (fun x53 e54 hyp => ?_)
                      refine q_getI kF_X9_354 dX9_count_144 e54 ?_
                      exact q_iretH rfl rfl dX9_count_147 hyp
                    · refine q_ite hyp (fun c55 hyp => ?_) (fun c55 hyp => ?_)
                      · refine q_tableIn (off := 147) (tgt := 148) dX9_count_1 (by rw [c55]; decide) (by rw [c55]; decide) (by rw [c55]; rfl) (by decide) ?_
                        refine q_aload_n 0 rfl dX9_count_148 ?_
                        refine q_bind hyp (fun x56 e57 hyp => ?_)
                        refine q_getR kF_X9_10 dX9_count_149 e57 ?_
                        refine q_bind hyp (fun x58 e59 hyp => ?_)
                        refine q_getI kF_X9_94 dX9_count_152 e59 ?_
                        exact q_iretH rfl rfl dX9_count_155 hyp
                      · have zc1 := q_ni c1
                        have zc6 := q_ni c6
                        have zc11 := q_ni c11
                        have zc16 := q_ni c16
                        have zc21 := q_ni c21
                        have zc26 := q_ni c26
                        have zc33 := q_ni c33
                        have zc40 := q_ni c40
                        have zc45 := q_ni c45
                        have zc50 := q_ni c50
                        have zc55 := q_ni c55
                        have zz : v1.toInt < 0 ∨ 10 < v1.toInt := by
                          rw [show (0 : Int32).toInt = 0 from rfl] at zc1
                          rw [show (1 : Int32).toInt = 1 from rfl] at zc6
                          rw [show (2 : Int32).toInt = 2 from rfl] at zc11
                          rw [show (3 : Int32).toInt = 3 from rfl] at zc16
                          rw [show (4 : Int32).toInt = 4 from rfl] at zc21
                          rw [show (5 : Int32).toInt = 5 from rfl] at zc26
                          rw [show (6 : Int32).toInt = 6 from rfl] at zc33
                          rw [show (7 : Int32).toInt = 7 from rfl] at zc40
                          rw [show (8 : Int32).toInt = 8 from rfl] at zc45
                          rw [show (9 : Int32).toInt = 9 from rfl] at zc50
                          rw [show (10 : Int32).toInt = 10 from rfl] at zc55
                          omega
                        refine q_tableOut (tgt := 156) dX9_count_1 zz (by decide) ?_
                        refine q_iconst (x := (-1)) rfl dX9_count_156 ?_
                        exact q_iretH rfl rfl dX9_count_157 hyp
theorem dX9_dinners_0 : decode cX9_dinners 0 = .ok (.iload_n 1, 1) := by decide +kernel
theorem dX9_dinners_1 : decode cX9_dinners 1 = .ok (.iconst 1, 1) := by decide +kernel
theorem dX9_dinners_2 : decode cX9_dinners 2 = .ok (.bipush 60, 2) := by decide +kernel
theorem dX9_dinners_4 : decode cX9_dinners 4 = .ok (.invokestatic 180, 3) := by decide +kernel
theorem dX9_dinners_7 : decode cX9_dinners 7 = .ok (.ifCond .ne 5, 3) := by decide +kernel
theorem dX9_dinners_10 : decode cX9_dinners 10 = .ok (.iconst (-1), 1) := by decide +kernel
theorem dX9_dinners_11 : decode cX9_dinners 11 = .ok (.ireturn, 1) := by decide +kernel
theorem dX9_dinners_12 : decode cX9_dinners 12 = .ok (.iconst 0, 1) := by decide +kernel
theorem dX9_dinners_13 : decode cX9_dinners 13 = .ok (.istore_n 2, 1) := by decide +kernel
theorem dX9_dinners_14 : decode cX9_dinners 14 = .ok (.aload_n 0, 1) := by decide +kernel
theorem dX9_dinners_15 : decode cX9_dinners 15 = .ok (.getfield 42, 3) := by decide +kernel
theorem dX9_dinners_18 : decode cX9_dinners 18 = .ok (.aload_n 0, 1) := by decide +kernel
theorem dX9_dinners_19 : decode cX9_dinners 19 = .ok (.getfield 38, 3) := by decide +kernel
theorem dX9_dinners_22 : decode cX9_dinners 22 = .ok (.invokevirtual 256, 3) := by decide +kernel
theorem dX9_dinners_25 : decode cX9_dinners 25 = .ok (.iconst 0, 1) := by decide +kernel
theorem dX9_dinners_26 : decode cX9_dinners 26 = .ok (.istore_n 3, 1) := by decide +kernel
theorem dX9_dinners_27 : decode cX9_dinners 27 = .ok (.iload_n 3, 1) := by decide +kernel
theorem dX9_dinners_28 : decode cX9_dinners 28 = .ok (.iload_n 1, 1) := by decide +kernel
theorem dX9_dinners_29 : decode cX9_dinners 29 = .ok (.if_icmp .ge 37, 3) := by decide +kernel
theorem dX9_dinners_32 : decode cX9_dinners 32 = .ok (.aload_n 0, 1) := by decide +kernel
theorem dX9_dinners_33 : decode cX9_dinners 33 = .ok (.getfield 42, 3) := by decide +kernel
theorem dX9_dinners_36 : decode cX9_dinners 36 = .ok (.aload_n 0, 1) := by decide +kernel
theorem dX9_dinners_37 : decode cX9_dinners 37 = .ok (.getfield 28, 3) := by decide +kernel
theorem dX9_dinners_40 : decode cX9_dinners 40 = .ok (.invokevirtual 167, 3) := by decide +kernel
theorem dX9_dinners_43 : decode cX9_dinners 43 = .ok (.iload_n 2, 1) := by decide +kernel
theorem dX9_dinners_44 : decode cX9_dinners 44 = .ok (.aload_n 0, 1) := by decide +kernel
theorem dX9_dinners_45 : decode cX9_dinners 45 = .ok (.getfield 42, 3) := by decide +kernel
theorem dX9_dinners_48 : decode cX9_dinners 48 = .ok (.aload_n 0, 1) := by decide +kernel
theorem dX9_dinners_49 : decode cX9_dinners 49 = .ok (.getfield 28, 3) := by decide +kernel
theorem dX9_dinners_52 : decode cX9_dinners 52 = .ok (.invokevirtual 195, 3) := by decide +kernel
theorem dX9_dinners_55 : decode cX9_dinners 55 = .ok (.invokestatic 170, 3) := by decide +kernel
theorem dX9_dinners_58 : decode cX9_dinners 58 = .ok (.iadd, 1) := by decide +kernel
theorem dX9_dinners_59 : decode cX9_dinners 59 = .ok (.istore_n 2, 1) := by decide +kernel
theorem dX9_dinners_60 : decode cX9_dinners 60 = .ok (.iinc 3 1, 3) := by decide +kernel
theorem dX9_dinners_63 : decode cX9_dinners 63 = .ok (.goto (-36), 3) := by decide +kernel
theorem dX9_dinners_66 : decode cX9_dinners 66 = .ok (.iload_n 2, 1) := by decide +kernel
theorem dX9_dinners_67 : decode cX9_dinners 67 = .ok (.ireturn, 1) := by decide +kernel
def fX9_dinners_b27 (n : Nat) : Nat → Nat → Int32 → Int32 → Int32 → qH → Option (Int32 × qH)
  | 0, _, _, _, _, _ => none
  | w + 1, v0, v1, v2, v3, h =>
    if v1 ≤ v3 then
    (some (v2, h))
    else
    ((gR h v0 9 5).bind fun x2 =>
    (gR h v0 9 2).bind fun x4 =>
    (fX8_pass n x2 x4 h).bind fun h6 =>
    (gR h6 v0 9 5).bind fun x7 =>
    (gR h6 v0 9 2).bind fun x9 =>
    (fX8_meantBits n x7 x9 h6).bind fun p11 =>
    (fJ6_bitCount_0f7a4 p11.1 p11.2).bind fun p12 =>
    fX9_dinners_b27 n w v0 v1 (v2 + p12.1) (v3 + 1) p12.2)
set_option maxHeartbeats 4000000 in
set_option maxRecDepth 100000 in
theorem okX9_dinners_b27 {l : Launch} {n : Nat} {r : Int32} {h' : qH} : ∀ (w : Nat) (v0 : Nat) (v1 : Int32) (v2 : Int32) (v3 : Int32) (h : qH), fX9_dinners_b27 n w v0 v1 v2 v3 h = some (r, h') → q_W l 3 yX9_dinners cX9_dinners 4 (some .int) (some (.int r)) h' 27 [(0, .ref v0), (1, .int v1), (2, .int v2), (3, .int v3)] [] h := by
  intro w
  induction w with
  | zero => intro v0 v1 v2 v3 h hyp; cases hyp
  | succ w ih =>
    intro v0 v1 v2 v3 h hyp
    unfold fX9_dinners_b27 at hyp
    refine q_iload_n 3 rfl dX9_dinners_27 ?_
    refine q_iload_n 1 rfl dX9_dinners_28 ?_
    refine q_icmp_ge (tgt := 66) dX9_dinners_29 (by decide) (fun c1 => ?_) (fun c1 => ?_)
    · have hyp := q_pos c1 hyp
      refine q_iload_n 2 rfl dX9_dinners_66 ?_
      exact q_iretH rfl rfl dX9_dinners_67 hyp
    · have hyp := q_neg c1 hyp
      refine q_aload_n 0 rfl dX9_dinners_32 ?_
      refine q_bind hyp (fun x2 e3 hyp => ?_)
      refine q_getR kF_X9_42 dX9_dinners_33 e3 ?_
      refine q_aload_n 0 rfl dX9_dinners_36 ?_
      refine q_bind hyp (fun x4 e5 hyp => ?_)
      refine q_getR kF_X9_28 dX9_dinners_37 e5 ?_
      refine q_bind hyp (fun h6 e15 hyp => ?_)
      refine q_callV (as := [.ref x4]) (st := []) kY_X8_pass kL_X9_167 (okX8_pass (l := l) e15) (by decide) rfl (obX8_pass e15) (Nat.le_of_ble_eq_true rfl) dX9_dinners_40 ?_
      refine q_to (ls' := [(0, .ref v0), (1, .int v1), (2, .int v2), (3, .int v3)]) (st' := []) rfl rfl ?_
      refine q_iload_n 2 rfl dX9_dinners_43 ?_
      refine q_aload_n 0 rfl dX9_dinners_44 ?_
      refine q_bind hyp (fun x7 e8 hyp => ?_)
      refine q_getR kF_X9_42 dX9_dinners_45 e8 ?_
      refine q_aload_n 0 rfl dX9_dinners_48 ?_
      refine q_bind hyp (fun x9 e10 hyp => ?_)
      refine q_getR kF_X9_28 dX9_dinners_49 e10 ?_
      refine q_bind hyp (fun p11 e14 hyp => ?_)
      refine q_callV (as := [.ref x9]) (st := [.int v2]) kY_X8_meantBits kL_X9_195 (okX8_meantBits (l := l) e14) (by decide) rfl (obX8_meantBits e14) (Nat.le_of_ble_eq_true rfl) dX9_dinners_52 ?_
      refine q_to (ls' := [(0, .ref v0), (1, .int v1), (2, .int v2), (3, .int v3)]) (st' := [.int p11.1, .int v2]) rfl rfl ?_
      refine q_bind hyp (fun p12 e13 hyp => ?_)
      refine q_callS (as := [.int p11.1]) (st := [.int v2]) kY_J6_bitCount_0f7a4 kS_J6_bitCount_0f7a4 kL_X9_170 (okJ6_bitCount_0f7a4 (l := l) e13) (by decide) rfl (Nat.le_of_ble_eq_true rfl) dX9_dinners_55 ?_
      refine q_to (ls' := [(0, .ref v0), (1, .int v1), (2, .int v2), (3, .int v3)]) (st' := [.int p12.1, .int v2]) rfl rfl ?_
      refine q_iadd dX9_dinners_58 ?_
      refine q_istore_n (ls' := [(2, .int (v2 + p12.1)), (0, .ref v0), (1, .int v1), (3, .int v3)]) (by decide) rfl dX9_dinners_59 ?_
      refine q_iinc (ls' := [(3, .int (v3 + 1)), (2, .int (v2 + p12.1)), (0, .ref v0), (1, .int v1)]) 3 rfl rfl (by decide) rfl dX9_dinners_60 ?_
      refine q_goto (tgt := 27) dX9_dinners_63 (by decide) ?_
      exact q_sub [2, 3, 1, 0] rfl (ih v0 v1 (v2 + p12.1) (v3 + 1) p12.2 hyp)
def fX9_dinners (n : Nat) (v0 : Nat) (v1 : Int32) (h : qH) : Option (Int32 × qH) :=
  (isO h v0 9).bind fun _ =>
  (fX9_within v1 1 60 h).bind fun p1 =>
  if p1.1 = 0 then
  (some ((-1), p1.2))
  else
  ((gR p1.2 v0 9 5).bind fun x3 =>
  (gR p1.2 v0 9 4).bind fun x5 =>
  (fX8_copy n x3 x5 p1.2).bind fun h7 =>
  fX9_dinners_b27 n n v0 v1 0 0 h7)
theorem obX9_dinners {n : Nat} {v0 : Nat} {v1 : Int32} {h : qH} {p : Int32 × qH} (hyp : fX9_dinners n v0 v1 h = some p) : ∃ fs, h.1 v0 = some (.inr (9, fs)) := by
  unfold fX9_dinners at hyp
  exact q_bind hyp (fun _ e _ => isO_some e)
set_option maxHeartbeats 4000000 in
set_option maxRecDepth 100000 in
theorem okX9_dinners {l : Launch} {n : Nat} {v0 : Nat} {v1 : Int32} {h : qH} {p : Int32 × qH} (hyp : fX9_dinners n v0 v1 h = some p) : q_M l 3 yX9_dinners cX9_dinners 4 (some .int) [.ref v0, .int v1] h (some (.int p.1)) p.2 := by
  obtain ⟨r, h'⟩ := p
  unfold fX9_dinners at hyp
  refine q_bind hyp (fun _ _ hyp => ?_)
  refine q_M.of (by decide) (Nat.le_of_ble_eq_true rfl) ?_
  refine q_to (ls' := [(0, .ref v0), (1, .int v1)]) (st' := []) rfl rfl ?_
  refine q_iload_n 1 rfl dX9_dinners_0 ?_
  refine q_iconst (x := 1) rfl dX9_dinners_1 ?_
  refine q_bipush (x := 60) (by decide) dX9_dinners_2 ?_
  refine q_bind hyp (fun p1 e9 hyp => ?_)
  refine q_callS (as := [.int v1, .int 1, .int 60]) (st := []) kY_X9_within kS_X9_within kL_X9_180 (okX9_within (l := l) e9) (by decide) rfl (Nat.le_of_ble_eq_true rfl) dX9_dinners_4 ?_
  refine q_to (ls' := [(0, .ref v0), (1, .int v1)]) (st' := [.int p1.1]) rfl rfl ?_
  refine q_if_ne (tgt := 12) dX9_dinners_7 (by decide) (fun c2 => ?_) (fun c2 => ?_)
  · have hyp := q_neg c2 hyp
    refine q_iconst (x := 0) rfl dX9_dinners_12 ?_
    refine q_istore_n (ls' := [(2, .int 0), (0, .ref v0), (1, .int v1)]) (by decide) rfl dX9_dinners_13 ?_
    refine q_aload_n 1 rfl dX9_dinners_14 ?_
    refine q_bind hyp (fun x3 e4 hyp => ?_)
    refine q_getR kF_X9_42 dX9_dinners_15 e4 ?_
    refine q_aload_n 1 rfl dX9_dinners_18 ?_
    refine q_bind hyp (fun x5 e6 hyp => ?_)
    refine q_getR kF_X9_38 dX9_dinners_19 e6 ?_
    refine q_bind hyp (fun h7 e8 hyp => ?_)
    refine q_callV (as := [.ref x5]) (st := []) kY_X8_copy kL_X9_256 (okX8_copy (l := l) e8) (by decide) rfl (obX8_copy e8) (Nat.le_of_ble_eq_true rfl) dX9_dinners_22 ?_
    refine q_to (ls' := [(2, .int 0), (0, .ref v0), (1, .int v1)]) (st' := []) rfl rfl ?_
    refine q_iconst (x := 0) rfl dX9_dinners_25 ?_
    refine q_istore_n (ls' := [(3, .int 0), (2, .int 0), (0, .ref v0), (1, .int v1)]) (by decide) rfl dX9_dinners_26 ?_
    exact q_sub [2, 3, 1, 0] rfl (okX9_dinners_b27 _ v0 v1 0 0 h7 hyp)
  · have hyp := q_pos c2 hyp
    refine q_iconst (x := (-1)) rfl dX9_dinners_10 ?_
    exact q_iretH rfl rfl dX9_dinners_11 hyp
theorem dX9_drawnBelow_0 : decode cX9_drawnBelow 0 = .ok (.iload_n 2, 1) := by decide +kernel
theorem dX9_drawnBelow_1 : decode cX9_drawnBelow 1 = .ok (.ifCond .gt 7, 3) := by decide +kernel
theorem dX9_drawnBelow_4 : decode cX9_drawnBelow 4 = .ok (.iconst 0, 1) := by decide +kernel
theorem dX9_drawnBelow_5 : decode cX9_drawnBelow 5 = .ok (.goto 12, 3) := by decide +kernel
theorem dX9_drawnBelow_8 : decode cX9_drawnBelow 8 = .ok (.lload_n 0, 1) := by decide +kernel
theorem dX9_drawnBelow_9 : decode cX9_drawnBelow 9 = .ok (.ldc2_w 330, 3) := by decide +kernel
theorem dX9_drawnBelow_12 : decode cX9_drawnBelow 12 = .ok (.ldiv, 1) := by decide +kernel
theorem dX9_drawnBelow_13 : decode cX9_drawnBelow 13 = .ok (.iload_n 2, 1) := by decide +kernel
theorem dX9_drawnBelow_14 : decode cX9_drawnBelow 14 = .ok (.i2l, 1) := by decide +kernel
theorem dX9_drawnBelow_15 : decode cX9_drawnBelow 15 = .ok (.lrem, 1) := by decide +kernel
theorem dX9_drawnBelow_16 : decode cX9_drawnBelow 16 = .ok (.l2i, 1) := by decide +kernel
theorem dX9_drawnBelow_17 : decode cX9_drawnBelow 17 = .ok (.ireturn, 1) := by decide +kernel
def fX9_drawnBelow (v0 : Int64) (v2 : Int32) (h : qH) : Option (Int32 × qH) :=
  if 0 < v2 then
  ((qZL v2.toInt64).bind fun _ =>
  some (((v0 / 65536) - (v0 / 65536) / v2.toInt64 * v2.toInt64).toInt32, h))
  else
  (some (0, h))
set_option maxHeartbeats 4000000 in
set_option maxRecDepth 100000 in
theorem okX9_drawnBelow {l : Launch} {v0 : Int64} {v2 : Int32} {h : qH} {p : Int32 × qH} (hyp : fX9_drawnBelow v0 v2 h = some p) : q_M l 1 yX9_drawnBelow cX9_drawnBelow 3 (some .int) [.long v0, .int v2] h (some (.int p.1)) p.2 := by
  obtain ⟨r, h'⟩ := p
  unfold fX9_drawnBelow at hyp
  refine q_M.of (by decide) (Nat.le_of_ble_eq_true rfl) ?_
  refine q_to (ls' := [(0, .long v0), (2, .int v2)]) (st' := []) rfl rfl ?_
  refine q_iload_n 1 rfl dX9_drawnBelow_0 ?_
  refine q_if_gt (tgt := 8) dX9_drawnBelow_1 (by decide) (fun c1 => ?_) (fun c1 => ?_)
  · have hyp := q_pos c1 hyp
    refine q_lload_n 0 rfl dX9_drawnBelow_8 ?_
    refine q_ldc2 kK_X9_330 dX9_drawnBelow_9 ?_
    refine q_ldiv dX9_drawnBelow_12 (by decide) ?_
    refine q_iload_n 1 rfl dX9_drawnBelow_13 ?_
    refine q_i2l dX9_drawnBelow_14 ?_
    refine q_bind hyp (fun _ e2 hyp => ?_)
    refine q_lrem dX9_drawnBelow_15 (qZL_some e2) ?_
    refine q_l2i dX9_drawnBelow_16 ?_
    exact q_iretH rfl rfl dX9_drawnBelow_17 hyp
  · have hyp := q_neg c1 hyp
    refine q_iconst (x := 0) rfl dX9_drawnBelow_4 ?_
    refine q_goto (tgt := 17) dX9_drawnBelow_5 (by decide) ?_
    exact q_iretH rfl rfl dX9_drawnBelow_17 hyp
theorem dX9_easiest_0 : decode cX9_easiest 0 = .ok (.aload_n 0, 1) := by decide +kernel
theorem dX9_easiest_1 : decode cX9_easiest 1 = .ok (.invokevirtual 223, 3) := by decide +kernel
theorem dX9_easiest_4 : decode cX9_easiest 4 = .ok (.aload_n 0, 1) := by decide +kernel
theorem dX9_easiest_5 : decode cX9_easiest 5 = .ok (.aload_n 0, 1) := by decide +kernel
theorem dX9_easiest_6 : decode cX9_easiest 6 = .ok (.getfield 28, 3) := by decide +kernel
theorem dX9_easiest_9 : decode cX9_easiest 9 = .ok (.invokevirtual 201, 3) := by decide +kernel
theorem dX9_easiest_12 : decode cX9_easiest 12 = .ok (.aload_n 0, 1) := by decide +kernel
theorem dX9_easiest_13 : decode cX9_easiest 13 = .ok (.invokevirtual 138, 3) := by decide +kernel
theorem dX9_easiest_16 : decode cX9_easiest 16 = .ok (.iconst (-1), 1) := by decide +kernel
theorem dX9_easiest_17 : decode cX9_easiest 17 = .ok (.ixor, 1) := by decide +kernel
theorem dX9_easiest_18 : decode cX9_easiest 18 = .ok (.iand, 1) := by decide +kernel
theorem dX9_easiest_19 : decode cX9_easiest 19 = .ok (.invokevirtual 232, 3) := by decide +kernel
theorem dX9_easiest_22 : decode cX9_easiest 22 = .ok (.ireturn, 1) := by decide +kernel
def fX9_easiest (n : Nat) (v0 : Nat) (h : qH) : Option (Int32 × qH) :=
  (isO h v0 9).bind fun _ =>
  (fX9_reckonCosts n v0 h).bind fun h1 =>
  (gR h1 v0 9 2).bind fun x2 =>
  (fX5_everyone x2 h1).bind fun p4 =>
  (fX9_meant n v0 p4.2).bind fun p5 =>
  (fX9_cheapestOf n v0 (p4.1 &&& (p5.1 ^^^ ((-1)))) p5.2).bind fun p6 =>
  some (p6.1, p6.2)
theorem obX9_easiest {n : Nat} {v0 : Nat} {h : qH} {p : Int32 × qH} (hyp : fX9_easiest n v0 h = some p) : ∃ fs, h.1 v0 = some (.inr (9, fs)) := by
  unfold fX9_easiest at hyp
  exact q_bind hyp (fun _ e _ => isO_some e)
set_option maxHeartbeats 4000000 in
set_option maxRecDepth 100000 in
theorem okX9_easiest {l : Launch} {n : Nat} {v0 : Nat} {h : qH} {p : Int32 × qH} (hyp : fX9_easiest n v0 h = some p) : q_M l 6 yX9_easiest cX9_easiest 1 (some .int) [.ref v0] h (some (.int p.1)) p.2 := by
  obtain ⟨r, h'⟩ := p
  unfold fX9_easiest at hyp
  refine q_bind hyp (fun _ _ hyp => ?_)
  refine q_M.of (by decide) (Nat.le_of_ble_eq_true rfl) ?_
  refine q_to (ls' := [(0, .ref v0)]) (st' := []) rfl rfl ?_
  refine q_aload_n 0 rfl dX9_easiest_0 ?_
  refine q_bind hyp (fun h1 e10 hyp => ?_)
  refine q_callV (as := []) (st := []) kY_X9_reckonCosts kL_X9_223 (okX9_reckonCosts (l := l) e10) (by decide) rfl (obX9_reckonCosts e10) (Nat.le_of_ble_eq_true rfl) dX9_easiest_1 ?_
  refine q_to (ls' := [(0, .ref v0)]) (st' := []) rfl rfl ?_
  refine q_aload_n 0 rfl dX9_easiest_4 ?_
  refine q_aload_n 0 rfl dX9_easiest_5 ?_
  refine q_bind hyp (fun x2 e3 hyp => ?_)
  refine q_getR kF_X9_28 dX9_easiest_6 e3 ?_
  refine q_bind hyp (fun p4 e9 hyp => ?_)
  refine q_callV (as := []) (st := [.ref v0]) kY_X5_everyone kL_X9_201 (okX5_everyone (l := l) e9) (by decide) rfl (obX5_everyone e9) (Nat.le_of_ble_eq_true rfl) dX9_easiest_9 ?_
  refine q_to (ls' := [(0, .ref v0)]) (st' := [.int p4.1, .ref v0]) rfl rfl ?_
  refine q_aload_n 0 rfl dX9_easiest_12 ?_
  refine q_bind hyp (fun p5 e8 hyp => ?_)
  refine q_callV (as := []) (st := [.int p4.1, .ref v0]) kY_X9_meant kL_X9_138 (okX9_meant (l := l) e8) (by decide) rfl (obX9_meant e8) (Nat.le_of_ble_eq_true rfl) dX9_easiest_13 ?_
  refine q_to (ls' := [(0, .ref v0)]) (st' := [.int p5.1, .int p4.1, .ref v0]) rfl rfl ?_
  refine q_iconst (x := (-1)) rfl dX9_easiest_16 ?_
  refine q_ixor dX9_easiest_17 ?_
  refine q_iand dX9_easiest_18 ?_
  refine q_bind hyp (fun p6 e7 hyp => ?_)
  refine q_callV (as := [.int (p4.1 &&& (p5.1 ^^^ ((-1))))]) (st := []) kY_X9_cheapestOf kL_X9_232 (okX9_cheapestOf (l := l) e7) (by decide) rfl (obX9_cheapestOf e7) (Nat.le_of_ble_eq_true rfl) dX9_easiest_19 ?_
  refine q_to (ls' := [(0, .ref v0)]) (st' := [.int p6.1]) rfl rfl ?_
  exact q_iretH rfl rfl dX9_easiest_22 hyp
theorem dX9_eat_0 : decode cX9_eat 0 = .ok (.aload_n 0, 1) := by decide +kernel
theorem dX9_eat_1 : decode cX9_eat 1 = .ok (.iload_n 1, 1) := by decide +kernel
theorem dX9_eat_2 : decode cX9_eat 2 = .ok (.invokevirtual 122, 3) := by decide +kernel
theorem dX9_eat_5 : decode cX9_eat 5 = .ok (.ifCond .eq 15, 3) := by decide +kernel
theorem dX9_eat_8 : decode cX9_eat 8 = .ok (.aload_n 0, 1) := by decide +kernel
theorem dX9_eat_9 : decode cX9_eat 9 = .ok (.getfield 38, 3) := by decide +kernel
theorem dX9_eat_12 : decode cX9_eat 12 = .ok (.getfield 135, 3) := by decide +kernel
theorem dX9_eat_15 : decode cX9_eat 15 = .ok (.iload_n 1, 1) := by decide +kernel
theorem dX9_eat_16 : decode cX9_eat 16 = .ok (.iaload, 1) := by decide +kernel
theorem dX9_eat_17 : decode cX9_eat 17 = .ok (.ifCond .ne 5, 3) := by decide +kernel
theorem dX9_eat_20 : decode cX9_eat 20 = .ok (.iconst (-1), 1) := by decide +kernel
theorem dX9_eat_21 : decode cX9_eat 21 = .ok (.ireturn, 1) := by decide +kernel
theorem dX9_eat_22 : decode cX9_eat 22 = .ok (.aload_n 0, 1) := by decide +kernel
theorem dX9_eat_23 : decode cX9_eat 23 = .ok (.getfield 48, 3) := by decide +kernel
theorem dX9_eat_26 : decode cX9_eat 26 = .ok (.aload_n 0, 1) := by decide +kernel
theorem dX9_eat_27 : decode cX9_eat 27 = .ok (.getfield 38, 3) := by decide +kernel
theorem dX9_eat_30 : decode cX9_eat 30 = .ok (.invokevirtual 156, 3) := by decide +kernel
theorem dX9_eat_33 : decode cX9_eat 33 = .ok (.aload_n 0, 1) := by decide +kernel
theorem dX9_eat_34 : decode cX9_eat 34 = .ok (.getfield 38, 3) := by decide +kernel
theorem dX9_eat_37 : decode cX9_eat 37 = .ok (.aload_n 0, 1) := by decide +kernel
theorem dX9_eat_38 : decode cX9_eat 38 = .ok (.getfield 28, 3) := by decide +kernel
theorem dX9_eat_41 : decode cX9_eat 41 = .ok (.iload_n 1, 1) := by decide +kernel
theorem dX9_eat_42 : decode cX9_eat 42 = .ok (.invokevirtual 164, 3) := by decide +kernel
theorem dX9_eat_45 : decode cX9_eat 45 = .ok (.aload_n 0, 1) := by decide +kernel
theorem dX9_eat_46 : decode cX9_eat 46 = .ok (.getfield 38, 3) := by decide +kernel
theorem dX9_eat_49 : decode cX9_eat 49 = .ok (.getfield 132, 3) := by decide +kernel
theorem dX9_eat_52 : decode cX9_eat 52 = .ok (.iload_n 1, 1) := by decide +kernel
theorem dX9_eat_53 : decode cX9_eat 53 = .ok (.iaload, 1) := by decide +kernel
theorem dX9_eat_54 : decode cX9_eat 54 = .ok (.ireturn, 1) := by decide +kernel
def fX9_eat (n : Nat) (v0 : Nat) (v1 : Int32) (h : qH) : Option (Int32 × qH) :=
  (isO h v0 9).bind fun _ =>
  (fX9_isMatter v0 v1 h).bind fun p1 =>
  if p1.1 = 0 then
  (some ((-1), p1.2))
  else
  ((gR p1.2 v0 9 4).bind fun x3 =>
  (gR p1.2 x3 8 1).bind fun x5 =>
  (aI .int p1.2 x5 v1).bind fun x7 =>
  if x7 = 0 then
  (some ((-1), p1.2))
  else
  ((gR p1.2 v0 9 6).bind fun x10 =>
  (gR p1.2 v0 9 4).bind fun x12 =>
  (fX0_keep n x10 x12 p1.2).bind fun h14 =>
  (gR h14 v0 9 4).bind fun x15 =>
  (gR h14 v0 9 2).bind fun x17 =>
  (fX8_takeOff x15 x17 v1 h14).bind fun h19 =>
  (gR h19 v0 9 4).bind fun x20 =>
  (gR h19 x20 8 0).bind fun x22 =>
  (aI .int h19 x22 v1).bind fun x24 =>
  some (x24, h19)))
theorem obX9_eat {n : Nat} {v0 : Nat} {v1 : Int32} {h : qH} {p : Int32 × qH} (hyp : fX9_eat n v0 v1 h = some p) : ∃ fs, h.1 v0 = some (.inr (9, fs)) := by
  unfold fX9_eat at hyp
  exact q_bind hyp (fun _ e _ => isO_some e)
set_option maxHeartbeats 4000000 in
set_option maxRecDepth 100000 in
theorem okX9_eat {l : Launch} {n : Nat} {v0 : Nat} {v1 : Int32} {h : qH} {p : Int32 × qH} (hyp : fX9_eat n v0 v1 h = some p) : q_M l 3 yX9_eat cX9_eat 2 (some .int) [.ref v0, .int v1] h (some (.int p.1)) p.2 := by
  obtain ⟨r, h'⟩ := p
  unfold fX9_eat at hyp
  refine q_bind hyp (fun _ _ hyp => ?_)
  refine q_M.of (by decide) (Nat.le_of_ble_eq_true rfl) ?_
  refine q_to (ls' := [(0, .ref v0), (1, .int v1)]) (st' := []) rfl rfl ?_
  refine q_aload_n 0 rfl dX9_eat_0 ?_
  refine q_iload_n 1 rfl dX9_eat_1 ?_
  refine q_bind hyp (fun p1 e28 hyp => ?_)
  refine q_callV (as := [.int v1]) (st := []) kY_X9_isMatter kL_X9_122 (okX9_isMatter (l := l) e28) (by decide) rfl (obX9_isMatter e28) (Nat.le_of_ble_eq_true rfl) dX9_eat_2 ?_
  refine q_to (ls' := [(0, .ref v0), (1, .int v1)]) (st' := [.int p1.1]) rfl rfl ?_
  refine q_if_eq (tgt := 20) dX9_eat_5 (by decide) (fun c2 => ?_) (fun c2 => ?_)
  · have hyp := q_pos c2 hyp
    refine q_iconst (x := (-1)) rfl dX9_eat_20 ?_
    exact q_iretH rfl rfl dX9_eat_21 hyp
  · have hyp := q_neg c2 hyp
    refine q_aload_n 0 rfl dX9_eat_8 ?_
    refine q_bind hyp (fun x3 e4 hyp => ?_)
    refine q_getR kF_X9_38 dX9_eat_9 e4 ?_
    refine q_bind hyp (fun x5 e6 hyp => ?_)
    refine q_getR kF_X9_135 dX9_eat_12 e6 ?_
    refine q_iload_n 1 rfl dX9_eat_15 ?_
    refine q_bind hyp (fun x7 e8 hyp => ?_)
    refine q_iald dX9_eat_16 e8 ?_
    refine q_if_ne (tgt := 22) dX9_eat_17 (by decide) (fun c9 => ?_) (fun c9 => ?_)
    · have hyp := q_neg c9 hyp
      refine q_aload_n 0 rfl dX9_eat_22 ?_
      refine q_bind hyp (fun x10 e11 hyp => ?_)
      refine q_getR kF_X9_48 dX9_eat_23 e11 ?_
      refine q_aload_n 0 rfl dX9_eat_26 ?_
      refine q_bind hyp (fun x12 e13 hyp => ?_)
      refine q_getR kF_X9_38 dX9_eat_27 e13 ?_
      refine q_bind hyp (fun h14 e27 hyp => ?_)
      refine q_callV (as := [.ref x12]) (st := []) kY_X0_keep kL_X9_156 (okX0_keep (l := l) e27) (by decide) rfl (obX0_keep e27) (Nat.le_of_ble_eq_true rfl) dX9_eat_30 ?_
      refine q_to (ls' := [(0, .ref v0), (1, .int v1)]) (st' := []) rfl rfl ?_
      refine q_aload_n 0 rfl dX9_eat_33 ?_
      refine q_bind hyp (fun x15 e16 hyp => ?_)
      refine q_getR kF_X9_38 dX9_eat_34 e16 ?_
      refine q_aload_n 0 rfl dX9_eat_37 ?_
      refine q_bind hyp (fun x17 e18 hyp => ?_)
      refine q_getR kF_X9_28 dX9_eat_38 e18 ?_
      refine q_iload_n 1 rfl dX9_eat_41 ?_
      refine q_bind hyp (fun h19 e26 hyp => ?_)
      refine q_callV (as := [.ref x17, .int v1]) (st := []) kY_X8_takeOff kL_X9_164 (okX8_takeOff (l := l) e26) (by decide) rfl (obX8_takeOff e26) (Nat.le_of_ble_eq_true rfl) dX9_eat_42 ?_
      refine q_to (ls' := [(0, .ref v0), (1, .int v1)]) (st' := []) rfl rfl ?_
      refine q_aload_n 0 rfl dX9_eat_45 ?_
      refine q_bind hyp (fun x20 e21 hyp => ?_)
      refine q_getR kF_X9_38 dX9_eat_46 e21 ?_
      refine q_bind hyp (fun x22 e23 hyp => ?_)
      refine q_getR kF_X9_132 dX9_eat_49 e23 ?_
      refine q_iload_n 1 rfl dX9_eat_52 ?_
      refine q_bind hyp (fun x24 e25 hyp => ?_)
      refine q_iald dX9_eat_53 e25 ?_
      exact q_iretH rfl rfl dX9_eat_54 hyp
    · have hyp := q_pos c9 hyp
      refine q_iconst (x := (-1)) rfl dX9_eat_20 ?_
      exact q_iretH rfl rfl dX9_eat_21 hyp
theorem dX9_elders_0 : decode cX9_elders 0 = .ok (.aload_n 0, 1) := by decide +kernel
theorem dX9_elders_1 : decode cX9_elders 1 = .ok (.iload_n 1, 1) := by decide +kernel
theorem dX9_elders_2 : decode cX9_elders 2 = .ok (.invokevirtual 122, 3) := by decide +kernel
theorem dX9_elders_5 : decode cX9_elders 5 = .ok (.ifCond .eq 14, 3) := by decide +kernel
theorem dX9_elders_8 : decode cX9_elders 8 = .ok (.aload_n 0, 1) := by decide +kernel
theorem dX9_elders_9 : decode cX9_elders 9 = .ok (.getfield 28, 3) := by decide +kernel
theorem dX9_elders_12 : decode cX9_elders 12 = .ok (.iload_n 1, 1) := by decide +kernel
theorem dX9_elders_13 : decode cX9_elders 13 = .ok (.invokevirtual 270, 3) := by decide +kernel
theorem dX9_elders_16 : decode cX9_elders 16 = .ok (.goto 4, 3) := by decide +kernel
theorem dX9_elders_19 : decode cX9_elders 19 = .ok (.iconst (-1), 1) := by decide +kernel
theorem dX9_elders_20 : decode cX9_elders 20 = .ok (.ireturn, 1) := by decide +kernel
def fX9_elders (n : Nat) (v0 : Nat) (v1 : Int32) (h : qH) : Option (Int32 × qH) :=
  (isO h v0 9).bind fun _ =>
  (fX9_isMatter v0 v1 h).bind fun p1 =>
  if p1.1 = 0 then
  (some ((-1), p1.2))
  else
  ((gR p1.2 v0 9 2).bind fun x3 =>
  (fX5_elderBits n x3 v1 p1.2).bind fun p5 =>
  some (p5.1, p5.2))
theorem obX9_elders {n : Nat} {v0 : Nat} {v1 : Int32} {h : qH} {p : Int32 × qH} (hyp : fX9_elders n v0 v1 h = some p) : ∃ fs, h.1 v0 = some (.inr (9, fs)) := by
  unfold fX9_elders at hyp
  exact q_bind hyp (fun _ e _ => isO_some e)
set_option maxHeartbeats 4000000 in
set_option maxRecDepth 100000 in
theorem okX9_elders {l : Launch} {n : Nat} {v0 : Nat} {v1 : Int32} {h : qH} {p : Int32 × qH} (hyp : fX9_elders n v0 v1 h = some p) : q_M l 2 yX9_elders cX9_elders 2 (some .int) [.ref v0, .int v1] h (some (.int p.1)) p.2 := by
  obtain ⟨r, h'⟩ := p
  unfold fX9_elders at hyp
  refine q_bind hyp (fun _ _ hyp => ?_)
  refine q_M.of (by decide) (Nat.le_of_ble_eq_true rfl) ?_
  refine q_to (ls' := [(0, .ref v0), (1, .int v1)]) (st' := []) rfl rfl ?_
  refine q_aload_n 0 rfl dX9_elders_0 ?_
  refine q_iload_n 1 rfl dX9_elders_1 ?_
  refine q_bind hyp (fun p1 e7 hyp => ?_)
  refine q_callV (as := [.int v1]) (st := []) kY_X9_isMatter kL_X9_122 (okX9_isMatter (l := l) e7) (by decide) rfl (obX9_isMatter e7) (Nat.le_of_ble_eq_true rfl) dX9_elders_2 ?_
  refine q_to (ls' := [(0, .ref v0), (1, .int v1)]) (st' := [.int p1.1]) rfl rfl ?_
  refine q_if_eq (tgt := 19) dX9_elders_5 (by decide) (fun c2 => ?_) (fun c2 => ?_)
  · have hyp := q_pos c2 hyp
    refine q_iconst (x := (-1)) rfl dX9_elders_19 ?_
    exact q_iretH rfl rfl dX9_elders_20 hyp
  · have hyp := q_neg c2 hyp
    refine q_aload_n 0 rfl dX9_elders_8 ?_
    refine q_bind hyp (fun x3 e4 hyp => ?_)
    refine q_getR kF_X9_28 dX9_elders_9 e4 ?_
    refine q_iload_n 1 rfl dX9_elders_12 ?_
    refine q_bind hyp (fun p5 e6 hyp => ?_)
    refine q_callV (as := [.int v1]) (st := []) kY_X5_elderBits kL_X9_270 (okX5_elderBits (l := l) e6) (by decide) rfl (obX5_elderBits e6) (Nat.le_of_ble_eq_true rfl) dX9_elders_13 ?_
    refine q_to (ls' := [(0, .ref v0), (1, .int v1)]) (st' := [.int p5.1]) rfl rfl ?_
    refine q_goto (tgt := 20) dX9_elders_16 (by decide) ?_
    exact q_iretH rfl rfl dX9_elders_20 hyp
theorem dX9_feed_0 : decode cX9_feed 0 = .ok (.aload_n 0, 1) := by decide +kernel
theorem dX9_feed_1 : decode cX9_feed 1 = .ok (.getfield 10, 3) := by decide +kernel
theorem dX9_feed_4 : decode cX9_feed 4 = .ok (.lload_n 1, 1) := by decide +kernel
theorem dX9_feed_5 : decode cX9_feed 5 = .ok (.invokevirtual 90, 3) := by decide +kernel
theorem dX9_feed_8 : decode cX9_feed 8 = .ok (.aload_n 0, 1) := by decide +kernel
theorem dX9_feed_9 : decode cX9_feed 9 = .ok (.getfield 10, 3) := by decide +kernel
theorem dX9_feed_12 : decode cX9_feed 12 = .ok (.lload_n 3, 1) := by decide +kernel
theorem dX9_feed_13 : decode cX9_feed 13 = .ok (.invokevirtual 90, 3) := by decide +kernel
theorem dX9_feed_16 : decode cX9_feed 16 = .ok (.aload_n 0, 1) := by decide +kernel
theorem dX9_feed_17 : decode cX9_feed 17 = .ok (.getfield 10, 3) := by decide +kernel
theorem dX9_feed_20 : decode cX9_feed 20 = .ok (.lload 5, 2) := by decide +kernel
theorem dX9_feed_22 : decode cX9_feed 22 = .ok (.invokevirtual 90, 3) := by decide +kernel
theorem dX9_feed_25 : decode cX9_feed 25 = .ok (.aload_n 0, 1) := by decide +kernel
theorem dX9_feed_26 : decode cX9_feed 26 = .ok (.getfield 10, 3) := by decide +kernel
theorem dX9_feed_29 : decode cX9_feed 29 = .ok (.getfield 94, 3) := by decide +kernel
theorem dX9_feed_32 : decode cX9_feed 32 = .ok (.ireturn, 1) := by decide +kernel
def fX9_feed (n : Nat) (v0 : Nat) (v1 : Int64) (v3 : Int64) (v5 : Int64) (h : qH) : Option (Int32 × qH) :=
  (isO h v0 9).bind fun _ =>
  (gR h v0 9 0).bind fun x1 =>
  (fX6_addBytes n x1 v1 h).bind fun h3 =>
  (gR h3 v0 9 0).bind fun x4 =>
  (fX6_addBytes n x4 v3 h3).bind fun h6 =>
  (gR h6 v0 9 0).bind fun x7 =>
  (fX6_addBytes n x7 v5 h6).bind fun h9 =>
  (gR h9 v0 9 0).bind fun x10 =>
  (gI h9 x10 6 1).bind fun x12 =>
  some (x12, h9)
theorem obX9_feed {n : Nat} {v0 : Nat} {v1 : Int64} {v3 : Int64} {v5 : Int64} {h : qH} {p : Int32 × qH} (hyp : fX9_feed n v0 v1 v3 v5 h = some p) : ∃ fs, h.1 v0 = some (.inr (9, fs)) := by
  unfold fX9_feed at hyp
  exact q_bind hyp (fun _ e _ => isO_some e)
set_option maxHeartbeats 4000000 in
set_option maxRecDepth 100000 in
theorem okX9_feed {l : Launch} {n : Nat} {v0 : Nat} {v1 : Int64} {v3 : Int64} {v5 : Int64} {h : qH} {p : Int32 × qH} (hyp : fX9_feed n v0 v1 v3 v5 h = some p) : q_M l 3 yX9_feed cX9_feed 7 (some .int) [.ref v0, .long v1, .long v3, .long v5] h (some (.int p.1)) p.2 := by
  obtain ⟨r, h'⟩ := p
  unfold fX9_feed at hyp
  refine q_bind hyp (fun _ _ hyp => ?_)
  refine q_M.of (by decide) (Nat.le_of_ble_eq_true rfl) ?_
  refine q_to (ls' := [(0, .ref v0), (1, .long v1), (3, .long v3), (5, .long v5)]) (st' := []) rfl rfl ?_
  refine q_aload_n 0 rfl dX9_feed_0 ?_
  refine q_bind hyp (fun x1 e2 hyp => ?_)
  refine q_getR kF_X9_10 dX9_feed_1 e2 ?_
  refine q_lload_n 1 rfl dX9_feed_4 ?_
  refine q_bind hyp (fun h3 e16 hyp => ?_)
  refine q_callV (as := [.long v1]) (st := []) kY_X6_addBytes kL_X9_90 (okX6_addBytes (l := l) e16) (by decide) rfl (obX6_addBytes e16) (Nat.le_of_ble_eq_true rfl) dX9_feed_5 ?_
  refine q_to (ls' := [(0, .ref v0), (1, .long v1), (3, .long v3), (5, .long v5)]) (st' := []) rfl rfl ?_
  refine q_aload_n 0 rfl dX9_feed_8 ?_
  refine q_bind hyp (fun x4 e5 hyp => ?_)
  refine q_getR kF_X9_10 dX9_feed_9 e5 ?_
  refine q_lload_n 2 rfl dX9_feed_12 ?_
  refine q_bind hyp (fun h6 e15 hyp => ?_)
  refine q_callV (as := [.long v3]) (st := []) kY_X6_addBytes kL_X9_90 (okX6_addBytes (l := l) e15) (by decide) rfl (obX6_addBytes e15) (Nat.le_of_ble_eq_true rfl) dX9_feed_13 ?_
  refine q_to (ls' := [(0, .ref v0), (1, .long v1), (3, .long v3), (5, .long v5)]) (st' := []) rfl rfl ?_
  refine q_aload_n 0 rfl dX9_feed_16 ?_
  refine q_bind hyp (fun x7 e8 hyp => ?_)
  refine q_getR kF_X9_10 dX9_feed_17 e8 ?_
  refine q_lload 3 rfl dX9_feed_20 ?_
  refine q_bind hyp (fun h9 e14 hyp => ?_)
  refine q_callV (as := [.long v5]) (st := []) kY_X6_addBytes kL_X9_90 (okX6_addBytes (l := l) e14) (by decide) rfl (obX6_addBytes e14) (Nat.le_of_ble_eq_true rfl) dX9_feed_22 ?_
  refine q_to (ls' := [(0, .ref v0), (1, .long v1), (3, .long v3), (5, .long v5)]) (st' := []) rfl rfl ?_
  refine q_aload_n 0 rfl dX9_feed_25 ?_
  refine q_bind hyp (fun x10 e11 hyp => ?_)
  refine q_getR kF_X9_10 dX9_feed_26 e11 ?_
  refine q_bind hyp (fun x12 e13 hyp => ?_)
  refine q_getI kF_X9_94 dX9_feed_29 e13 ?_
  exact q_iretH rfl rfl dX9_feed_32 hyp
theorem dX9_fills_0 : decode cX9_fills 0 = .ok (.iload_n 1, 1) := by decide +kernel
theorem dX9_fills_1 : decode cX9_fills 1 = .ok (.iconst 0, 1) := by decide +kernel
theorem dX9_fills_2 : decode cX9_fills 2 = .ok (.sipush 200, 3) := by decide +kernel
theorem dX9_fills_5 : decode cX9_fills 5 = .ok (.invokestatic 180, 3) := by decide +kernel
theorem dX9_fills_8 : decode cX9_fills 8 = .ok (.ifCond .ne 5, 3) := by decide +kernel
theorem dX9_fills_11 : decode cX9_fills 11 = .ok (.iconst (-1), 1) := by decide +kernel
theorem dX9_fills_12 : decode cX9_fills 12 = .ok (.ireturn, 1) := by decide +kernel
theorem dX9_fills_13 : decode cX9_fills 13 = .ok (.aload_n 0, 1) := by decide +kernel
theorem dX9_fills_14 : decode cX9_fills 14 = .ok (.getfield 38, 3) := by decide +kernel
theorem dX9_fills_17 : decode cX9_fills 17 = .ok (.getfield 241, 3) := by decide +kernel
theorem dX9_fills_20 : decode cX9_fills 20 = .ok (.istore_n 2, 1) := by decide +kernel
theorem dX9_fills_21 : decode cX9_fills 21 = .ok (.iconst 0, 1) := by decide +kernel
theorem dX9_fills_22 : decode cX9_fills 22 = .ok (.istore_n 3, 1) := by decide +kernel
theorem dX9_fills_23 : decode cX9_fills 23 = .ok (.iload_n 3, 1) := by decide +kernel
theorem dX9_fills_24 : decode cX9_fills 24 = .ok (.bipush 60, 2) := by decide +kernel
theorem dX9_fills_26 : decode cX9_fills 26 = .ok (.if_icmp .gt 25, 3) := by decide +kernel
theorem dX9_fills_29 : decode cX9_fills 29 = .ok (.iload_n 2, 1) := by decide +kernel
theorem dX9_fills_30 : decode cX9_fills 30 = .ok (.iload_n 1, 1) := by decide +kernel
theorem dX9_fills_31 : decode cX9_fills 31 = .ok (.if_icmp .lt 5, 3) := by decide +kernel
theorem dX9_fills_34 : decode cX9_fills 34 = .ok (.iload_n 3, 1) := by decide +kernel
theorem dX9_fills_35 : decode cX9_fills 35 = .ok (.ireturn, 1) := by decide +kernel
theorem dX9_fills_36 : decode cX9_fills 36 = .ok (.aload_n 0, 1) := by decide +kernel
theorem dX9_fills_37 : decode cX9_fills 37 = .ok (.getfield 28, 3) := by decide +kernel
theorem dX9_fills_40 : decode cX9_fills 40 = .ok (.iload_n 2, 1) := by decide +kernel
theorem dX9_fills_41 : decode cX9_fills 41 = .ok (.invokevirtual 253, 3) := by decide +kernel
theorem dX9_fills_44 : decode cX9_fills 44 = .ok (.istore_n 2, 1) := by decide +kernel
theorem dX9_fills_45 : decode cX9_fills 45 = .ok (.iinc 3 1, 3) := by decide +kernel
theorem dX9_fills_48 : decode cX9_fills 48 = .ok (.goto (-25), 3) := by decide +kernel
theorem dX9_fills_51 : decode cX9_fills 51 = .ok (.iconst (-1), 1) := by decide +kernel
theorem dX9_fills_52 : decode cX9_fills 52 = .ok (.ireturn, 1) := by decide +kernel
def fX9_fills_b23 (n : Nat) : Nat → Nat → Int32 → Int32 → Int32 → qH → Option (Int32 × qH)
  | 0, _, _, _, _, _ => none
  | w + 1, v0, v1, v2, v3, h =>
    if 60 < v3 then
    (some ((-1), h))
    else
    (if v2 < v1 then
    ((gR h v0 9 2).bind fun x3 =>
    (fX5_potAfterYear x3 v2 h).bind fun p5 =>
    fX9_fills_b23 n w v0 v1 p5.1 (v3 + 1) p5.2)
    else
    (some (v3, h)))
set_option maxHeartbeats 4000000 in
set_option maxRecDepth 100000 in
theorem okX9_fills_b23 {l : Launch} {n : Nat} {r : Int32} {h' : qH} : ∀ (w : Nat) (v0 : Nat) (v1 : Int32) (v2 : Int32) (v3 : Int32) (h : qH), fX9_fills_b23 n w v0 v1 v2 v3 h = some (r, h') → q_W l 2 yX9_fills cX9_fills 4 (some .int) (some (.int r)) h' 23 [(0, .ref v0), (1, .int v1), (2, .int v2), (3, .int v3)] [] h := by
  intro w
  induction w with
  | zero => intro v0 v1 v2 v3 h hyp; cases hyp
  | succ w ih =>
    intro v0 v1 v2 v3 h hyp
    unfold fX9_fills_b23 at hyp
    refine q_iload_n 3 rfl dX9_fills_23 ?_
    refine q_bipush (x := 60) (by decide) dX9_fills_24 ?_
    refine q_icmp_gt (tgt := 51) dX9_fills_26 (by decide) (fun c1 => ?_) (fun c1 => ?_)
    · have hyp := q_pos c1 hyp
      refine q_iconst (x := (-1)) rfl dX9_fills_51 ?_
      exact q_iretH rfl rfl dX9_fills_52 hyp
    · have hyp := q_neg c1 hyp
      refine q_iload_n 2 rfl dX9_fills_29 ?_
      refine q_iload_n 1 rfl dX9_fills_30 ?_
      refine q_icmp_lt (tgt := 36) dX9_fills_31 (by decide) (fun c2 => ?_) (fun c2 => ?_)
      · have hyp := q_pos c2 hyp
        refine q_aload_n 0 rfl dX9_fills_36 ?_
        refine q_bind hyp (fun x3 e4 hyp => ?_)
        refine q_getR kF_X9_28 dX9_fills_37 e4 ?_
        refine q_iload_n 2 rfl dX9_fills_40 ?_
        refine q_bind hyp (fun p5 e6 hyp => ?_)
        refine q_callV (as := [.int v2]) (st := []) kY_X5_potAfterYear kL_X9_253 (okX5_potAfterYear (l := l) e6) (by decide) rfl (obX5_potAfterYear e6) (Nat.le_of_ble_eq_true rfl) dX9_fills_41 ?_
        refine q_to (ls' := [(0, .ref v0), (1, .int v1), (2, .int v2), (3, .int v3)]) (st' := [.int p5.1]) rfl rfl ?_
        refine q_istore_n (ls' := [(2, .int p5.1), (0, .ref v0), (1, .int v1), (3, .int v3)]) (by decide) rfl dX9_fills_44 ?_
        refine q_iinc (ls' := [(3, .int (v3 + 1)), (2, .int p5.1), (0, .ref v0), (1, .int v1)]) 3 rfl rfl (by decide) rfl dX9_fills_45 ?_
        refine q_goto (tgt := 23) dX9_fills_48 (by decide) ?_
        exact q_sub [2, 3, 1, 0] rfl (ih v0 v1 p5.1 (v3 + 1) p5.2 hyp)
      · have hyp := q_neg c2 hyp
        refine q_iload_n 3 rfl dX9_fills_34 ?_
        exact q_iretH rfl rfl dX9_fills_35 hyp
def fX9_fills (n : Nat) (v0 : Nat) (v1 : Int32) (h : qH) : Option (Int32 × qH) :=
  (isO h v0 9).bind fun _ =>
  (fX9_within v1 0 200 h).bind fun p1 =>
  if p1.1 = 0 then
  (some ((-1), p1.2))
  else
  ((gR p1.2 v0 9 4).bind fun x3 =>
  (gI p1.2 x3 8 2).bind fun x5 =>
  fX9_fills_b23 n n v0 v1 x5 0 p1.2)
theorem obX9_fills {n : Nat} {v0 : Nat} {v1 : Int32} {h : qH} {p : Int32 × qH} (hyp : fX9_fills n v0 v1 h = some p) : ∃ fs, h.1 v0 = some (.inr (9, fs)) := by
  unfold fX9_fills at hyp
  exact q_bind hyp (fun _ e _ => isO_some e)
set_option maxHeartbeats 4000000 in
set_option maxRecDepth 100000 in
theorem okX9_fills {l : Launch} {n : Nat} {v0 : Nat} {v1 : Int32} {h : qH} {p : Int32 × qH} (hyp : fX9_fills n v0 v1 h = some p) : q_M l 2 yX9_fills cX9_fills 4 (some .int) [.ref v0, .int v1] h (some (.int p.1)) p.2 := by
  obtain ⟨r, h'⟩ := p
  unfold fX9_fills at hyp
  refine q_bind hyp (fun _ _ hyp => ?_)
  refine q_M.of (by decide) (Nat.le_of_ble_eq_true rfl) ?_
  refine q_to (ls' := [(0, .ref v0), (1, .int v1)]) (st' := []) rfl rfl ?_
  refine q_iload_n 1 rfl dX9_fills_0 ?_
  refine q_iconst (x := 0) rfl dX9_fills_1 ?_
  refine q_sipush (x := 200) (by decide) dX9_fills_2 ?_
  refine q_bind hyp (fun p1 e7 hyp => ?_)
  refine q_callS (as := [.int v1, .int 0, .int 200]) (st := []) kY_X9_within kS_X9_within kL_X9_180 (okX9_within (l := l) e7) (by decide) rfl (Nat.le_of_ble_eq_true rfl) dX9_fills_5 ?_
  refine q_to (ls' := [(0, .ref v0), (1, .int v1)]) (st' := [.int p1.1]) rfl rfl ?_
  refine q_if_ne (tgt := 13) dX9_fills_8 (by decide) (fun c2 => ?_) (fun c2 => ?_)
  · have hyp := q_neg c2 hyp
    refine q_aload_n 0 rfl dX9_fills_13 ?_
    refine q_bind hyp (fun x3 e4 hyp => ?_)
    refine q_getR kF_X9_38 dX9_fills_14 e4 ?_
    refine q_bind hyp (fun x5 e6 hyp => ?_)
    refine q_getI kF_X9_241 dX9_fills_17 e6 ?_
    refine q_istore_n (ls' := [(2, .int x5), (0, .ref v0), (1, .int v1)]) (by decide) rfl dX9_fills_20 ?_
    refine q_iconst (x := 0) rfl dX9_fills_21 ?_
    refine q_istore_n (ls' := [(3, .int 0), (2, .int x5), (0, .ref v0), (1, .int v1)]) (by decide) rfl dX9_fills_22 ?_
    exact q_sub [2, 3, 1, 0] rfl (okX9_fills_b23 _ v0 v1 x5 0 p1.2 hyp)
  · have hyp := q_pos c2 hyp
    refine q_iconst (x := (-1)) rfl dX9_fills_11 ?_
    exact q_iretH rfl rfl dX9_fills_12 hyp
theorem dX9_fruits_0 : decode cX9_fruits 0 = .ok (.aload_n 0, 1) := by decide +kernel
theorem dX9_fruits_1 : decode cX9_fruits 1 = .ok (.iload_n 1, 1) := by decide +kernel
theorem dX9_fruits_2 : decode cX9_fruits 2 = .ok (.invokevirtual 122, 3) := by decide +kernel
theorem dX9_fruits_5 : decode cX9_fruits 5 = .ok (.ifCond .eq 14, 3) := by decide +kernel
theorem dX9_fruits_8 : decode cX9_fruits 8 = .ok (.aload_n 0, 1) := by decide +kernel
theorem dX9_fruits_9 : decode cX9_fruits 9 = .ok (.getfield 28, 3) := by decide +kernel
theorem dX9_fruits_12 : decode cX9_fruits 12 = .ok (.iload_n 1, 1) := by decide +kernel
theorem dX9_fruits_13 : decode cX9_fruits 13 = .ok (.invokevirtual 229, 3) := by decide +kernel
theorem dX9_fruits_16 : decode cX9_fruits 16 = .ok (.goto 4, 3) := by decide +kernel
theorem dX9_fruits_19 : decode cX9_fruits 19 = .ok (.iconst (-1), 1) := by decide +kernel
theorem dX9_fruits_20 : decode cX9_fruits 20 = .ok (.ireturn, 1) := by decide +kernel
def fX9_fruits (n : Nat) (v0 : Nat) (v1 : Int32) (h : qH) : Option (Int32 × qH) :=
  (isO h v0 9).bind fun _ =>
  (fX9_isMatter v0 v1 h).bind fun p1 =>
  if p1.1 = 0 then
  (some ((-1), p1.2))
  else
  ((gR p1.2 v0 9 2).bind fun x3 =>
  (fX5_fruitBits n x3 v1 p1.2).bind fun p5 =>
  some (p5.1, p5.2))
theorem obX9_fruits {n : Nat} {v0 : Nat} {v1 : Int32} {h : qH} {p : Int32 × qH} (hyp : fX9_fruits n v0 v1 h = some p) : ∃ fs, h.1 v0 = some (.inr (9, fs)) := by
  unfold fX9_fruits at hyp
  exact q_bind hyp (fun _ e _ => isO_some e)
set_option maxHeartbeats 4000000 in
set_option maxRecDepth 100000 in
theorem okX9_fruits {l : Launch} {n : Nat} {v0 : Nat} {v1 : Int32} {h : qH} {p : Int32 × qH} (hyp : fX9_fruits n v0 v1 h = some p) : q_M l 3 yX9_fruits cX9_fruits 2 (some .int) [.ref v0, .int v1] h (some (.int p.1)) p.2 := by
  obtain ⟨r, h'⟩ := p
  unfold fX9_fruits at hyp
  refine q_bind hyp (fun _ _ hyp => ?_)
  refine q_M.of (by decide) (Nat.le_of_ble_eq_true rfl) ?_
  refine q_to (ls' := [(0, .ref v0), (1, .int v1)]) (st' := []) rfl rfl ?_
  refine q_aload_n 0 rfl dX9_fruits_0 ?_
  refine q_iload_n 1 rfl dX9_fruits_1 ?_
  refine q_bind hyp (fun p1 e7 hyp => ?_)
  refine q_callV (as := [.int v1]) (st := []) kY_X9_isMatter kL_X9_122 (okX9_isMatter (l := l) e7) (by decide) rfl (obX9_isMatter e7) (Nat.le_of_ble_eq_true rfl) dX9_fruits_2 ?_
  refine q_to (ls' := [(0, .ref v0), (1, .int v1)]) (st' := [.int p1.1]) rfl rfl ?_
  refine q_if_eq (tgt := 19) dX9_fruits_5 (by decide) (fun c2 => ?_) (fun c2 => ?_)
  · have hyp := q_pos c2 hyp
    refine q_iconst (x := (-1)) rfl dX9_fruits_19 ?_
    exact q_iretH rfl rfl dX9_fruits_20 hyp
  · have hyp := q_neg c2 hyp
    refine q_aload_n 0 rfl dX9_fruits_8 ?_
    refine q_bind hyp (fun x3 e4 hyp => ?_)
    refine q_getR kF_X9_28 dX9_fruits_9 e4 ?_
    refine q_iload_n 1 rfl dX9_fruits_12 ?_
    refine q_bind hyp (fun p5 e6 hyp => ?_)
    refine q_callV (as := [.int v1]) (st := []) kY_X5_fruitBits kL_X9_229 (okX5_fruitBits (l := l) e6) (by decide) rfl (obX5_fruitBits e6) (Nat.le_of_ble_eq_true rfl) dX9_fruits_13 ?_
    refine q_to (ls' := [(0, .ref v0), (1, .int v1)]) (st' := [.int p5.1]) rfl rfl ?_
    refine q_goto (tgt := 20) dX9_fruits_16 (by decide) ?_
    exact q_iretH rfl rfl dX9_fruits_20 hyp
theorem dX9_gain_0 : decode cX9_gain 0 = .ok (.iload_n 3, 1) := by decide +kernel
theorem dX9_gain_1 : decode cX9_gain 1 = .ok (.iconst 1, 1) := by decide +kernel
theorem dX9_gain_2 : decode cX9_gain 2 = .ok (.if_icmp .ne 16, 3) := by decide +kernel
theorem dX9_gain_5 : decode cX9_gain 5 = .ok (.iload 4, 2) := by decide +kernel
theorem dX9_gain_7 : decode cX9_gain 7 = .ok (.iconst 1, 1) := by decide +kernel
theorem dX9_gain_8 : decode cX9_gain 8 = .ok (.if_icmp .ne 7, 3) := by decide +kernel
theorem dX9_gain_11 : decode cX9_gain 11 = .ok (.iload_n 0, 1) := by decide +kernel
theorem dX9_gain_12 : decode cX9_gain 12 = .ok (.goto 5, 3) := by decide +kernel
theorem dX9_gain_15 : decode cX9_gain 15 = .ok (.iload_n 1, 1) := by decide +kernel
theorem dX9_gain_16 : decode cX9_gain 16 = .ok (.ineg, 1) := by decide +kernel
theorem dX9_gain_17 : decode cX9_gain 17 = .ok (.ireturn, 1) := by decide +kernel
theorem dX9_gain_18 : decode cX9_gain 18 = .ok (.iload 4, 2) := by decide +kernel
theorem dX9_gain_20 : decode cX9_gain 20 = .ok (.iconst 1, 1) := by decide +kernel
theorem dX9_gain_21 : decode cX9_gain 21 = .ok (.if_icmp .ne 7, 3) := by decide +kernel
theorem dX9_gain_24 : decode cX9_gain 24 = .ok (.iload_n 2, 1) := by decide +kernel
theorem dX9_gain_25 : decode cX9_gain 25 = .ok (.goto 4, 3) := by decide +kernel
theorem dX9_gain_28 : decode cX9_gain 28 = .ok (.iconst 0, 1) := by decide +kernel
theorem dX9_gain_29 : decode cX9_gain 29 = .ok (.ireturn, 1) := by decide +kernel
def fX9_gain (v0 : Int32) (v1 : Int32) (v2 : Int32) (v3 : Int32) (v4 : Int32) (h : qH) : Option (Int32 × qH) :=
  if v3 = 1 then
  (if v4 = 1 then
  (some (v0, h))
  else
  (some (-v1, h)))
  else
  (if v4 = 1 then
  (some (v2, h))
  else
  (some (0, h)))
set_option maxHeartbeats 4000000 in
set_option maxRecDepth 100000 in
theorem okX9_gain {l : Launch} {v0 : Int32} {v1 : Int32} {v2 : Int32} {v3 : Int32} {v4 : Int32} {h : qH} {p : Int32 × qH} (hyp : fX9_gain v0 v1 v2 v3 v4 h = some p) : q_M l 1 yX9_gain cX9_gain 5 (some .int) [.int v0, .int v1, .int v2, .int v3, .int v4] h (some (.int p.1)) p.2 := by
  obtain ⟨r, h'⟩ := p
  unfold fX9_gain at hyp
  refine q_M.of (by decide) (Nat.le_of_ble_eq_true rfl) ?_
  refine q_to (ls' := [(0, .int v0), (1, .int v1), (2, .int v2), (3, .int v3), (4, .int v4)]) (st' := []) rfl rfl ?_
  refine q_iload_n 3 rfl dX9_gain_0 ?_
  refine q_iconst (x := 1) rfl dX9_gain_1 ?_
  refine q_icmp_ne (tgt := 18) dX9_gain_2 (by decide) (fun c1 => ?_) (fun c1 => ?_)
  · have hyp := q_neg c1 hyp
    refine q_iload 4 rfl dX9_gain_18 ?_
    refine q_iconst (x := 1) rfl dX9_gain_20 ?_
    refine q_icmp_ne (tgt := 28) dX9_gain_21 (by decide) (fun c2 => ?_) (fun c2 => ?_)
    · have hyp := q_neg c2 hyp
      refine q_iconst (x := 0) rfl dX9_gain_28 ?_
      exact q_iretH rfl rfl dX9_gain_29 hyp
    · have hyp := q_pos c2 hyp
      refine q_iload_n 2 rfl dX9_gain_24 ?_
      refine q_goto (tgt := 29) dX9_gain_25 (by decide) ?_
      exact q_iretH rfl rfl dX9_gain_29 hyp
  · have hyp := q_pos c1 hyp
    refine q_iload 4 rfl dX9_gain_5 ?_
    refine q_iconst (x := 1) rfl dX9_gain_7 ?_
    refine q_icmp_ne (tgt := 15) dX9_gain_8 (by decide) (fun c3 => ?_) (fun c3 => ?_)
    · have hyp := q_neg c3 hyp
      refine q_iload_n 1 rfl dX9_gain_15 ?_
      refine q_ineg dX9_gain_16 ?_
      exact q_iretH rfl rfl dX9_gain_17 hyp
    · have hyp := q_pos c3 hyp
      refine q_iload_n 0 rfl dX9_gain_11 ?_
      refine q_goto (tgt := 17) dX9_gain_12 (by decide) ?_
      exact q_iretH rfl rfl dX9_gain_17 hyp
theorem dX9_gap_0 : decode cX9_gap 0 = .ok (.aload_n 0, 1) := by decide +kernel
theorem dX9_gap_1 : decode cX9_gap 1 = .ok (.getfield 28, 3) := by decide +kernel
theorem dX9_gap_4 : decode cX9_gap 4 = .ok (.invokevirtual 273, 3) := by decide +kernel
theorem dX9_gap_7 : decode cX9_gap 7 = .ok (.ireturn, 1) := by decide +kernel
def fX9_gap (n : Nat) (v0 : Nat) (h : qH) : Option (Int32 × qH) :=
  (isO h v0 9).bind fun _ =>
  (gR h v0 9 2).bind fun x1 =>
  (fX5_widestGap n x1 h).bind fun p3 =>
  some (p3.1, p3.2)
theorem obX9_gap {n : Nat} {v0 : Nat} {h : qH} {p : Int32 × qH} (hyp : fX9_gap n v0 h = some p) : ∃ fs, h.1 v0 = some (.inr (9, fs)) := by
  unfold fX9_gap at hyp
  exact q_bind hyp (fun _ e _ => isO_some e)
set_option maxHeartbeats 4000000 in
set_option maxRecDepth 100000 in
theorem okX9_gap {l : Launch} {n : Nat} {v0 : Nat} {h : qH} {p : Int32 × qH} (hyp : fX9_gap n v0 h = some p) : q_M l 3 yX9_gap cX9_gap 1 (some .int) [.ref v0] h (some (.int p.1)) p.2 := by
  obtain ⟨r, h'⟩ := p
  unfold fX9_gap at hyp
  refine q_bind hyp (fun _ _ hyp => ?_)
  refine q_M.of (by decide) (Nat.le_of_ble_eq_true rfl) ?_
  refine q_to (ls' := [(0, .ref v0)]) (st' := []) rfl rfl ?_
  refine q_aload_n 0 rfl dX9_gap_0 ?_
  refine q_bind hyp (fun x1 e2 hyp => ?_)
  refine q_getR kF_X9_28 dX9_gap_1 e2 ?_
  refine q_bind hyp (fun p3 e4 hyp => ?_)
  refine q_callV (as := []) (st := []) kY_X5_widestGap kL_X9_273 (okX5_widestGap (l := l) e4) (by decide) rfl (obX5_widestGap e4) (Nat.le_of_ble_eq_true rfl) dX9_gap_4 ?_
  refine q_to (ls' := [(0, .ref v0)]) (st' := [.int p3.1]) rfl rfl ?_
  exact q_iretH rfl rfl dX9_gap_7 hyp
theorem dX9_heals_0 : decode cX9_heals 0 = .ok (.aload_n 0, 1) := by decide +kernel
theorem dX9_heals_1 : decode cX9_heals 1 = .ok (.iload_n 1, 1) := by decide +kernel
theorem dX9_heals_2 : decode cX9_heals 2 = .ok (.invokevirtual 122, 3) := by decide +kernel
theorem dX9_heals_5 : decode cX9_heals 5 = .ok (.ifCond .ne 5, 3) := by decide +kernel
theorem dX9_heals_8 : decode cX9_heals 8 = .ok (.iconst (-1), 1) := by decide +kernel
theorem dX9_heals_9 : decode cX9_heals 9 = .ok (.ireturn, 1) := by decide +kernel
theorem dX9_heals_10 : decode cX9_heals 10 = .ok (.aload_n 0, 1) := by decide +kernel
theorem dX9_heals_11 : decode cX9_heals 11 = .ok (.getfield 38, 3) := by decide +kernel
theorem dX9_heals_14 : decode cX9_heals 14 = .ok (.getfield 132, 3) := by decide +kernel
theorem dX9_heals_17 : decode cX9_heals 17 = .ok (.iload_n 1, 1) := by decide +kernel
theorem dX9_heals_18 : decode cX9_heals 18 = .ok (.iaload, 1) := by decide +kernel
theorem dX9_heals_19 : decode cX9_heals 19 = .ok (.istore_n 2, 1) := by decide +kernel
theorem dX9_heals_20 : decode cX9_heals 20 = .ok (.iconst 0, 1) := by decide +kernel
theorem dX9_heals_21 : decode cX9_heals 21 = .ok (.istore_n 3, 1) := by decide +kernel
theorem dX9_heals_22 : decode cX9_heals 22 = .ok (.iload_n 3, 1) := by decide +kernel
theorem dX9_heals_23 : decode cX9_heals 23 = .ok (.bipush 60, 2) := by decide +kernel
theorem dX9_heals_25 : decode cX9_heals 25 = .ok (.if_icmp .gt 34, 3) := by decide +kernel
theorem dX9_heals_28 : decode cX9_heals 28 = .ok (.iload_n 2, 1) := by decide +kernel
theorem dX9_heals_29 : decode cX9_heals 29 = .ok (.ifCond .ne 5, 3) := by decide +kernel
theorem dX9_heals_32 : decode cX9_heals 32 = .ok (.iload_n 3, 1) := by decide +kernel
theorem dX9_heals_33 : decode cX9_heals 33 = .ok (.ireturn, 1) := by decide +kernel
theorem dX9_heals_34 : decode cX9_heals 34 = .ok (.aload_n 0, 1) := by decide +kernel
theorem dX9_heals_35 : decode cX9_heals 35 = .ok (.getfield 28, 3) := by decide +kernel
theorem dX9_heals_38 : decode cX9_heals 38 = .ok (.iload_n 1, 1) := by decide +kernel
theorem dX9_heals_39 : decode cX9_heals 39 = .ok (.iload_n 2, 1) := by decide +kernel
theorem dX9_heals_40 : decode cX9_heals 40 = .ok (.aload_n 0, 1) := by decide +kernel
theorem dX9_heals_41 : decode cX9_heals 41 = .ok (.getfield 38, 3) := by decide +kernel
theorem dX9_heals_44 : decode cX9_heals 44 = .ok (.getfield 135, 3) := by decide +kernel
theorem dX9_heals_47 : decode cX9_heals 47 = .ok (.iload_n 1, 1) := by decide +kernel
theorem dX9_heals_48 : decode cX9_heals 48 = .ok (.iaload, 1) := by decide +kernel
theorem dX9_heals_49 : decode cX9_heals 49 = .ok (.invokevirtual 249, 3) := by decide +kernel
theorem dX9_heals_52 : decode cX9_heals 52 = .ok (.istore_n 2, 1) := by decide +kernel
theorem dX9_heals_53 : decode cX9_heals 53 = .ok (.iinc 3 1, 3) := by decide +kernel
theorem dX9_heals_56 : decode cX9_heals 56 = .ok (.goto (-34), 3) := by decide +kernel
theorem dX9_heals_59 : decode cX9_heals 59 = .ok (.iconst (-1), 1) := by decide +kernel
theorem dX9_heals_60 : decode cX9_heals 60 = .ok (.ireturn, 1) := by decide +kernel
def fX9_heals_b22 (n : Nat) : Nat → Nat → Int32 → Int32 → Int32 → qH → Option (Int32 × qH)
  | 0, _, _, _, _, _ => none
  | w + 1, v0, v1, v2, v3, h =>
    if 60 < v3 then
    (some ((-1), h))
    else
    (if v2 = 0 then
    (some (v3, h))
    else
    ((gR h v0 9 2).bind fun x3 =>
    (gR h v0 9 4).bind fun x5 =>
    (gR h x5 8 1).bind fun x7 =>
    (aI .int h x7 v1).bind fun x9 =>
    (fX5_sourAfterYear x3 v1 v2 x9 h).bind fun p11 =>
    fX9_heals_b22 n w v0 v1 p11.1 (v3 + 1) p11.2))
set_option maxHeartbeats 4000000 in
set_option maxRecDepth 100000 in
theorem okX9_heals_b22 {l : Launch} {n : Nat} {r : Int32} {h' : qH} : ∀ (w : Nat) (v0 : Nat) (v1 : Int32) (v2 : Int32) (v3 : Int32) (h : qH), fX9_heals_b22 n w v0 v1 v2 v3 h = some (r, h') → q_W l 2 yX9_heals cX9_heals 4 (some .int) (some (.int r)) h' 22 [(0, .ref v0), (1, .int v1), (2, .int v2), (3, .int v3)] [] h := by
  intro w
  induction w with
  | zero => intro v0 v1 v2 v3 h hyp; cases hyp
  | succ w ih =>
    intro v0 v1 v2 v3 h hyp
    unfold fX9_heals_b22 at hyp
    refine q_iload_n 3 rfl dX9_heals_22 ?_
    refine q_bipush (x := 60) (by decide) dX9_heals_23 ?_
    refine q_icmp_gt (tgt := 59) dX9_heals_25 (by decide) (fun c1 => ?_) (fun c1 => ?_)
    · have hyp := q_pos c1 hyp
      refine q_iconst (x := (-1)) rfl dX9_heals_59 ?_
      exact q_iretH rfl rfl dX9_heals_60 hyp
    · have hyp := q_neg c1 hyp
      refine q_iload_n 2 rfl dX9_heals_28 ?_
      refine q_if_ne (tgt := 34) dX9_heals_29 (by decide) (fun c2 => ?_) (fun c2 => ?_)
      · have hyp := q_neg c2 hyp
        refine q_aload_n 0 rfl dX9_heals_34 ?_
        refine q_bind hyp (fun x3 e4 hyp => ?_)
        refine q_getR kF_X9_28 dX9_heals_35 e4 ?_
        refine q_iload_n 1 rfl dX9_heals_38 ?_
        refine q_iload_n 2 rfl dX9_heals_39 ?_
        refine q_aload_n 0 rfl dX9_heals_40 ?_
        refine q_bind hyp (fun x5 e6 hyp => ?_)
        refine q_getR kF_X9_38 dX9_heals_41 e6 ?_
        refine q_bind hyp (fun x7 e8 hyp => ?_)
        refine q_getR kF_X9_135 dX9_heals_44 e8 ?_
        refine q_iload_n 1 rfl dX9_heals_47 ?_
        refine q_bind hyp (fun x9 e10 hyp => ?_)
        refine q_iald dX9_heals_48 e10 ?_
        refine q_bind hyp (fun p11 e12 hyp => ?_)
        refine q_callV (as := [.int v1, .int v2, .int x9]) (st := []) kY_X5_sourAfterYear kL_X9_249 (okX5_sourAfterYear (l := l) e12) (by decide) rfl (obX5_sourAfterYear e12) (Nat.le_of_ble_eq_true rfl) dX9_heals_49 ?_
        refine q_to (ls' := [(0, .ref v0), (1, .int v1), (2, .int v2), (3, .int v3)]) (st' := [.int p11.1]) rfl rfl ?_
        refine q_istore_n (ls' := [(2, .int p11.1), (0, .ref v0), (1, .int v1), (3, .int v3)]) (by decide) rfl dX9_heals_52 ?_
        refine q_iinc (ls' := [(3, .int (v3 + 1)), (2, .int p11.1), (0, .ref v0), (1, .int v1)]) 3 rfl rfl (by decide) rfl dX9_heals_53 ?_
        refine q_goto (tgt := 22) dX9_heals_56 (by decide) ?_
        exact q_sub [2, 3, 1, 0] rfl (ih v0 v1 p11.1 (v3 + 1) p11.2 hyp)
      · have hyp := q_pos c2 hyp
        refine q_iload_n 3 rfl dX9_heals_32 ?_
        exact q_iretH rfl rfl dX9_heals_33 hyp
def fX9_heals (n : Nat) (v0 : Nat) (v1 : Int32) (h : qH) : Option (Int32 × qH) :=
  (isO h v0 9).bind fun _ =>
  (fX9_isMatter v0 v1 h).bind fun p1 =>
  if p1.1 = 0 then
  (some ((-1), p1.2))
  else
  ((gR p1.2 v0 9 4).bind fun x3 =>
  (gR p1.2 x3 8 0).bind fun x5 =>
  (aI .int p1.2 x5 v1).bind fun x7 =>
  fX9_heals_b22 n n v0 v1 x7 0 p1.2)
theorem obX9_heals {n : Nat} {v0 : Nat} {v1 : Int32} {h : qH} {p : Int32 × qH} (hyp : fX9_heals n v0 v1 h = some p) : ∃ fs, h.1 v0 = some (.inr (9, fs)) := by
  unfold fX9_heals at hyp
  exact q_bind hyp (fun _ e _ => isO_some e)
set_option maxHeartbeats 4000000 in
set_option maxRecDepth 100000 in
theorem okX9_heals {l : Launch} {n : Nat} {v0 : Nat} {v1 : Int32} {h : qH} {p : Int32 × qH} (hyp : fX9_heals n v0 v1 h = some p) : q_M l 2 yX9_heals cX9_heals 4 (some .int) [.ref v0, .int v1] h (some (.int p.1)) p.2 := by
  obtain ⟨r, h'⟩ := p
  unfold fX9_heals at hyp
  refine q_bind hyp (fun _ _ hyp => ?_)
  refine q_M.of (by decide) (Nat.le_of_ble_eq_true rfl) ?_
  refine q_to (ls' := [(0, .ref v0), (1, .int v1)]) (st' := []) rfl rfl ?_
  refine q_aload_n 0 rfl dX9_heals_0 ?_
  refine q_iload_n 1 rfl dX9_heals_1 ?_
  refine q_bind hyp (fun p1 e9 hyp => ?_)
  refine q_callV (as := [.int v1]) (st := []) kY_X9_isMatter kL_X9_122 (okX9_isMatter (l := l) e9) (by decide) rfl (obX9_isMatter e9) (Nat.le_of_ble_eq_true rfl) dX9_heals_2 ?_
  refine q_to (ls' := [(0, .ref v0), (1, .int v1)]) (st' := [.int p1.1]) rfl rfl ?_
  refine q_if_ne (tgt := 10) dX9_heals_5 (by decide) (fun c2 => ?_) (fun c2 => ?_)
  · have hyp := q_neg c2 hyp
    refine q_aload_n 0 rfl dX9_heals_10 ?_
    refine q_bind hyp (fun x3 e4 hyp => ?_)
    refine q_getR kF_X9_38 dX9_heals_11 e4 ?_
    refine q_bind hyp (fun x5 e6 hyp => ?_)
    refine q_getR kF_X9_132 dX9_heals_14 e6 ?_
    refine q_iload_n 1 rfl dX9_heals_17 ?_
    refine q_bind hyp (fun x7 e8 hyp => ?_)
    refine q_iald dX9_heals_18 e8 ?_
    refine q_istore_n (ls' := [(2, .int x7), (0, .ref v0), (1, .int v1)]) (by decide) rfl dX9_heals_19 ?_
    refine q_iconst (x := 0) rfl dX9_heals_20 ?_
    refine q_istore_n (ls' := [(3, .int 0), (2, .int x7), (0, .ref v0), (1, .int v1)]) (by decide) rfl dX9_heals_21 ?_
    exact q_sub [2, 3, 1, 0] rfl (okX9_heals_b22 _ v0 v1 x7 0 p1.2 hyp)
  · have hyp := q_pos c2 hyp
    refine q_iconst (x := (-1)) rfl dX9_heals_8 ?_
    exact q_iretH rfl rfl dX9_heals_9 hyp
theorem dX9_init_0 : decode cX9_init 0 = .ok (.aload_n 0, 1) := by decide +kernel
theorem dX9_init_1 : decode cX9_init 1 = .ok (.invokespecial 1, 3) := by decide +kernel
theorem dX9_init_4 : decode cX9_init 4 = .ok (.aload_n 0, 1) := by decide +kernel
theorem dX9_init_5 : decode cX9_init 5 = .ok (.new 7, 3) := by decide +kernel
theorem dX9_init_8 : decode cX9_init 8 = .ok (.dup, 1) := by decide +kernel
theorem dX9_init_9 : decode cX9_init 9 = .ok (.invokespecial 9, 3) := by decide +kernel
theorem dX9_init_12 : decode cX9_init 12 = .ok (.putfield 10, 3) := by decide +kernel
theorem dX9_init_15 : decode cX9_init 15 = .ok (.aload_n 0, 1) := by decide +kernel
theorem dX9_init_16 : decode cX9_init 16 = .ok (.new 16, 3) := by decide +kernel
theorem dX9_init_19 : decode cX9_init 19 = .ok (.dup, 1) := by decide +kernel
theorem dX9_init_20 : decode cX9_init 20 = .ok (.aload_n 0, 1) := by decide +kernel
theorem dX9_init_21 : decode cX9_init 21 = .ok (.getfield 10, 3) := by decide +kernel
theorem dX9_init_24 : decode cX9_init 24 = .ok (.invokespecial 18, 3) := by decide +kernel
theorem dX9_init_27 : decode cX9_init 27 = .ok (.putfield 21, 3) := by decide +kernel
theorem dX9_init_30 : decode cX9_init 30 = .ok (.aload_n 0, 1) := by decide +kernel
theorem dX9_init_31 : decode cX9_init 31 = .ok (.new 25, 3) := by decide +kernel
theorem dX9_init_34 : decode cX9_init 34 = .ok (.dup, 1) := by decide +kernel
theorem dX9_init_35 : decode cX9_init 35 = .ok (.invokespecial 27, 3) := by decide +kernel
theorem dX9_init_38 : decode cX9_init 38 = .ok (.putfield 28, 3) := by decide +kernel
theorem dX9_init_41 : decode cX9_init 41 = .ok (.aload_n 0, 1) := by decide +kernel
theorem dX9_init_42 : decode cX9_init 42 = .ok (.new 25, 3) := by decide +kernel
theorem dX9_init_45 : decode cX9_init 45 = .ok (.dup, 1) := by decide +kernel
theorem dX9_init_46 : decode cX9_init 46 = .ok (.invokespecial 27, 3) := by decide +kernel
theorem dX9_init_49 : decode cX9_init 49 = .ok (.putfield 32, 3) := by decide +kernel
theorem dX9_init_52 : decode cX9_init 52 = .ok (.aload_n 0, 1) := by decide +kernel
theorem dX9_init_53 : decode cX9_init 53 = .ok (.new 35, 3) := by decide +kernel
theorem dX9_init_56 : decode cX9_init 56 = .ok (.dup, 1) := by decide +kernel
theorem dX9_init_57 : decode cX9_init 57 = .ok (.invokespecial 37, 3) := by decide +kernel
theorem dX9_init_60 : decode cX9_init 60 = .ok (.putfield 38, 3) := by decide +kernel
theorem dX9_init_63 : decode cX9_init 63 = .ok (.aload_n 0, 1) := by decide +kernel
theorem dX9_init_64 : decode cX9_init 64 = .ok (.new 35, 3) := by decide +kernel
theorem dX9_init_67 : decode cX9_init 67 = .ok (.dup, 1) := by decide +kernel
theorem dX9_init_68 : decode cX9_init 68 = .ok (.invokespecial 37, 3) := by decide +kernel
theorem dX9_init_71 : decode cX9_init 71 = .ok (.putfield 42, 3) := by decide +kernel
theorem dX9_init_74 : decode cX9_init 74 = .ok (.aload_n 0, 1) := by decide +kernel
theorem dX9_init_75 : decode cX9_init 75 = .ok (.new 45, 3) := by decide +kernel
theorem dX9_init_78 : decode cX9_init 78 = .ok (.dup, 1) := by decide +kernel
theorem dX9_init_79 : decode cX9_init 79 = .ok (.invokespecial 47, 3) := by decide +kernel
theorem dX9_init_82 : decode cX9_init 82 = .ok (.putfield 48, 3) := by decide +kernel
theorem dX9_init_85 : decode cX9_init 85 = .ok (.aload_n 0, 1) := by decide +kernel
theorem dX9_init_86 : decode cX9_init 86 = .ok (.new 52, 3) := by decide +kernel
theorem dX9_init_89 : decode cX9_init 89 = .ok (.dup, 1) := by decide +kernel
theorem dX9_init_90 : decode cX9_init 90 = .ok (.invokespecial 54, 3) := by decide +kernel
theorem dX9_init_93 : decode cX9_init 93 = .ok (.putfield 55, 3) := by decide +kernel
theorem dX9_init_96 : decode cX9_init 96 = .ok (.aload_n 0, 1) := by decide +kernel
theorem dX9_init_97 : decode cX9_init 97 = .ok (.new 52, 3) := by decide +kernel
theorem dX9_init_100 : decode cX9_init 100 = .ok (.dup, 1) := by decide +kernel
theorem dX9_init_101 : decode cX9_init 101 = .ok (.invokespecial 54, 3) := by decide +kernel
theorem dX9_init_104 : decode cX9_init 104 = .ok (.putfield 59, 3) := by decide +kernel
theorem dX9_init_107 : decode cX9_init 107 = .ok (.aload_n 0, 1) := by decide +kernel
theorem dX9_init_108 : decode cX9_init 108 = .ok (.new 62, 3) := by decide +kernel
theorem dX9_init_111 : decode cX9_init 111 = .ok (.dup, 1) := by decide +kernel
theorem dX9_init_112 : decode cX9_init 112 = .ok (.invokespecial 64, 3) := by decide +kernel
theorem dX9_init_115 : decode cX9_init 115 = .ok (.putfield 65, 3) := by decide +kernel
theorem dX9_init_118 : decode cX9_init 118 = .ok (.aload_n 0, 1) := by decide +kernel
theorem dX9_init_119 : decode cX9_init 119 = .ok (.iconst 4, 1) := by decide +kernel
theorem dX9_init_120 : decode cX9_init 120 = .ok (.anewarray 69, 3) := by decide +kernel
theorem dX9_init_123 : decode cX9_init 123 = .ok (.putfield 71, 3) := by decide +kernel
theorem dX9_init_126 : decode cX9_init 126 = .ok (.aload_n 0, 1) := by decide +kernel
theorem dX9_init_127 : decode cX9_init 127 = .ok (.bipush 7, 2) := by decide +kernel
theorem dX9_init_129 : decode cX9_init 129 = .ok (.newarray .int, 2) := by decide +kernel
theorem dX9_init_131 : decode cX9_init 131 = .ok (.putfield 75, 3) := by decide +kernel
theorem dX9_init_134 : decode cX9_init 134 = .ok (.aload_n 0, 1) := by decide +kernel
theorem dX9_init_135 : decode cX9_init 135 = .ok (.bipush 70, 2) := by decide +kernel
theorem dX9_init_137 : decode cX9_init 137 = .ok (.newarray .int, 2) := by decide +kernel
theorem dX9_init_139 : decode cX9_init 139 = .ok (.putfield 79, 3) := by decide +kernel
theorem dX9_init_142 : decode cX9_init 142 = .ok (.iconst 0, 1) := by decide +kernel
theorem dX9_init_143 : decode cX9_init 143 = .ok (.istore_n 1, 1) := by decide +kernel
theorem dX9_init_144 : decode cX9_init 144 = .ok (.iload_n 1, 1) := by decide +kernel
theorem dX9_init_145 : decode cX9_init 145 = .ok (.aload_n 0, 1) := by decide +kernel
theorem dX9_init_146 : decode cX9_init 146 = .ok (.getfield 71, 3) := by decide +kernel
theorem dX9_init_149 : decode cX9_init 149 = .ok (.arraylength, 1) := by decide +kernel
theorem dX9_init_150 : decode cX9_init 150 = .ok (.if_icmp .ge 22, 3) := by decide +kernel
theorem dX9_init_153 : decode cX9_init 153 = .ok (.aload_n 0, 1) := by decide +kernel
theorem dX9_init_154 : decode cX9_init 154 = .ok (.getfield 71, 3) := by decide +kernel
theorem dX9_init_157 : decode cX9_init 157 = .ok (.iload_n 1, 1) := by decide +kernel
theorem dX9_init_158 : decode cX9_init 158 = .ok (.new 69, 3) := by decide +kernel
theorem dX9_init_161 : decode cX9_init 161 = .ok (.dup, 1) := by decide +kernel
theorem dX9_init_162 : decode cX9_init 162 = .ok (.invokespecial 82, 3) := by decide +kernel
theorem dX9_init_165 : decode cX9_init 165 = .ok (.aastore, 1) := by decide +kernel
theorem dX9_init_166 : decode cX9_init 166 = .ok (.iinc 1 1, 3) := by decide +kernel
theorem dX9_init_169 : decode cX9_init 169 = .ok (.goto (-25), 3) := by decide +kernel
theorem dX9_init_172 : decode cX9_init 172 = .ok (.aload_n 0, 1) := by decide +kernel
theorem dX9_init_173 : decode cX9_init 173 = .ok (.getfield 28, 3) := by decide +kernel
theorem dX9_init_176 : decode cX9_init 176 = .ok (.invokevirtual 83, 3) := by decide +kernel
theorem dX9_init_179 : decode cX9_init 179 = .ok (.aload_n 0, 1) := by decide +kernel
theorem dX9_init_180 : decode cX9_init 180 = .ok (.getfield 38, 3) := by decide +kernel
theorem dX9_init_183 : decode cX9_init 183 = .ok (.aload_n 0, 1) := by decide +kernel
theorem dX9_init_184 : decode cX9_init 184 = .ok (.getfield 28, 3) := by decide +kernel
theorem dX9_init_187 : decode cX9_init 187 = .ok (.invokevirtual 86, 3) := by decide +kernel
theorem dX9_init_190 : decode cX9_init 190 = .ok (.return_, 1) := by decide +kernel
def fX9_init_b144 (n : Nat) : Nat → Nat → Int32 → qH → Option (qH)
  | 0, _, _, _ => none
  | w + 1, v0, v1, h =>
    (gR h v0 9 10).bind fun x1 =>
    (aN h x1).bind fun x3 =>
    if x3 ≤ v1 then
    ((gR h v0 9 2).bind fun x6 =>
    (fX5_clear x6 h).bind fun h8 =>
    (gR h8 v0 9 4).bind fun x9 =>
    (gR h8 v0 9 2).bind fun x11 =>
    (fX8_begin n x9 x11 h8).bind fun h13 =>
    some h13)
    else
    ((gR h v0 9 10).bind fun x16 =>
    (some (nwE (.inr (3, [.null, .null, .null, .int 0])) 4 h)).bind fun h18 =>
    (fX3_init h.2.1 h18).bind fun h20 =>
    (sR RX3 3 h20 x16 v1 h.2.1).bind fun h21 =>
    fX9_init_b144 n w v0 (v1 + 1) h21)
set_option maxHeartbeats 4000000 in
set_option maxRecDepth 100000 in
theorem okX9_init_b144 {l : Launch} {n : Nat} {h' : qH} : ∀ (w : Nat) (v0 : Nat) (v1 : Int32) (h : qH), fX9_init_b144 n w v0 v1 h = some h' → q_W l 3 yX9_init cX9_init 2 none none h' 144 [(0, .ref v0), (1, .int v1)] [] h := by
  intro w
  induction w with
  | zero => intro v0 v1 h hyp; cases hyp
  | succ w ih =>
    intro v0 v1 h hyp
    unfold fX9_init_b144 at hyp
    refine q_iload_n 1 rfl dX9_init_144 ?_
    refine q_aload_n 0 rfl dX9_init_145 ?_
    refine q_bind hyp (fun x1 e2 hyp => ?_)
    refine q_getR kF_X9_71 dX9_init_146 e2 ?_
    refine q_bind hyp (fun x3 e4 hyp => ?_)
    refine q_alen dX9_init_149 e4 ?_
    refine q_icmp_ge (tgt := 172) dX9_init_150 (by decide) (fun c5 => ?_) (fun c5 => ?_)
    · have hyp := q_pos c5 hyp
      refine q_aload_n 0 rfl dX9_init_172 ?_
      refine q_bind hyp (fun x6 e7 hyp => ?_)
      refine q_getR kF_X9_28 dX9_init_173 e7 ?_
      refine q_bind hyp (fun h8 e15 hyp => ?_)
      refine q_callV (as := []) (st := []) kY_X5_clear kL_X9_83 (okX5_clear (l := l) e15) (by decide) rfl (obX5_clear e15) (Nat.le_of_ble_eq_true rfl) dX9_init_176 ?_
      refine q_to (ls' := [(0, .ref v0), (1, .int v1)]) (st' := []) rfl rfl ?_
      refine q_aload_n 0 rfl dX9_init_179 ?_
      refine q_bind hyp (fun x9 e10 hyp => ?_)
      refine q_getR kF_X9_38 dX9_init_180 e10 ?_
      refine q_aload_n 0 rfl dX9_init_183 ?_
      refine q_bind hyp (fun x11 e12 hyp => ?_)
      refine q_getR kF_X9_28 dX9_init_184 e12 ?_
      refine q_bind hyp (fun h13 e14 hyp => ?_)
      refine q_callV (as := [.ref x11]) (st := []) kY_X8_begin kL_X9_86 (okX8_begin (l := l) e14) (by decide) rfl (obX8_begin e14) (Nat.le_of_ble_eq_true rfl) dX9_init_187 ?_
      refine q_to (ls' := [(0, .ref v0), (1, .int v1)]) (st' := []) rfl rfl ?_
      exact q_vretH rfl dX9_init_190 hyp
    · have hyp := q_neg c5 hyp
      refine q_aload_n 0 rfl dX9_init_153 ?_
      refine q_bind hyp (fun x16 e17 hyp => ?_)
      refine q_getR kF_X9_71 dX9_init_154 e17 ?_
      refine q_iload_n 1 rfl dX9_init_157 ?_
      refine q_bind hyp (fun h18 e19 hyp => ?_)
      refine q_new (fs := [.null, .null, .null, .int 0]) kC3 kN_X9_69 kT3 kZ3 (fun _ => (by decide +kernel : ∀ j, j < 4 → defaultValue (tyX3 j) = vp_V [.null, .null, .null, .int 0] j)) dX9_init_158 ?_
      rw [Option.some.inj e19]
      refine q_dup rfl dX9_init_161 ?_
      refine q_bind hyp (fun h20 e23 hyp => ?_)
      refine q_callI (as := []) (st := [.ref h.2.1, .int v1, .ref x16]) kY_X3_init kI_X3_init rfl kL_X9_82 (okX3_init (l := l) e23) (by decide) rfl (Nat.le_of_ble_eq_true rfl) dX9_init_162 ?_
      refine q_to (ls' := [(0, .ref v0), (1, .int v1)]) (st' := [.ref h.2.1, .int v1, .ref x16]) rfl rfl ?_
      refine q_bind hyp (fun h21 e22 hyp => ?_)
      refine q_aast (C := RX3) (ci := 3) rfl dX9_init_165 e22 ?_
      refine q_iinc (ls' := [(1, .int (v1 + 1)), (0, .ref v0)]) 1 rfl rfl (by decide) rfl dX9_init_166 ?_
      refine q_goto (tgt := 144) dX9_init_169 (by decide) ?_
      exact q_sub [1, 0] rfl (ih v0 (v1 + 1) h21 hyp)
def fX9_init (n : Nat) (v0 : Nat) (h : qH) : Option (qH) :=
  (isO h v0 9).bind fun _ =>
  (some (nwE (.inr (6, [.null, .int 0, .int 0, .int 0, .int 0, .int 0, .long 0, .int 0, .int 0])) 9 h)).bind fun h1 =>
  (fX6_init h.2.1 h1).bind fun h3 =>
  (pF h3 v0 9 0 (.ref h.2.1)).bind fun h4 =>
  (some (nwE (.inr (4, [.null])) 1 h4)).bind fun h6 =>
  (gR h6 v0 9 0).bind fun x8 =>
  (fX4_init h4.2.1 x8 h6).bind fun h10 =>
  (pF h10 v0 9 1 (.ref h4.2.1)).bind fun h11 =>
  (some (nwE (.inr (5, [.null, .null, .null, .null, .null, .null, .int 0, .int 0, .int 0, .int 0, .int 0])) 11 h11)).bind fun h13 =>
  (fX5_init h11.2.1 h13).bind fun h15 =>
  (pF h15 v0 9 2 (.ref h11.2.1)).bind fun h16 =>
  (some (nwE (.inr (5, [.null, .null, .null, .null, .null, .null, .int 0, .int 0, .int 0, .int 0, .int 0])) 11 h16)).bind fun h18 =>
  (fX5_init h16.2.1 h18).bind fun h20 =>
  (pF h20 v0 9 3 (.ref h16.2.1)).bind fun h21 =>
  (some (nwE (.inr (8, [.null, .null, .int 0, .int 0])) 4 h21)).bind fun h23 =>
  (fX8_init h21.2.1 h23).bind fun h25 =>
  (pF h25 v0 9 4 (.ref h21.2.1)).bind fun h26 =>
  (some (nwE (.inr (8, [.null, .null, .int 0, .int 0])) 4 h26)).bind fun h28 =>
  (fX8_init h26.2.1 h28).bind fun h30 =>
  (pF h30 v0 9 5 (.ref h26.2.1)).bind fun h31 =>
  (some (nwE (.inr (0, [.null, .int 0, .int 0])) 3 h31)).bind fun h33 =>
  (fX0_init n h31.2.1 h33).bind fun h35 =>
  (pF h35 v0 9 6 (.ref h31.2.1)).bind fun h36 =>
  (some (nwE (.inr (2, [.null, .null, .int 0])) 3 h36)).bind fun h38 =>
  (fX2_init h36.2.1 h38).bind fun h40 =>
  (pF h40 v0 9 7 (.ref h36.2.1)).bind fun h41 =>
  (some (nwE (.inr (2, [.null, .null, .int 0])) 3 h41)).bind fun h43 =>
  (fX2_init h41.2.1 h43).bind fun h45 =>
  (pF h45 v0 9 8 (.ref h41.2.1)).bind fun h46 =>
  (some (nwE (.inr (7, [.null, .null, .null, .int 0])) 4 h46)).bind fun h48 =>
  (fX7_init h46.2.1 h48).bind fun h50 =>
  (pF h50 v0 9 9 (.ref h46.2.1)).bind fun h51 =>
  (some (nwE (.inl (.object RX3, 4, .inr (.inr (fun _ => none)))) 4 h51)).bind fun h53 =>
  (pF h53 v0 9 10 (.ref h51.2.1)).bind fun h55 =>
  (some (nwE (.inl (.int, 7, .inl (fun _ => 0))) 7 h55)).bind fun h57 =>
  (pF h57 v0 9 11 (.ref h55.2.1)).bind fun h59 =>
  (some (nwE (.inl (.int, 70, .inl (fun _ => 0))) 70 h59)).bind fun h61 =>
  (pF h61 v0 9 12 (.ref h59.2.1)).bind fun h63 =>
  fX9_init_b144 n n v0 0 h63
theorem obX9_init {n : Nat} {v0 : Nat} {h : qH} {p : qH} (hyp : fX9_init n v0 h = some p) : ∃ fs, h.1 v0 = some (.inr (9, fs)) := by
  unfold fX9_init at hyp
  exact q_bind hyp (fun _ e _ => isO_some e)
set_option maxHeartbeats 4000000 in
set_option maxRecDepth 100000 in
theorem okX9_init {l : Launch} {n : Nat} {v0 : Nat} {h : qH} {h' : qH} (hyp : fX9_init n v0 h = some h') : q_M l 3 yX9_init cX9_init 2 none [.ref v0] h none h' := by
  unfold fX9_init at hyp
  refine q_bind hyp (fun _ _ hyp => ?_)
  refine q_M.of (by decide) (Nat.le_of_ble_eq_true rfl) ?_
  refine q_to (ls' := [(0, .ref v0)]) (st' := []) rfl rfl ?_
  refine q_aload_n 0 rfl dX9_init_0 ?_
  refine q_objInit kL_X9_1 kI_obj kD_obj (by decide) (Nat.le_of_ble_eq_true rfl) dX9_init_1 ?_
  refine q_aload_n 0 rfl dX9_init_4 ?_
  refine q_bind hyp (fun h1 e2 hyp => ?_)
  refine q_new (fs := [.null, .int 0, .int 0, .int 0, .int 0, .int 0, .long 0, .int 0, .int 0]) kC6 kN_X9_7 kT6 kZ6 (fun _ => (by decide +kernel : ∀ j, j < 9 → defaultValue (tyX6 j) = vp_V [.null, .int 0, .int 0, .int 0, .int 0, .int 0, .long 0, .int 0, .int 0] j)) dX9_init_5 ?_
  rw [Option.some.inj e2]
  refine q_dup rfl dX9_init_8 ?_
  refine q_bind hyp (fun h3 e74 hyp => ?_)
  refine q_callI (as := []) (st := [.ref h.2.1, .ref v0]) kY_X6_init kI_X6_init rfl kL_X9_9 (okX6_init (l := l) e74) (by decide) rfl (Nat.le_of_ble_eq_true rfl) dX9_init_9 ?_
  refine q_to (ls' := [(0, .ref v0)]) (st' := [.ref h.2.1, .ref v0]) rfl rfl ?_
  refine q_bind hyp (fun h4 e5 hyp => ?_)
  refine q_putZ kF_X9_10 rfl ⟨_, _, rfl⟩ (fun _ => ⟨rfl, rfl⟩) dX9_init_12 e5 ?_
  refine q_aload_n 0 rfl dX9_init_15 ?_
  refine q_bind hyp (fun h6 e7 hyp => ?_)
  refine q_new (fs := [.null]) kC4 kN_X9_16 kT4 kZ4 (fun _ => (by decide +kernel : ∀ j, j < 1 → defaultValue (tyX4 j) = vp_V [.null] j)) dX9_init_16 ?_
  rw [Option.some.inj e7]
  refine q_dup rfl dX9_init_19 ?_
  refine q_aload_n 0 rfl dX9_init_20 ?_
  refine q_bind hyp (fun x8 e9 hyp => ?_)
  refine q_getR kF_X9_10 dX9_init_21 e9 ?_
  refine q_bind hyp (fun h10 e73 hyp => ?_)
  refine q_callI (as := [.ref x8]) (st := [.ref h4.2.1, .ref v0]) kY_X4_init kI_X4_init rfl kL_X9_18 (okX4_init (l := l) e73) (by decide) rfl (Nat.le_of_ble_eq_true rfl) dX9_init_24 ?_
  refine q_to (ls' := [(0, .ref v0)]) (st' := [.ref h4.2.1, .ref v0]) rfl rfl ?_
  refine q_bind hyp (fun h11 e12 hyp => ?_)
  refine q_putZ kF_X9_21 rfl ⟨_, _, rfl⟩ (fun _ => ⟨rfl, rfl⟩) dX9_init_27 e12 ?_
  refine q_aload_n 0 rfl dX9_init_30 ?_
  refine q_bind hyp (fun h13 e14 hyp => ?_)
  refine q_new (fs := [.null, .null, .null, .null, .null, .null, .int 0, .int 0, .int 0, .int 0, .int 0]) kC5 kN_X9_25 kT5 kZ5 (fun _ => (by decide +kernel : ∀ j, j < 11 → defaultValue (tyX5 j) = vp_V [.null, .null, .null, .null, .null, .null, .int 0, .int 0, .int 0, .int 0, .int 0] j)) dX9_init_31 ?_
  rw [Option.some.inj e14]
  refine q_dup rfl dX9_init_34 ?_
  refine q_bind hyp (fun h15 e72 hyp => ?_)
  refine q_callI (as := []) (st := [.ref h11.2.1, .ref v0]) kY_X5_init kI_X5_init rfl kL_X9_27 (okX5_init (l := l) e72) (by decide) rfl (Nat.le_of_ble_eq_true rfl) dX9_init_35 ?_
  refine q_to (ls' := [(0, .ref v0)]) (st' := [.ref h11.2.1, .ref v0]) rfl rfl ?_
  refine q_bind hyp (fun h16 e17 hyp => ?_)
  refine q_putF kF_X9_28 (fun _ => ⟨rfl, rfl⟩) dX9_init_38 e17 ?_
  refine q_aload_n 0 rfl dX9_init_41 ?_
  refine q_bind hyp (fun h18 e19 hyp => ?_)
  refine q_new (fs := [.null, .null, .null, .null, .null, .null, .int 0, .int 0, .int 0, .int 0, .int 0]) kC5 kN_X9_25 kT5 kZ5 (fun _ => (by decide +kernel : ∀ j, j < 11 → defaultValue (tyX5 j) = vp_V [.null, .null, .null, .null, .null, .null, .int 0, .int 0, .int 0, .int 0, .int 0] j)) dX9_init_42 ?_
  rw [Option.some.inj e19]
  refine q_dup rfl dX9_init_45 ?_
  refine q_bind hyp (fun h20 e71 hyp => ?_)
  refine q_callI (as := []) (st := [.ref h16.2.1, .ref v0]) kY_X5_init kI_X5_init rfl kL_X9_27 (okX5_init (l := l) e71) (by decide) rfl (Nat.le_of_ble_eq_true rfl) dX9_init_46 ?_
  refine q_to (ls' := [(0, .ref v0)]) (st' := [.ref h16.2.1, .ref v0]) rfl rfl ?_
  refine q_bind hyp (fun h21 e22 hyp => ?_)
  refine q_putF kF_X9_32 (fun _ => ⟨rfl, rfl⟩) dX9_init_49 e22 ?_
  refine q_aload_n 0 rfl dX9_init_52 ?_
  refine q_bind hyp (fun h23 e24 hyp => ?_)
  refine q_new (fs := [.null, .null, .int 0, .int 0]) kC8 kN_X9_35 kT8 kZ8 (fun _ => (by decide +kernel : ∀ j, j < 4 → defaultValue (tyX8 j) = vp_V [.null, .null, .int 0, .int 0] j)) dX9_init_53 ?_
  rw [Option.some.inj e24]
  refine q_dup rfl dX9_init_56 ?_
  refine q_bind hyp (fun h25 e70 hyp => ?_)
  refine q_callI (as := []) (st := [.ref h21.2.1, .ref v0]) kY_X8_init kI_X8_init rfl kL_X9_37 (okX8_init (l := l) e70) (by decide) rfl (Nat.le_of_ble_eq_true rfl) dX9_init_57 ?_
  refine q_to (ls' := [(0, .ref v0)]) (st' := [.ref h21.2.1, .ref v0]) rfl rfl ?_
  refine q_bind hyp (fun h26 e27 hyp => ?_)
  refine q_putZ kF_X9_38 rfl ⟨_, _, rfl⟩ (fun _ => ⟨rfl, rfl⟩) dX9_init_60 e27 ?_
  refine q_aload_n 0 rfl dX9_init_63 ?_
  refine q_bind hyp (fun h28 e29 hyp => ?_)
  refine q_new (fs := [.null, .null, .int 0, .int 0]) kC8 kN_X9_35 kT8 kZ8 (fun _ => (by decide +kernel : ∀ j, j < 4 → defaultValue (tyX8 j) = vp_V [.null, .null, .int 0, .int 0] j)) dX9_init_64 ?_
  rw [Option.some.inj e29]
  refine q_dup rfl dX9_init_67 ?_
  refine q_bind hyp (fun h30 e69 hyp => ?_)
  refine q_callI (as := []) (st := [.ref h26.2.1, .ref v0]) kY_X8_init kI_X8_init rfl kL_X9_37 (okX8_init (l := l) e69) (by decide) rfl (Nat.le_of_ble_eq_true rfl) dX9_init_68 ?_
  refine q_to (ls' := [(0, .ref v0)]) (st' := [.ref h26.2.1, .ref v0]) rfl rfl ?_
  refine q_bind hyp (fun h31 e32 hyp => ?_)
  refine q_putZ kF_X9_42 rfl ⟨_, _, rfl⟩ (fun _ => ⟨rfl, rfl⟩) dX9_init_71 e32 ?_
  refine q_aload_n 0 rfl dX9_init_74 ?_
  refine q_bind hyp (fun h33 e34 hyp => ?_)
  refine q_new (fs := [.null, .int 0, .int 0]) kC0 kN_X9_45 kT0 kZ0 (fun _ => (by decide +kernel : ∀ j, j < 3 → defaultValue (tyX0 j) = vp_V [.null, .int 0, .int 0] j)) dX9_init_75 ?_
  rw [Option.some.inj e34]
  refine q_dup rfl dX9_init_78 ?_
  refine q_bind hyp (fun h35 e68 hyp => ?_)
  refine q_callI (as := []) (st := [.ref h31.2.1, .ref v0]) kY_X0_init kI_X0_init rfl kL_X9_47 (okX0_init (l := l) e68) (by decide) rfl (Nat.le_of_ble_eq_true rfl) dX9_init_79 ?_
  refine q_to (ls' := [(0, .ref v0)]) (st' := [.ref h31.2.1, .ref v0]) rfl rfl ?_
  refine q_bind hyp (fun h36 e37 hyp => ?_)
  refine q_putZ kF_X9_48 rfl ⟨_, _, rfl⟩ (fun _ => ⟨rfl, rfl⟩) dX9_init_82 e37 ?_
  refine q_aload_n 0 rfl dX9_init_85 ?_
  refine q_bind hyp (fun h38 e39 hyp => ?_)
  refine q_new (fs := [.null, .null, .int 0]) kC2 kN_X9_52 kT2 kZ2 (fun _ => (by decide +kernel : ∀ j, j < 3 → defaultValue (tyX2 j) = vp_V [.null, .null, .int 0] j)) dX9_init_86 ?_
  rw [Option.some.inj e39]
  refine q_dup rfl dX9_init_89 ?_
  refine q_bind hyp (fun h40 e67 hyp => ?_)
  refine q_callI (as := []) (st := [.ref h36.2.1, .ref v0]) kY_X2_init kI_X2_init rfl kL_X9_54 (okX2_init (l := l) e67) (by decide) rfl (Nat.le_of_ble_eq_true rfl) dX9_init_90 ?_
  refine q_to (ls' := [(0, .ref v0)]) (st' := [.ref h36.2.1, .ref v0]) rfl rfl ?_
  refine q_bind hyp (fun h41 e42 hyp => ?_)
  refine q_putZ kF_X9_55 rfl ⟨_, _, rfl⟩ (fun _ => ⟨rfl, rfl⟩) dX9_init_93 e42 ?_
  refine q_aload_n 0 rfl dX9_init_96 ?_
  refine q_bind hyp (fun h43 e44 hyp => ?_)
  refine q_new (fs := [.null, .null, .int 0]) kC2 kN_X9_52 kT2 kZ2 (fun _ => (by decide +kernel : ∀ j, j < 3 → defaultValue (tyX2 j) = vp_V [.null, .null, .int 0] j)) dX9_init_97 ?_
  rw [Option.some.inj e44]
  refine q_dup rfl dX9_init_100 ?_
  refine q_bind hyp (fun h45 e66 hyp => ?_)
  refine q_callI (as := []) (st := [.ref h41.2.1, .ref v0]) kY_X2_init kI_X2_init rfl kL_X9_54 (okX2_init (l := l) e66) (by decide) rfl (Nat.le_of_ble_eq_true rfl) dX9_init_101 ?_
  refine q_to (ls' := [(0, .ref v0)]) (st' := [.ref h41.2.1, .ref v0]) rfl rfl ?_
  refine q_bind hyp (fun h46 e47 hyp => ?_)
  refine q_putZ kF_X9_59 rfl ⟨_, _, rfl⟩ (fun _ => ⟨rfl, rfl⟩) dX9_init_104 e47 ?_
  refine q_aload_n 0 rfl dX9_init_107 ?_
  refine q_bind hyp (fun h48 e49 hyp => ?_)
  refine q_new (fs := [.null, .null, .null, .int 0]) kC7 kN_X9_62 kT7 kZ7 (fun _ => (by decide +kernel : ∀ j, j < 4 → defaultValue (tyX7 j) = vp_V [.null, .null, .null, .int 0] j)) dX9_init_108 ?_
  rw [Option.some.inj e49]
  refine q_dup rfl dX9_init_111 ?_
  refine q_bind hyp (fun h50 e65 hyp => ?_)
  refine q_callI (as := []) (st := [.ref h46.2.1, .ref v0]) kY_X7_init kI_X7_init rfl kL_X9_64 (okX7_init (l := l) e65) (by decide) rfl (Nat.le_of_ble_eq_true rfl) dX9_init_112 ?_
  refine q_to (ls' := [(0, .ref v0)]) (st' := [.ref h46.2.1, .ref v0]) rfl rfl ?_
  refine q_bind hyp (fun h51 e52 hyp => ?_)
  refine q_putZ kF_X9_65 rfl ⟨_, _, rfl⟩ (fun _ => ⟨rfl, rfl⟩) dX9_init_115 e52 ?_
  refine q_aload_n 0 rfl dX9_init_118 ?_
  refine q_iconst (x := 4) rfl dX9_init_119 ?_
  refine q_bind hyp (fun h53 e54 hyp => ?_)
  refine q_anew (N := 4) rfl kN_X9_69 (fun _ _ h9 => h9.2.2.2.2.1) (by decide) (by decide) dX9_init_120 ?_
  rw [Option.some.inj e54]
  refine q_bind hyp (fun h55 e56 hyp => ?_)
  refine q_putZ kF_X9_71 rfl ⟨_, _, rfl⟩ (fun _ => ⟨rfl, rfl⟩) dX9_init_123 e56 ?_
  refine q_aload_n 0 rfl dX9_init_126 ?_
  refine q_bipush (x := 7) (by decide) dX9_init_127 ?_
  refine q_bind hyp (fun h57 e58 hyp => ?_)
  refine q_newa (ty := .int) (N := 7) (k := .inl (fun _ => 0)) rfl rfl kA_int (fun _ _ => rfl) (fun _ _ h => h) (by decide) (by decide) dX9_init_129 ?_
  rw [Option.some.inj e58]
  refine q_bind hyp (fun h59 e60 hyp => ?_)
  refine q_putZ kF_X9_75 rfl ⟨_, _, rfl⟩ (fun _ => ⟨rfl, rfl⟩) dX9_init_131 e60 ?_
  refine q_aload_n 0 rfl dX9_init_134 ?_
  refine q_bipush (x := 70) (by decide) dX9_init_135 ?_
  refine q_bind hyp (fun h61 e62 hyp => ?_)
  refine q_newa (ty := .int) (N := 70) (k := .inl (fun _ => 0)) rfl rfl kA_int (fun _ _ => rfl) (fun _ _ h => h) (by decide) (by decide) dX9_init_137 ?_
  rw [Option.some.inj e62]
  refine q_bind hyp (fun h63 e64 hyp => ?_)
  refine q_putZ kF_X9_79 rfl ⟨_, _, rfl⟩ (fun _ => ⟨rfl, rfl⟩) dX9_init_139 e64 ?_
  refine q_iconst (x := 0) rfl dX9_init_142 ?_
  refine q_istore_n (ls' := [(1, .int 0), (0, .ref v0)]) (by decide) rfl dX9_init_143 ?_
  exact q_sub [1, 0] rfl (okX9_init_b144 _ v0 0 h63 hyp)
theorem dX9_isRest_0 : decode cX9_isRest 0 = .ok (.iload_n 3, 1) := by decide +kernel
theorem dX9_isRest_1 : decode cX9_isRest 1 = .ok (.iconst 1, 1) := by decide +kernel
theorem dX9_isRest_2 : decode cX9_isRest 2 = .ok (.ishr, 1) := by decide +kernel
theorem dX9_isRest_3 : decode cX9_isRest 3 = .ok (.istore 4, 2) := by decide +kernel
theorem dX9_isRest_5 : decode cX9_isRest 5 = .ok (.iload_n 3, 1) := by decide +kernel
theorem dX9_isRest_6 : decode cX9_isRest 6 = .ok (.iconst 1, 1) := by decide +kernel
theorem dX9_isRest_7 : decode cX9_isRest 7 = .ok (.iand, 1) := by decide +kernel
theorem dX9_isRest_8 : decode cX9_isRest 8 = .ok (.istore 5, 2) := by decide +kernel
theorem dX9_isRest_10 : decode cX9_isRest 10 = .ok (.iload_n 0, 1) := by decide +kernel
theorem dX9_isRest_11 : decode cX9_isRest 11 = .ok (.iload_n 1, 1) := by decide +kernel
theorem dX9_isRest_12 : decode cX9_isRest 12 = .ok (.iload_n 2, 1) := by decide +kernel
theorem dX9_isRest_13 : decode cX9_isRest 13 = .ok (.iconst 1, 1) := by decide +kernel
theorem dX9_isRest_14 : decode cX9_isRest 14 = .ok (.iload 4, 2) := by decide +kernel
theorem dX9_isRest_16 : decode cX9_isRest 16 = .ok (.isub, 1) := by decide +kernel
theorem dX9_isRest_17 : decode cX9_isRest 17 = .ok (.iload 5, 2) := by decide +kernel
theorem dX9_isRest_19 : decode cX9_isRest 19 = .ok (.invokestatic 309, 3) := by decide +kernel
theorem dX9_isRest_22 : decode cX9_isRest 22 = .ok (.iload_n 0, 1) := by decide +kernel
theorem dX9_isRest_23 : decode cX9_isRest 23 = .ok (.iload_n 1, 1) := by decide +kernel
theorem dX9_isRest_24 : decode cX9_isRest 24 = .ok (.iload_n 2, 1) := by decide +kernel
theorem dX9_isRest_25 : decode cX9_isRest 25 = .ok (.iload 4, 2) := by decide +kernel
theorem dX9_isRest_27 : decode cX9_isRest 27 = .ok (.iload 5, 2) := by decide +kernel
theorem dX9_isRest_29 : decode cX9_isRest 29 = .ok (.invokestatic 309, 3) := by decide +kernel
theorem dX9_isRest_32 : decode cX9_isRest 32 = .ok (.if_icmp .gt 32, 3) := by decide +kernel
theorem dX9_isRest_35 : decode cX9_isRest 35 = .ok (.iload_n 0, 1) := by decide +kernel
theorem dX9_isRest_36 : decode cX9_isRest 36 = .ok (.iload_n 1, 1) := by decide +kernel
theorem dX9_isRest_37 : decode cX9_isRest 37 = .ok (.iload_n 2, 1) := by decide +kernel
theorem dX9_isRest_38 : decode cX9_isRest 38 = .ok (.iconst 1, 1) := by decide +kernel
theorem dX9_isRest_39 : decode cX9_isRest 39 = .ok (.iload 5, 2) := by decide +kernel
theorem dX9_isRest_41 : decode cX9_isRest 41 = .ok (.isub, 1) := by decide +kernel
theorem dX9_isRest_42 : decode cX9_isRest 42 = .ok (.iload 4, 2) := by decide +kernel
theorem dX9_isRest_44 : decode cX9_isRest 44 = .ok (.invokestatic 309, 3) := by decide +kernel
theorem dX9_isRest_47 : decode cX9_isRest 47 = .ok (.iload_n 0, 1) := by decide +kernel
theorem dX9_isRest_48 : decode cX9_isRest 48 = .ok (.iload_n 1, 1) := by decide +kernel
theorem dX9_isRest_49 : decode cX9_isRest 49 = .ok (.iload_n 2, 1) := by decide +kernel
theorem dX9_isRest_50 : decode cX9_isRest 50 = .ok (.iload 5, 2) := by decide +kernel
theorem dX9_isRest_52 : decode cX9_isRest 52 = .ok (.iload 4, 2) := by decide +kernel
theorem dX9_isRest_54 : decode cX9_isRest 54 = .ok (.invokestatic 309, 3) := by decide +kernel
theorem dX9_isRest_57 : decode cX9_isRest 57 = .ok (.if_icmp .gt 7, 3) := by decide +kernel
theorem dX9_isRest_60 : decode cX9_isRest 60 = .ok (.iconst 1, 1) := by decide +kernel
theorem dX9_isRest_61 : decode cX9_isRest 61 = .ok (.goto 4, 3) := by decide +kernel
theorem dX9_isRest_64 : decode cX9_isRest 64 = .ok (.iconst 0, 1) := by decide +kernel
theorem dX9_isRest_65 : decode cX9_isRest 65 = .ok (.ireturn, 1) := by decide +kernel
def fX9_isRest (v0 : Int32) (v1 : Int32) (v2 : Int32) (v3 : Int32) (h : qH) : Option (Int32 × qH) :=
  (fX9_gain v0 v1 v2 (1 - (v3 >>> ((1 : Int32) &&& 31))) (v3 &&& 1) h).bind fun p1 =>
  (fX9_gain v0 v1 v2 (v3 >>> ((1 : Int32) &&& 31)) (v3 &&& 1) p1.2).bind fun p2 =>
  if p2.1 < p1.1 then
  (some (0, p2.2))
  else
  ((fX9_gain v0 v1 v2 (1 - (v3 &&& 1)) (v3 >>> ((1 : Int32) &&& 31)) p2.2).bind fun p4 =>
  (fX9_gain v0 v1 v2 (v3 &&& 1) (v3 >>> ((1 : Int32) &&& 31)) p4.2).bind fun p5 =>
  if p5.1 < p4.1 then
  (some (0, p5.2))
  else
  (some (1, p5.2)))
set_option maxHeartbeats 4000000 in
set_option maxRecDepth 100000 in
theorem okX9_isRest {l : Launch} {v0 : Int32} {v1 : Int32} {v2 : Int32} {v3 : Int32} {h : qH} {p : Int32 × qH} (hyp : fX9_isRest v0 v1 v2 v3 h = some p) : q_M l 2 yX9_isRest cX9_isRest 6 (some .boolean) [.int v0, .int v1, .int v2, .int v3] h (some (.int p.1)) p.2 := by
  obtain ⟨r, h'⟩ := p
  unfold fX9_isRest at hyp
  refine q_M.of (by decide) (Nat.le_of_ble_eq_true rfl) ?_
  refine q_to (ls' := [(0, .int v0), (1, .int v1), (2, .int v2), (3, .int v3)]) (st' := []) rfl rfl ?_
  refine q_iload_n 3 rfl dX9_isRest_0 ?_
  refine q_iconst (x := 1) rfl dX9_isRest_1 ?_
  refine q_ishr dX9_isRest_2 ?_
  refine q_istore (ls' := [(4, .int (v3 >>> ((1 : Int32) &&& 31))), (0, .int v0), (1, .int v1), (2, .int v2), (3, .int v3)]) (by decide) rfl dX9_isRest_3 ?_
  refine q_iload_n 4 rfl dX9_isRest_5 ?_
  refine q_iconst (x := 1) rfl dX9_isRest_6 ?_
  refine q_iand dX9_isRest_7 ?_
  refine q_istore (ls' := [(5, .int (v3 &&& 1)), (4, .int (v3 >>> ((1 : Int32) &&& 31))), (0, .int v0), (1, .int v1), (2, .int v2), (3, .int v3)]) (by decide) rfl dX9_isRest_8 ?_
  refine q_iload_n 2 rfl dX9_isRest_10 ?_
  refine q_iload_n 3 rfl dX9_isRest_11 ?_
  refine q_iload_n 4 rfl dX9_isRest_12 ?_
  refine q_iconst (x := 1) rfl dX9_isRest_13 ?_
  refine q_iload 1 rfl dX9_isRest_14 ?_
  refine q_isub dX9_isRest_16 ?_
  refine q_iload 0 rfl dX9_isRest_17 ?_
  refine q_bind hyp (fun p1 e10 hyp => ?_)
  refine q_callS (as := [.int v0, .int v1, .int v2, .int (1 - (v3 >>> ((1 : Int32) &&& 31))), .int (v3 &&& 1)]) (st := []) kY_X9_gain kS_X9_gain kL_X9_309 (okX9_gain (l := l) e10) (by decide) rfl (Nat.le_of_ble_eq_true rfl) dX9_isRest_19 ?_
  refine q_to (ls' := [(5, .int (v3 &&& 1)), (4, .int (v3 >>> ((1 : Int32) &&& 31))), (0, .int v0), (1, .int v1), (2, .int v2), (3, .int v3)]) (st' := [.int p1.1]) rfl rfl ?_
  refine q_iload_n 2 rfl dX9_isRest_22 ?_
  refine q_iload_n 3 rfl dX9_isRest_23 ?_
  refine q_iload_n 4 rfl dX9_isRest_24 ?_
  refine q_iload 1 rfl dX9_isRest_25 ?_
  refine q_iload 0 rfl dX9_isRest_27 ?_
  refine q_bind hyp (fun p2 e9 hyp => ?_)
  refine q_callS (as := [.int v0, .int v1, .int v2, .int (v3 >>> ((1 : Int32) &&& 31)), .int (v3 &&& 1)]) (st := [.int p1.1]) kY_X9_gain kS_X9_gain kL_X9_309 (okX9_gain (l := l) e9) (by decide) rfl (Nat.le_of_ble_eq_true rfl) dX9_isRest_29 ?_
  refine q_to (ls' := [(5, .int (v3 &&& 1)), (4, .int (v3 >>> ((1 : Int32) &&& 31))), (0, .int v0), (1, .int v1), (2, .int v2), (3, .int v3)]) (st' := [.int p2.1, .int p1.1]) rfl rfl ?_
  refine q_icmp_gt (tgt := 64) dX9_isRest_32 (by decide) (fun c3 => ?_) (fun c3 => ?_)
  · have hyp := q_pos c3 hyp
    refine q_iconst (x := 0) rfl dX9_isRest_64 ?_
    exact q_iretH rfl rfl dX9_isRest_65 hyp
  · have hyp := q_neg c3 hyp
    refine q_iload_n 2 rfl dX9_isRest_35 ?_
    refine q_iload_n 3 rfl dX9_isRest_36 ?_
    refine q_iload_n 4 rfl dX9_isRest_37 ?_
    refine q_iconst (x := 1) rfl dX9_isRest_38 ?_
    refine q_iload 0 rfl dX9_isRest_39 ?_
    refine q_isub dX9_isRest_41 ?_
    refine q_iload 1 rfl dX9_isRest_42 ?_
    refine q_bind hyp (fun p4 e8 hyp => ?_)
    refine q_callS (as := [.int v0, .int v1, .int v2, .int (1 - (v3 &&& 1)), .int (v3 >>> ((1 : Int32) &&& 31))]) (st := []) kY_X9_gain kS_X9_gain kL_X9_309 (okX9_gain (l := l) e8) (by decide) rfl (Nat.le_of_ble_eq_true rfl) dX9_isRest_44 ?_
    refine q_to (ls' := [(5, .int (v3 &&& 1)), (4, .int (v3 >>> ((1 : Int32) &&& 31))), (0, .int v0), (1, .int v1), (2, .int v2), (3, .int v3)]) (st' := [.int p4.1]) rfl rfl ?_
    refine q_iload_n 2 rfl dX9_isRest_47 ?_
    refine q_iload_n 3 rfl dX9_isRest_48 ?_
    refine q_iload_n 4 rfl dX9_isRest_49 ?_
    refine q_iload 0 rfl dX9_isRest_50 ?_
    refine q_iload 1 rfl dX9_isRest_52 ?_
    refine q_bind hyp (fun p5 e7 hyp => ?_)
    refine q_callS (as := [.int v0, .int v1, .int v2, .int (v3 &&& 1), .int (v3 >>> ((1 : Int32) &&& 31))]) (st := [.int p4.1]) kY_X9_gain kS_X9_gain kL_X9_309 (okX9_gain (l := l) e7) (by decide) rfl (Nat.le_of_ble_eq_true rfl) dX9_isRest_54 ?_
    refine q_to (ls' := [(5, .int (v3 &&& 1)), (4, .int (v3 >>> ((1 : Int32) &&& 31))), (0, .int v0), (1, .int v1), (2, .int v2), (3, .int v3)]) (st' := [.int p5.1, .int p4.1]) rfl rfl ?_
    refine q_icmp_gt (tgt := 64) dX9_isRest_57 (by decide) (fun c6 => ?_) (fun c6 => ?_)
    · have hyp := q_pos c6 hyp
      refine q_iconst (x := 0) rfl dX9_isRest_64 ?_
      exact q_iretH rfl rfl dX9_isRest_65 hyp
    · have hyp := q_neg c6 hyp
      refine q_iconst (x := 1) rfl dX9_isRest_60 ?_
      refine q_goto (tgt := 65) dX9_isRest_61 (by decide) ?_
      exact q_iretH rfl rfl dX9_isRest_65 hyp
theorem dX9_judged_0 : decode cX9_judged 0 = .ok (.iload_n 1, 1) := by decide +kernel
theorem dX9_judged_1 : decode cX9_judged 1 = .ok (.iconst 0, 1) := by decide +kernel
theorem dX9_judged_2 : decode cX9_judged 2 = .ok (.iconst 2, 1) := by decide +kernel
theorem dX9_judged_3 : decode cX9_judged 3 = .ok (.invokestatic 180, 3) := by decide +kernel
theorem dX9_judged_6 : decode cX9_judged 6 = .ok (.ifCond .ne 6, 3) := by decide +kernel
theorem dX9_judged_9 : decode cX9_judged 9 = .ok (.bipush (-2), 2) := by decide +kernel
theorem dX9_judged_11 : decode cX9_judged 11 = .ok (.ireturn, 1) := by decide +kernel
theorem dX9_judged_12 : decode cX9_judged 12 = .ok (.iconst (-1), 1) := by decide +kernel
theorem dX9_judged_13 : decode cX9_judged 13 = .ok (.istore_n 2, 1) := by decide +kernel
theorem dX9_judged_14 : decode cX9_judged 14 = .ok (.iconst (-1), 1) := by decide +kernel
theorem dX9_judged_15 : decode cX9_judged 15 = .ok (.istore_n 3, 1) := by decide +kernel
theorem dX9_judged_16 : decode cX9_judged 16 = .ok (.aload_n 0, 1) := by decide +kernel
theorem dX9_judged_17 : decode cX9_judged 17 = .ok (.getfield 42, 3) := by decide +kernel
theorem dX9_judged_20 : decode cX9_judged 20 = .ok (.aload_n 0, 1) := by decide +kernel
theorem dX9_judged_21 : decode cX9_judged 21 = .ok (.getfield 28, 3) := by decide +kernel
theorem dX9_judged_24 : decode cX9_judged 24 = .ok (.invokevirtual 86, 3) := by decide +kernel
theorem dX9_judged_27 : decode cX9_judged 27 = .ok (.iconst 0, 1) := by decide +kernel
theorem dX9_judged_28 : decode cX9_judged 28 = .ok (.istore 4, 2) := by decide +kernel
theorem dX9_judged_30 : decode cX9_judged 30 = .ok (.iload 4, 2) := by decide +kernel
theorem dX9_judged_32 : decode cX9_judged 32 = .ok (.aload_n 0, 1) := by decide +kernel
theorem dX9_judged_33 : decode cX9_judged 33 = .ok (.getfield 55, 3) := by decide +kernel
theorem dX9_judged_36 : decode cX9_judged 36 = .ok (.getfield 184, 3) := by decide +kernel
theorem dX9_judged_39 : decode cX9_judged 39 = .ok (.if_icmp .ge 87, 3) := by decide +kernel
theorem dX9_judged_42 : decode cX9_judged 42 = .ok (.aload_n 0, 1) := by decide +kernel
theorem dX9_judged_43 : decode cX9_judged 43 = .ok (.getfield 42, 3) := by decide +kernel
theorem dX9_judged_46 : decode cX9_judged 46 = .ok (.aload_n 0, 1) := by decide +kernel
theorem dX9_judged_47 : decode cX9_judged 47 = .ok (.getfield 28, 3) := by decide +kernel
theorem dX9_judged_50 : decode cX9_judged 50 = .ok (.aload_n 0, 1) := by decide +kernel
theorem dX9_judged_51 : decode cX9_judged 51 = .ok (.getfield 55, 3) := by decide +kernel
theorem dX9_judged_54 : decode cX9_judged 54 = .ok (.getfield 185, 3) := by decide +kernel
theorem dX9_judged_57 : decode cX9_judged 57 = .ok (.iload 4, 2) := by decide +kernel
theorem dX9_judged_59 : decode cX9_judged 59 = .ok (.iaload, 1) := by decide +kernel
theorem dX9_judged_60 : decode cX9_judged 60 = .ok (.aload_n 0, 1) := by decide +kernel
theorem dX9_judged_61 : decode cX9_judged 61 = .ok (.getfield 55, 3) := by decide +kernel
theorem dX9_judged_64 : decode cX9_judged 64 = .ok (.getfield 188, 3) := by decide +kernel
theorem dX9_judged_67 : decode cX9_judged 67 = .ok (.iload 4, 2) := by decide +kernel
theorem dX9_judged_69 : decode cX9_judged 69 = .ok (.iaload, 1) := by decide +kernel
theorem dX9_judged_70 : decode cX9_judged 70 = .ok (.invokevirtual 191, 3) := by decide +kernel
theorem dX9_judged_73 : decode cX9_judged 73 = .ok (.ifCond .ne 11, 3) := by decide +kernel
theorem dX9_judged_76 : decode cX9_judged 76 = .ok (.iload_n 2, 1) := by decide +kernel
theorem dX9_judged_77 : decode cX9_judged 77 = .ok (.iconst (-1), 1) := by decide +kernel
theorem dX9_judged_78 : decode cX9_judged 78 = .ok (.if_icmp .ne 6, 3) := by decide +kernel
theorem dX9_judged_81 : decode cX9_judged 81 = .ok (.iload 4, 2) := by decide +kernel
theorem dX9_judged_83 : decode cX9_judged 83 = .ok (.istore_n 2, 1) := by decide +kernel
theorem dX9_judged_84 : decode cX9_judged 84 = .ok (.iload_n 3, 1) := by decide +kernel
theorem dX9_judged_85 : decode cX9_judged 85 = .ok (.iconst (-1), 1) := by decide +kernel
theorem dX9_judged_86 : decode cX9_judged 86 = .ok (.if_icmp .ne 34, 3) := by decide +kernel
theorem dX9_judged_89 : decode cX9_judged 89 = .ok (.aload_n 0, 1) := by decide +kernel
theorem dX9_judged_90 : decode cX9_judged 90 = .ok (.getfield 28, 3) := by decide +kernel
theorem dX9_judged_93 : decode cX9_judged 93 = .ok (.aload_n 0, 1) := by decide +kernel
theorem dX9_judged_94 : decode cX9_judged 94 = .ok (.getfield 42, 3) := by decide +kernel
theorem dX9_judged_97 : decode cX9_judged 97 = .ok (.aload_n 0, 1) := by decide +kernel
theorem dX9_judged_98 : decode cX9_judged 98 = .ok (.getfield 28, 3) := by decide +kernel
theorem dX9_judged_101 : decode cX9_judged 101 = .ok (.invokevirtual 195, 3) := by decide +kernel
theorem dX9_judged_104 : decode cX9_judged 104 = .ok (.invokevirtual 198, 3) := by decide +kernel
theorem dX9_judged_107 : decode cX9_judged 107 = .ok (.aload_n 0, 1) := by decide +kernel
theorem dX9_judged_108 : decode cX9_judged 108 = .ok (.getfield 28, 3) := by decide +kernel
theorem dX9_judged_111 : decode cX9_judged 111 = .ok (.invokevirtual 201, 3) := by decide +kernel
theorem dX9_judged_114 : decode cX9_judged 114 = .ok (.if_icmp .ne 6, 3) := by decide +kernel
theorem dX9_judged_117 : decode cX9_judged 117 = .ok (.iload 4, 2) := by decide +kernel
theorem dX9_judged_119 : decode cX9_judged 119 = .ok (.istore_n 3, 1) := by decide +kernel
theorem dX9_judged_120 : decode cX9_judged 120 = .ok (.iinc 4 1, 3) := by decide +kernel
theorem dX9_judged_123 : decode cX9_judged 123 = .ok (.goto (-93), 3) := by decide +kernel
theorem dX9_judged_126 : decode cX9_judged 126 = .ok (.iload_n 1, 1) := by decide +kernel
theorem dX9_judged_127 : decode cX9_judged 127 = .ok (.lookupswitch 29 #[(0, 25), (1, 27)], 25) := by decide +kernel
theorem dX9_judged_152 : decode cX9_judged 152 = .ok (.iload_n 2, 1) := by decide +kernel
theorem dX9_judged_153 : decode cX9_judged 153 = .ok (.ireturn, 1) := by decide +kernel
theorem dX9_judged_154 : decode cX9_judged 154 = .ok (.iload_n 3, 1) := by decide +kernel
theorem dX9_judged_155 : decode cX9_judged 155 = .ok (.ireturn, 1) := by decide +kernel
theorem dX9_judged_156 : decode cX9_judged 156 = .ok (.aload_n 0, 1) := by decide +kernel
theorem dX9_judged_157 : decode cX9_judged 157 = .ok (.getfield 42, 3) := by decide +kernel
theorem dX9_judged_160 : decode cX9_judged 160 = .ok (.aload_n 0, 1) := by decide +kernel
theorem dX9_judged_161 : decode cX9_judged 161 = .ok (.getfield 28, 3) := by decide +kernel
theorem dX9_judged_164 : decode cX9_judged 164 = .ok (.invokevirtual 195, 3) := by decide +kernel
theorem dX9_judged_167 : decode cX9_judged 167 = .ok (.invokestatic 170, 3) := by decide +kernel
theorem dX9_judged_170 : decode cX9_judged 170 = .ok (.ireturn, 1) := by decide +kernel
def fX9_judged_b84 (n : Nat) (K30 : Nat → Int32 → Int32 → Int32 → Int32 → qH → Option (Int32 × qH)) (v0 : Nat) (v1 : Int32) (v2 : Int32) (v3 : Int32) (v4 : Int32) (h : qH) : Option (Int32 × qH) :=
  if v3 = ((-1)) then
  ((gR h v0 9 2).bind fun x2 =>
  (gR h v0 9 5).bind fun x4 =>
  (gR h v0 9 2).bind fun x6 =>
  (fX8_meantBits n x4 x6 h).bind fun p8 =>
  (fX5_rightBy n x2 p8.1 p8.2).bind fun p9 =>
  (gR p9.2 v0 9 2).bind fun x10 =>
  (fX5_everyone x10 p9.2).bind fun p12 =>
  if p9.1 = p12.1 then
  (K30 v0 v1 v2 v4 (v4 + 1) p12.2)
  else
  (K30 v0 v1 v2 v3 (v4 + 1) p12.2))
  else
  (K30 v0 v1 v2 v3 (v4 + 1) h)
set_option maxHeartbeats 4000000 in
set_option maxRecDepth 100000 in
theorem okX9_judged_b84 {l : Launch} {n : Nat} {K30 : Nat → Int32 → Int32 → Int32 → Int32 → qH → Option (Int32 × qH)} {v0 : Nat} {v1 : Int32} {v2 : Int32} {v3 : Int32} {v4 : Int32} {h : qH} {r : Int32} {h' : qH} (hK30 : ∀ (v0 : Nat) (v1 : Int32) (v2 : Int32) (v3 : Int32) (v4 : Int32) (h : qH), K30 v0 v1 v2 v3 v4 h = some (r, h') → q_W l 6 yX9_judged cX9_judged 5 (some .int) (some (.int r)) h' 30 [(0, .ref v0), (1, .int v1), (2, .int v2), (3, .int v3), (4, .int v4)] [] h) (hyp : fX9_judged_b84 n K30 v0 v1 v2 v3 v4 h = some (r, h')) : q_W l 6 yX9_judged cX9_judged 5 (some .int) (some (.int r)) h' 84 [(0, .ref v0), (1, .int v1), (2, .int v2), (3, .int v3), (4, .int v4)] [] h := by
  unfold fX9_judged_b84 at hyp
  refine q_iload_n 3 rfl dX9_judged_84 ?_
  refine q_iconst (x := (-1)) rfl dX9_judged_85 ?_
  refine q_icmp_ne (tgt := 120) dX9_judged_86 (by decide) (fun c1 => ?_) (fun c1 => ?_)
  · have hyp := q_neg c1 hyp
    refine q_iinc (ls' := [(4, .int (v4 + 1)), (0, .ref v0), (1, .int v1), (2, .int v2), (3, .int v3)]) 4 rfl rfl (by decide) rfl dX9_judged_120 ?_
    refine q_goto (tgt := 30) dX9_judged_123 (by decide) ?_
    exact q_sub [1, 2, 3, 4, 0] rfl (hK30 v0 v1 v2 v3 (v4 + 1) h hyp)
  · have hyp := q_pos c1 hyp
    refine q_aload_n 0 rfl dX9_judged_89 ?_
    refine q_bind hyp (fun x2 e3 hyp => ?_)
    refine q_getR kF_X9_28 dX9_judged_90 e3 ?_
    refine q_aload_n 0 rfl dX9_judged_93 ?_
    refine q_bind hyp (fun x4 e5 hyp => ?_)
    refine q_getR kF_X9_42 dX9_judged_94 e5 ?_
    refine q_aload_n 0 rfl dX9_judged_97 ?_
    refine q_bind hyp (fun x6 e7 hyp => ?_)
    refine q_getR kF_X9_28 dX9_judged_98 e7 ?_
    refine q_bind hyp (fun p8 e16 hyp => ?_)
    refine q_callV (as := [.ref x6]) (st := [.ref x2]) kY_X8_meantBits kL_X9_195 (okX8_meantBits (l := l) e16) (by decide) rfl (obX8_meantBits e16) (Nat.le_of_ble_eq_true rfl) dX9_judged_101 ?_
    refine q_to (ls' := [(0, .ref v0), (1, .int v1), (2, .int v2), (3, .int v3), (4, .int v4)]) (st' := [.int p8.1, .ref x2]) rfl rfl ?_
    refine q_bind hyp (fun p9 e15 hyp => ?_)
    refine q_callV (as := [.int p8.1]) (st := []) kY_X5_rightBy kL_X9_198 (okX5_rightBy (l := l) e15) (by decide) rfl (obX5_rightBy e15) (Nat.le_of_ble_eq_true rfl) dX9_judged_104 ?_
    refine q_to (ls' := [(0, .ref v0), (1, .int v1), (2, .int v2), (3, .int v3), (4, .int v4)]) (st' := [.int p9.1]) rfl rfl ?_
    refine q_aload_n 0 rfl dX9_judged_107 ?_
    refine q_bind hyp (fun x10 e11 hyp => ?_)
    refine q_getR kF_X9_28 dX9_judged_108 e11 ?_
    refine q_bind hyp (fun p12 e14 hyp => ?_)
    refine q_callV (as := []) (st := [.int p9.1]) kY_X5_everyone kL_X9_201 (okX5_everyone (l := l) e14) (by decide) rfl (obX5_everyone e14) (Nat.le_of_ble_eq_true rfl) dX9_judged_111 ?_
    refine q_to (ls' := [(0, .ref v0), (1, .int v1), (2, .int v2), (3, .int v3), (4, .int v4)]) (st' := [.int p12.1, .int p9.1]) rfl rfl ?_
    refine q_icmp_ne (tgt := 120) dX9_judged_114 (by decide) (fun c13 => ?_) (fun c13 => ?_)
    · have hyp := q_neg c13 hyp
      refine q_iinc (ls' := [(4, .int (v4 + 1)), (0, .ref v0), (1, .int v1), (2, .int v2), (3, .int v3)]) 4 rfl rfl (by decide) rfl dX9_judged_120 ?_
      refine q_goto (tgt := 30) dX9_judged_123 (by decide) ?_
      exact q_sub [1, 2, 3, 4, 0] rfl (hK30 v0 v1 v2 v3 (v4 + 1) p12.2 hyp)
    · have hyp := q_pos c13 hyp
      refine q_iload 4 rfl dX9_judged_117 ?_
      refine q_istore_n (ls' := [(3, .int v4), (0, .ref v0), (1, .int v1), (2, .int v2), (4, .int v4)]) (by decide) rfl dX9_judged_119 ?_
      refine q_iinc (ls' := [(4, .int (v4 + 1)), (3, .int v4), (0, .ref v0), (1, .int v1), (2, .int v2)]) 4 rfl rfl (by decide) rfl dX9_judged_120 ?_
      refine q_goto (tgt := 30) dX9_judged_123 (by decide) ?_
      exact q_sub [2, 3, 4, 1, 0] rfl (hK30 v0 v1 v2 v4 (v4 + 1) p12.2 hyp)
def fX9_judged_b30 (n : Nat) : Nat → Nat → Int32 → Int32 → Int32 → Int32 → qH → Option (Int32 × qH)
  | 0, _, _, _, _, _, _ => none
  | w + 1, v0, v1, v2, v3, v4, h =>
    (gR h v0 9 7).bind fun x1 =>
    (gI h x1 2 2).bind fun x3 =>
    if x3 ≤ v4 then
    (if v1 = 0 then
    (some (v2, h))
    else
    (if v1 = 1 then
    (some (v3, h))
    else
    ((gR h v0 9 5).bind fun x8 =>
    (gR h v0 9 2).bind fun x10 =>
    (fX8_meantBits n x8 x10 h).bind fun p12 =>
    (fJ6_bitCount_0f7a4 p12.1 p12.2).bind fun p13 =>
    some (p13.1, p13.2))))
    else
    ((gR h v0 9 5).bind fun x16 =>
    (gR h v0 9 2).bind fun x18 =>
    (gR h v0 9 7).bind fun x20 =>
    (gR h x20 2 0).bind fun x22 =>
    (aI .int h x22 v4).bind fun x24 =>
    (gR h v0 9 7).bind fun x26 =>
    (gR h x26 2 1).bind fun x28 =>
    (aI .int h x28 v4).bind fun x30 =>
    (fX8_follow n x16 x18 x24 x30 h).bind fun p32 =>
    if p32.1 = 0 then
    (if v2 = ((-1)) then
    (fX9_judged_b84 n (fX9_judged_b30 n w) v0 v1 v4 v3 v4 p32.2)
    else
    (fX9_judged_b84 n (fX9_judged_b30 n w) v0 v1 v2 v3 v4 p32.2))
    else
    (fX9_judged_b84 n (fX9_judged_b30 n w) v0 v1 v2 v3 v4 p32.2))
set_option maxHeartbeats 4000000 in
set_option maxRecDepth 100000 in
theorem okX9_judged_b30 {l : Launch} {n : Nat} {r : Int32} {h' : qH} : ∀ (w : Nat) (v0 : Nat) (v1 : Int32) (v2 : Int32) (v3 : Int32) (v4 : Int32) (h : qH), fX9_judged_b30 n w v0 v1 v2 v3 v4 h = some (r, h') → q_W l 6 yX9_judged cX9_judged 5 (some .int) (some (.int r)) h' 30 [(0, .ref v0), (1, .int v1), (2, .int v2), (3, .int v3), (4, .int v4)] [] h := by
  intro w
  induction w with
  | zero => intro v0 v1 v2 v3 v4 h hyp; cases hyp
  | succ w ih =>
    intro v0 v1 v2 v3 v4 h hyp
    unfold fX9_judged_b30 at hyp
    refine q_iload 4 rfl dX9_judged_30 ?_
    refine q_aload_n 0 rfl dX9_judged_32 ?_
    refine q_bind hyp (fun x1 e2 hyp => ?_)
    refine q_getR kF_X9_55 dX9_judged_33 e2 ?_
    refine q_bind hyp (fun x3 e4 hyp => ?_)
    refine q_getI kF_X9_184 dX9_judged_36 e4 ?_
    refine q_icmp_ge (tgt := 126) dX9_judged_39 (by decide) (fun c5 => ?_) (fun c5 => ?_)
    · have hyp := q_pos c5 hyp
      refine q_iload_n 1 rfl dX9_judged_126 ?_
      refine q_ite hyp (fun c6 hyp => ?_) (fun c6 hyp => ?_)
      · refine q_lookup (off := 25) (tgt := 152) dX9_judged_127 (by decide) (by rw [c6]; decide) (by decide) ?_
        refine q_iload_n 2 rfl dX9_judged_152 ?_
        exact q_iretH rfl rfl dX9_judged_153 hyp
      · refine q_ite hyp (fun c7 hyp => ?_) (fun c7 hyp => ?_)
        · refine q_lookup (off := 27) (tgt := 154) dX9_judged_127 (by decide) (by rw [c7]; decide) (by decide) ?_
          refine q_iload_n 3 rfl dX9_judged_154 ?_
          exact q_iretH rfl rfl dX9_judged_155 hyp
        · have zc6 := q_ni c6
          have zc7 := q_ni c7
          have zz : Op.lookupswitch.offset [(0, 25), (1, 27)] 29 v1.toInt = 29 := by
            rw [show (0 : Int32).toInt = 0 from rfl] at zc6
            rw [show (1 : Int32).toInt = 1 from rfl] at zc7
            rw [Op.lookupswitch.offset_cons, if_neg (Ne.symm zc6), Op.lookupswitch.offset_cons, if_neg (Ne.symm zc7)]
            rfl
          refine q_lookup (off := 29) (tgt := 156) dX9_judged_127 (by decide) zz (by decide) ?_
          refine q_aload_n 0 rfl dX9_judged_156 ?_
          refine q_bind hyp (fun x8 e9 hyp => ?_)
          refine q_getR kF_X9_42 dX9_judged_157 e9 ?_
          refine q_aload_n 0 rfl dX9_judged_160 ?_
          refine q_bind hyp (fun x10 e11 hyp => ?_)
          refine q_getR kF_X9_28 dX9_judged_161 e11 ?_
          refine q_bind hyp (fun p12 e15 hyp => ?_)
          refine q_callV (as := [.ref x10]) (st := []) kY_X8_meantBits kL_X9_195 (okX8_meantBits (l := l) e15) (by decide) rfl (obX8_meantBits e15) (Nat.le_of_ble_eq_true rfl) dX9_judged_164 ?_
          refine q_to (ls' := [(0, .ref v0), (1, .int v1), (2, .int v2), (3, .int v3), (4, .int v4)]) (st' := [.int p12.1]) rfl rfl ?_
          refine q_bind hyp (fun p13 e14 hyp => ?_)
          refine q_callS (as := [.int p12.1]) (st := []) kY_J6_bitCount_0f7a4 kS_J6_bitCount_0f7a4 kL_X9_170 (okJ6_bitCount_0f7a4 (l := l) e14) (by decide) rfl (Nat.le_of_ble_eq_true rfl) dX9_judged_167 ?_
          refine q_to (ls' := [(0, .ref v0), (1, .int v1), (2, .int v2), (3, .int v3), (4, .int v4)]) (st' := [.int p13.1]) rfl rfl ?_
          exact q_iretH rfl rfl dX9_judged_170 hyp
    · have hyp := q_neg c5 hyp
      refine q_aload_n 0 rfl dX9_judged_42 ?_
      refine q_bind hyp (fun x16 e17 hyp => ?_)
      refine q_getR kF_X9_42 dX9_judged_43 e17 ?_
      refine q_aload_n 0 rfl dX9_judged_46 ?_
      refine q_bind hyp (fun x18 e19 hyp => ?_)
      refine q_getR kF_X9_28 dX9_judged_47 e19 ?_
      refine q_aload_n 0 rfl dX9_judged_50 ?_
      refine q_bind hyp (fun x20 e21 hyp => ?_)
      refine q_getR kF_X9_55 dX9_judged_51 e21 ?_
      refine q_bind hyp (fun x22 e23 hyp => ?_)
      refine q_getR kF_X9_185 dX9_judged_54 e23 ?_
      refine q_iload 4 rfl dX9_judged_57 ?_
      refine q_bind hyp (fun x24 e25 hyp => ?_)
      refine q_iald dX9_judged_59 e25 ?_
      refine q_aload_n 0 rfl dX9_judged_60 ?_
      refine q_bind hyp (fun x26 e27 hyp => ?_)
      refine q_getR kF_X9_55 dX9_judged_61 e27 ?_
      refine q_bind hyp (fun x28 e29 hyp => ?_)
      refine q_getR kF_X9_188 dX9_judged_64 e29 ?_
      refine q_iload 4 rfl dX9_judged_67 ?_
      refine q_bind hyp (fun x30 e31 hyp => ?_)
      refine q_iald dX9_judged_69 e31 ?_
      refine q_bind hyp (fun p32 e35 hyp => ?_)
      refine q_callV (as := [.ref x18, .int x24, .int x30]) (st := []) kY_X8_follow kL_X9_191 (okX8_follow (l := l) e35) (by decide) rfl (obX8_follow e35) (Nat.le_of_ble_eq_true rfl) dX9_judged_70 ?_
      refine q_to (ls' := [(0, .ref v0), (1, .int v1), (2, .int v2), (3, .int v3), (4, .int v4)]) (st' := [.int p32.1]) rfl rfl ?_
      refine q_if_ne (tgt := 84) dX9_judged_73 (by decide) (fun c33 => ?_) (fun c33 => ?_)
      · have hyp := q_neg c33 hyp
        exact q_sub [0, 1, 2, 3, 4] rfl (okX9_judged_b84 ih hyp)
      · have hyp := q_pos c33 hyp
        refine q_iload_n 2 rfl dX9_judged_76 ?_
        refine q_iconst (x := (-1)) rfl dX9_judged_77 ?_
        refine q_icmp_ne (tgt := 84) dX9_judged_78 (by decide) (fun c34 => ?_) (fun c34 => ?_)
        · have hyp := q_neg c34 hyp
          exact q_sub [0, 1, 2, 3, 4] rfl (okX9_judged_b84 ih hyp)
        · have hyp := q_pos c34 hyp
          refine q_iload 4 rfl dX9_judged_81 ?_
          refine q_istore_n (ls' := [(2, .int v4), (0, .ref v0), (1, .int v1), (3, .int v3), (4, .int v4)]) (by decide) rfl dX9_judged_83 ?_
          exact q_sub [1, 2, 0, 3, 4] rfl (okX9_judged_b84 ih hyp)
def fX9_judged (n : Nat) (v0 : Nat) (v1 : Int32) (h : qH) : Option (Int32 × qH) :=
  (isO h v0 9).bind fun _ =>
  (fX9_within v1 0 2 h).bind fun p1 =>
  if p1.1 = 0 then
  (some ((-2), p1.2))
  else
  ((gR p1.2 v0 9 5).bind fun x3 =>
  (gR p1.2 v0 9 2).bind fun x5 =>
  (fX8_begin n x3 x5 p1.2).bind fun h7 =>
  fX9_judged_b30 n n v0 v1 ((-1)) ((-1)) 0 h7)
theorem obX9_judged {n : Nat} {v0 : Nat} {v1 : Int32} {h : qH} {p : Int32 × qH} (hyp : fX9_judged n v0 v1 h = some p) : ∃ fs, h.1 v0 = some (.inr (9, fs)) := by
  unfold fX9_judged at hyp
  exact q_bind hyp (fun _ e _ => isO_some e)
set_option maxHeartbeats 4000000 in
set_option maxRecDepth 100000 in
theorem okX9_judged {l : Launch} {n : Nat} {v0 : Nat} {v1 : Int32} {h : qH} {p : Int32 × qH} (hyp : fX9_judged n v0 v1 h = some p) : q_M l 6 yX9_judged cX9_judged 5 (some .int) [.ref v0, .int v1] h (some (.int p.1)) p.2 := by
  obtain ⟨r, h'⟩ := p
  unfold fX9_judged at hyp
  refine q_bind hyp (fun _ _ hyp => ?_)
  refine q_M.of (by decide) (Nat.le_of_ble_eq_true rfl) ?_
  refine q_to (ls' := [(0, .ref v0), (1, .int v1)]) (st' := []) rfl rfl ?_
  refine q_iload_n 1 rfl dX9_judged_0 ?_
  refine q_iconst (x := 0) rfl dX9_judged_1 ?_
  refine q_iconst (x := 2) rfl dX9_judged_2 ?_
  refine q_bind hyp (fun p1 e9 hyp => ?_)
  refine q_callS (as := [.int v1, .int 0, .int 2]) (st := []) kY_X9_within kS_X9_within kL_X9_180 (okX9_within (l := l) e9) (by decide) rfl (Nat.le_of_ble_eq_true rfl) dX9_judged_3 ?_
  refine q_to (ls' := [(0, .ref v0), (1, .int v1)]) (st' := [.int p1.1]) rfl rfl ?_
  refine q_if_ne (tgt := 12) dX9_judged_6 (by decide) (fun c2 => ?_) (fun c2 => ?_)
  · have hyp := q_neg c2 hyp
    refine q_iconst (x := (-1)) rfl dX9_judged_12 ?_
    refine q_istore_n (ls' := [(2, .int ((-1))), (0, .ref v0), (1, .int v1)]) (by decide) rfl dX9_judged_13 ?_
    refine q_iconst (x := (-1)) rfl dX9_judged_14 ?_
    refine q_istore_n (ls' := [(3, .int ((-1))), (2, .int ((-1))), (0, .ref v0), (1, .int v1)]) (by decide) rfl dX9_judged_15 ?_
    refine q_aload_n 2 rfl dX9_judged_16 ?_
    refine q_bind hyp (fun x3 e4 hyp => ?_)
    refine q_getR kF_X9_42 dX9_judged_17 e4 ?_
    refine q_aload_n 2 rfl dX9_judged_20 ?_
    refine q_bind hyp (fun x5 e6 hyp => ?_)
    refine q_getR kF_X9_28 dX9_judged_21 e6 ?_
    refine q_bind hyp (fun h7 e8 hyp => ?_)
    refine q_callV (as := [.ref x5]) (st := []) kY_X8_begin kL_X9_86 (okX8_begin (l := l) e8) (by decide) rfl (obX8_begin e8) (Nat.le_of_ble_eq_true rfl) dX9_judged_24 ?_
    refine q_to (ls' := [(3, .int ((-1))), (2, .int ((-1))), (0, .ref v0), (1, .int v1)]) (st' := []) rfl rfl ?_
    refine q_iconst (x := 0) rfl dX9_judged_27 ?_
    refine q_istore (ls' := [(4, .int 0), (3, .int ((-1))), (2, .int ((-1))), (0, .ref v0), (1, .int v1)]) (by decide) rfl dX9_judged_28 ?_
    exact q_sub [3, 4, 2, 1, 0] rfl (okX9_judged_b30 _ v0 v1 ((-1)) ((-1)) 0 h7 hyp)
  · have hyp := q_pos c2 hyp
    refine q_bipush (x := (-2)) (by decide) dX9_judged_9 ?_
    exact q_iretH rfl rfl dX9_judged_11 hyp
