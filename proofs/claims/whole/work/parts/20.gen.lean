/-! Functions over the abstract heap, and that the machine computes them (written by gen.py). -/
theorem dJ6_bitCount_0f7a4_0 : decode cJ6_bitCount_0f7a4 0 = .ok (.iload_n 0, 1) := by decide +kernel
theorem dJ6_bitCount_0f7a4_1 : decode cJ6_bitCount_0f7a4 1 = .ok (.iload_n 0, 1) := by decide +kernel
theorem dJ6_bitCount_0f7a4_2 : decode cJ6_bitCount_0f7a4 2 = .ok (.iconst 1, 1) := by decide +kernel
theorem dJ6_bitCount_0f7a4_3 : decode cJ6_bitCount_0f7a4 3 = .ok (.iushr, 1) := by decide +kernel
theorem dJ6_bitCount_0f7a4_4 : decode cJ6_bitCount_0f7a4 4 = .ok (.ldc_w 265, 3) := by decide +kernel
theorem dJ6_bitCount_0f7a4_7 : decode cJ6_bitCount_0f7a4 7 = .ok (.iand, 1) := by decide +kernel
theorem dJ6_bitCount_0f7a4_8 : decode cJ6_bitCount_0f7a4 8 = .ok (.isub, 1) := by decide +kernel
theorem dJ6_bitCount_0f7a4_9 : decode cJ6_bitCount_0f7a4 9 = .ok (.istore_n 0, 1) := by decide +kernel
theorem dJ6_bitCount_0f7a4_10 : decode cJ6_bitCount_0f7a4 10 = .ok (.iload_n 0, 1) := by decide +kernel
theorem dJ6_bitCount_0f7a4_11 : decode cJ6_bitCount_0f7a4 11 = .ok (.ldc_w 266, 3) := by decide +kernel
theorem dJ6_bitCount_0f7a4_14 : decode cJ6_bitCount_0f7a4 14 = .ok (.iand, 1) := by decide +kernel
theorem dJ6_bitCount_0f7a4_15 : decode cJ6_bitCount_0f7a4 15 = .ok (.iload_n 0, 1) := by decide +kernel
theorem dJ6_bitCount_0f7a4_16 : decode cJ6_bitCount_0f7a4 16 = .ok (.iconst 2, 1) := by decide +kernel
theorem dJ6_bitCount_0f7a4_17 : decode cJ6_bitCount_0f7a4 17 = .ok (.iushr, 1) := by decide +kernel
theorem dJ6_bitCount_0f7a4_18 : decode cJ6_bitCount_0f7a4 18 = .ok (.ldc_w 266, 3) := by decide +kernel
theorem dJ6_bitCount_0f7a4_21 : decode cJ6_bitCount_0f7a4 21 = .ok (.iand, 1) := by decide +kernel
theorem dJ6_bitCount_0f7a4_22 : decode cJ6_bitCount_0f7a4 22 = .ok (.iadd, 1) := by decide +kernel
theorem dJ6_bitCount_0f7a4_23 : decode cJ6_bitCount_0f7a4 23 = .ok (.istore_n 0, 1) := by decide +kernel
theorem dJ6_bitCount_0f7a4_24 : decode cJ6_bitCount_0f7a4 24 = .ok (.iload_n 0, 1) := by decide +kernel
theorem dJ6_bitCount_0f7a4_25 : decode cJ6_bitCount_0f7a4 25 = .ok (.iload_n 0, 1) := by decide +kernel
theorem dJ6_bitCount_0f7a4_26 : decode cJ6_bitCount_0f7a4 26 = .ok (.iconst 4, 1) := by decide +kernel
theorem dJ6_bitCount_0f7a4_27 : decode cJ6_bitCount_0f7a4 27 = .ok (.iushr, 1) := by decide +kernel
theorem dJ6_bitCount_0f7a4_28 : decode cJ6_bitCount_0f7a4 28 = .ok (.iadd, 1) := by decide +kernel
theorem dJ6_bitCount_0f7a4_29 : decode cJ6_bitCount_0f7a4 29 = .ok (.ldc_w 267, 3) := by decide +kernel
theorem dJ6_bitCount_0f7a4_32 : decode cJ6_bitCount_0f7a4 32 = .ok (.iand, 1) := by decide +kernel
theorem dJ6_bitCount_0f7a4_33 : decode cJ6_bitCount_0f7a4 33 = .ok (.istore_n 0, 1) := by decide +kernel
theorem dJ6_bitCount_0f7a4_34 : decode cJ6_bitCount_0f7a4 34 = .ok (.iload_n 0, 1) := by decide +kernel
theorem dJ6_bitCount_0f7a4_35 : decode cJ6_bitCount_0f7a4 35 = .ok (.iload_n 0, 1) := by decide +kernel
theorem dJ6_bitCount_0f7a4_36 : decode cJ6_bitCount_0f7a4 36 = .ok (.bipush 8, 2) := by decide +kernel
theorem dJ6_bitCount_0f7a4_38 : decode cJ6_bitCount_0f7a4 38 = .ok (.iushr, 1) := by decide +kernel
theorem dJ6_bitCount_0f7a4_39 : decode cJ6_bitCount_0f7a4 39 = .ok (.iadd, 1) := by decide +kernel
theorem dJ6_bitCount_0f7a4_40 : decode cJ6_bitCount_0f7a4 40 = .ok (.istore_n 0, 1) := by decide +kernel
theorem dJ6_bitCount_0f7a4_41 : decode cJ6_bitCount_0f7a4 41 = .ok (.iload_n 0, 1) := by decide +kernel
theorem dJ6_bitCount_0f7a4_42 : decode cJ6_bitCount_0f7a4 42 = .ok (.iload_n 0, 1) := by decide +kernel
theorem dJ6_bitCount_0f7a4_43 : decode cJ6_bitCount_0f7a4 43 = .ok (.bipush 16, 2) := by decide +kernel
theorem dJ6_bitCount_0f7a4_45 : decode cJ6_bitCount_0f7a4 45 = .ok (.iushr, 1) := by decide +kernel
theorem dJ6_bitCount_0f7a4_46 : decode cJ6_bitCount_0f7a4 46 = .ok (.iadd, 1) := by decide +kernel
theorem dJ6_bitCount_0f7a4_47 : decode cJ6_bitCount_0f7a4 47 = .ok (.istore_n 0, 1) := by decide +kernel
theorem dJ6_bitCount_0f7a4_48 : decode cJ6_bitCount_0f7a4 48 = .ok (.iload_n 0, 1) := by decide +kernel
theorem dJ6_bitCount_0f7a4_49 : decode cJ6_bitCount_0f7a4 49 = .ok (.bipush 63, 2) := by decide +kernel
theorem dJ6_bitCount_0f7a4_51 : decode cJ6_bitCount_0f7a4 51 = .ok (.iand, 1) := by decide +kernel
theorem dJ6_bitCount_0f7a4_52 : decode cJ6_bitCount_0f7a4 52 = .ok (.ireturn, 1) := by decide +kernel
def fJ6_bitCount_0f7a4 (v0 : Int32) (h : qH) : Option (Int32 × qH) :=
  some ((((((((v0 - (((v0.toUInt32 >>> ((1 : Int32).toUInt32 &&& Int32.toUInt32 31)).toInt32) &&& 1431655765)) &&& 858993459) + ((((v0 - (((v0.toUInt32 >>> ((1 : Int32).toUInt32 &&& Int32.toUInt32 31)).toInt32) &&& 1431655765)).toUInt32 >>> ((2 : Int32).toUInt32 &&& Int32.toUInt32 31)).toInt32) &&& 858993459)) + (((((v0 - (((v0.toUInt32 >>> ((1 : Int32).toUInt32 &&& Int32.toUInt32 31)).toInt32) &&& 1431655765)) &&& 858993459) + ((((v0 - (((v0.toUInt32 >>> ((1 : Int32).toUInt32 &&& Int32.toUInt32 31)).toInt32) &&& 1431655765)).toUInt32 >>> ((2 : Int32).toUInt32 &&& Int32.toUInt32 31)).toInt32) &&& 858993459)).toUInt32 >>> ((4 : Int32).toUInt32 &&& Int32.toUInt32 31)).toInt32)) &&& 252645135) + (((((((v0 - (((v0.toUInt32 >>> ((1 : Int32).toUInt32 &&& Int32.toUInt32 31)).toInt32) &&& 1431655765)) &&& 858993459) + ((((v0 - (((v0.toUInt32 >>> ((1 : Int32).toUInt32 &&& Int32.toUInt32 31)).toInt32) &&& 1431655765)).toUInt32 >>> ((2 : Int32).toUInt32 &&& Int32.toUInt32 31)).toInt32) &&& 858993459)) + (((((v0 - (((v0.toUInt32 >>> ((1 : Int32).toUInt32 &&& Int32.toUInt32 31)).toInt32) &&& 1431655765)) &&& 858993459) + ((((v0 - (((v0.toUInt32 >>> ((1 : Int32).toUInt32 &&& Int32.toUInt32 31)).toInt32) &&& 1431655765)).toUInt32 >>> ((2 : Int32).toUInt32 &&& Int32.toUInt32 31)).toInt32) &&& 858993459)).toUInt32 >>> ((4 : Int32).toUInt32 &&& Int32.toUInt32 31)).toInt32)) &&& 252645135).toUInt32 >>> ((8 : Int32).toUInt32 &&& Int32.toUInt32 31)).toInt32)) + ((((((((v0 - (((v0.toUInt32 >>> ((1 : Int32).toUInt32 &&& Int32.toUInt32 31)).toInt32) &&& 1431655765)) &&& 858993459) + ((((v0 - (((v0.toUInt32 >>> ((1 : Int32).toUInt32 &&& Int32.toUInt32 31)).toInt32) &&& 1431655765)).toUInt32 >>> ((2 : Int32).toUInt32 &&& Int32.toUInt32 31)).toInt32) &&& 858993459)) + (((((v0 - (((v0.toUInt32 >>> ((1 : Int32).toUInt32 &&& Int32.toUInt32 31)).toInt32) &&& 1431655765)) &&& 858993459) + ((((v0 - (((v0.toUInt32 >>> ((1 : Int32).toUInt32 &&& Int32.toUInt32 31)).toInt32) &&& 1431655765)).toUInt32 >>> ((2 : Int32).toUInt32 &&& Int32.toUInt32 31)).toInt32) &&& 858993459)).toUInt32 >>> ((4 : Int32).toUInt32 &&& Int32.toUInt32 31)).toInt32)) &&& 252645135) + (((((((v0 - (((v0.toUInt32 >>> ((1 : Int32).toUInt32 &&& Int32.toUInt32 31)).toInt32) &&& 1431655765)) &&& 858993459) + ((((v0 - (((v0.toUInt32 >>> ((1 : Int32).toUInt32 &&& Int32.toUInt32 31)).toInt32) &&& 1431655765)).toUInt32 >>> ((2 : Int32).toUInt32 &&& Int32.toUInt32 31)).toInt32) &&& 858993459)) + (((((v0 - (((v0.toUInt32 >>> ((1 : Int32).toUInt32 &&& Int32.toUInt32 31)).toInt32) &&& 1431655765)) &&& 858993459) + ((((v0 - (((v0.toUInt32 >>> ((1 : Int32).toUInt32 &&& Int32.toUInt32 31)).toInt32) &&& 1431655765)).toUInt32 >>> ((2 : Int32).toUInt32 &&& Int32.toUInt32 31)).toInt32) &&& 858993459)).toUInt32 >>> ((4 : Int32).toUInt32 &&& Int32.toUInt32 31)).toInt32)) &&& 252645135).toUInt32 >>> ((8 : Int32).toUInt32 &&& Int32.toUInt32 31)).toInt32)).toUInt32 >>> ((16 : Int32).toUInt32 &&& Int32.toUInt32 31)).toInt32)) &&& 63, h)
set_option maxHeartbeats 4000000 in
set_option maxRecDepth 100000 in
theorem okJ6_bitCount_0f7a4 {l : Launch} {v0 : Int32} {h : qH} {p : Int32 × qH} (hyp : fJ6_bitCount_0f7a4 v0 h = some p) : q_M l 1 yJ6_bitCount_0f7a4 cJ6_bitCount_0f7a4 1 (some .int) [.int v0] h (some (.int p.1)) p.2 := by
  obtain ⟨r, h'⟩ := p
  unfold fJ6_bitCount_0f7a4 at hyp
  refine q_M.of (by decide) (Nat.le_of_ble_eq_true rfl) ?_
  refine q_to (ls' := [(0, .int v0)]) (st' := []) rfl rfl ?_
  refine q_iload_n 0 rfl dJ6_bitCount_0f7a4_0 ?_
  refine q_iload_n 0 rfl dJ6_bitCount_0f7a4_1 ?_
  refine q_iconst (x := 1) rfl dJ6_bitCount_0f7a4_2 ?_
  refine q_iushr dJ6_bitCount_0f7a4_3 ?_
  refine q_ldcw kK_J6_265 dJ6_bitCount_0f7a4_4 ?_
  refine q_iand dJ6_bitCount_0f7a4_7 ?_
  refine q_isub dJ6_bitCount_0f7a4_8 ?_
  refine q_istore_n (ls' := [(0, .int (v0 - (((v0.toUInt32 >>> ((1 : Int32).toUInt32 &&& Int32.toUInt32 31)).toInt32) &&& 1431655765)))]) (by decide) rfl dJ6_bitCount_0f7a4_9 ?_
  refine q_iload_n 0 rfl dJ6_bitCount_0f7a4_10 ?_
  refine q_ldcw kK_J6_266 dJ6_bitCount_0f7a4_11 ?_
  refine q_iand dJ6_bitCount_0f7a4_14 ?_
  refine q_iload_n 0 rfl dJ6_bitCount_0f7a4_15 ?_
  refine q_iconst (x := 2) rfl dJ6_bitCount_0f7a4_16 ?_
  refine q_iushr dJ6_bitCount_0f7a4_17 ?_
  refine q_ldcw kK_J6_266 dJ6_bitCount_0f7a4_18 ?_
  refine q_iand dJ6_bitCount_0f7a4_21 ?_
  refine q_iadd dJ6_bitCount_0f7a4_22 ?_
  refine q_istore_n (ls' := [(0, .int (((v0 - (((v0.toUInt32 >>> ((1 : Int32).toUInt32 &&& Int32.toUInt32 31)).toInt32) &&& 1431655765)) &&& 858993459) + ((((v0 - (((v0.toUInt32 >>> ((1 : Int32).toUInt32 &&& Int32.toUInt32 31)).toInt32) &&& 1431655765)).toUInt32 >>> ((2 : Int32).toUInt32 &&& Int32.toUInt32 31)).toInt32) &&& 858993459)))]) (by decide) rfl dJ6_bitCount_0f7a4_23 ?_
  refine q_iload_n 0 rfl dJ6_bitCount_0f7a4_24 ?_
  refine q_iload_n 0 rfl dJ6_bitCount_0f7a4_25 ?_
  refine q_iconst (x := 4) rfl dJ6_bitCount_0f7a4_26 ?_
  refine q_iushr dJ6_bitCount_0f7a4_27 ?_
  refine q_iadd dJ6_bitCount_0f7a4_28 ?_
  refine q_ldcw kK_J6_267 dJ6_bitCount_0f7a4_29 ?_
  refine q_iand dJ6_bitCount_0f7a4_32 ?_
  refine q_istore_n (ls' := [(0, .int (((((v0 - (((v0.toUInt32 >>> ((1 : Int32).toUInt32 &&& Int32.toUInt32 31)).toInt32) &&& 1431655765)) &&& 858993459) + ((((v0 - (((v0.toUInt32 >>> ((1 : Int32).toUInt32 &&& Int32.toUInt32 31)).toInt32) &&& 1431655765)).toUInt32 >>> ((2 : Int32).toUInt32 &&& Int32.toUInt32 31)).toInt32) &&& 858993459)) + (((((v0 - (((v0.toUInt32 >>> ((1 : Int32).toUInt32 &&& Int32.toUInt32 31)).toInt32) &&& 1431655765)) &&& 858993459) + ((((v0 - (((v0.toUInt32 >>> ((1 : Int32).toUInt32 &&& Int32.toUInt32 31)).toInt32) &&& 1431655765)).toUInt32 >>> ((2 : Int32).toUInt32 &&& Int32.toUInt32 31)).toInt32) &&& 858993459)).toUInt32 >>> ((4 : Int32).toUInt32 &&& Int32.toUInt32 31)).toInt32)) &&& 252645135))]) (by decide) rfl dJ6_bitCount_0f7a4_33 ?_
  refine q_iload_n 0 rfl dJ6_bitCount_0f7a4_34 ?_
  refine q_iload_n 0 rfl dJ6_bitCount_0f7a4_35 ?_
  refine q_bipush (x := 8) (by decide) dJ6_bitCount_0f7a4_36 ?_
  refine q_iushr dJ6_bitCount_0f7a4_38 ?_
  refine q_iadd dJ6_bitCount_0f7a4_39 ?_
  refine q_istore_n (ls' := [(0, .int ((((((v0 - (((v0.toUInt32 >>> ((1 : Int32).toUInt32 &&& Int32.toUInt32 31)).toInt32) &&& 1431655765)) &&& 858993459) + ((((v0 - (((v0.toUInt32 >>> ((1 : Int32).toUInt32 &&& Int32.toUInt32 31)).toInt32) &&& 1431655765)).toUInt32 >>> ((2 : Int32).toUInt32 &&& Int32.toUInt32 31)).toInt32) &&& 858993459)) + (((((v0 - (((v0.toUInt32 >>> ((1 : Int32).toUInt32 &&& Int32.toUInt32 31)).toInt32) &&& 1431655765)) &&& 858993459) + ((((v0 - (((v0.toUInt32 >>> ((1 : Int32).toUInt32 &&& Int32.toUInt32 31)).toInt32) &&& 1431655765)).toUInt32 >>> ((2 : Int32).toUInt32 &&& Int32.toUInt32 31)).toInt32) &&& 858993459)).toUInt32 >>> ((4 : Int32).toUInt32 &&& Int32.toUInt32 31)).toInt32)) &&& 252645135) + (((((((v0 - (((v0.toUInt32 >>> ((1 : Int32).toUInt32 &&& Int32.toUInt32 31)).toInt32) &&& 1431655765)) &&& 858993459) + ((((v0 - (((v0.toUInt32 >>> ((1 : Int32).toUInt32 &&& Int32.toUInt32 31)).toInt32) &&& 1431655765)).toUInt32 >>> ((2 : Int32).toUInt32 &&& Int32.toUInt32 31)).toInt32) &&& 858993459)) + (((((v0 - (((v0.toUInt32 >>> ((1 : Int32).toUInt32 &&& Int32.toUInt32 31)).toInt32) &&& 1431655765)) &&& 858993459) + ((((v0 - (((v0.toUInt32 >>> ((1 : Int32).toUInt32 &&& Int32.toUInt32 31)).toInt32) &&& 1431655765)).toUInt32 >>> ((2 : Int32).toUInt32 &&& Int32.toUInt32 31)).toInt32) &&& 858993459)).toUInt32 >>> ((4 : Int32).toUInt32 &&& Int32.toUInt32 31)).toInt32)) &&& 252645135).toUInt32 >>> ((8 : Int32).toUInt32 &&& Int32.toUInt32 31)).toInt32)))]) (by decide) rfl dJ6_bitCount_0f7a4_40 ?_
  refine q_iload_n 0 rfl dJ6_bitCount_0f7a4_41 ?_
  refine q_iload_n 0 rfl dJ6_bitCount_0f7a4_42 ?_
  refine q_bipush (x := 16) (by decide) dJ6_bitCount_0f7a4_43 ?_
  refine q_iushr dJ6_bitCount_0f7a4_45 ?_
  refine q_iadd dJ6_bitCount_0f7a4_46 ?_
  refine q_istore_n (ls' := [(0, .int (((((((v0 - (((v0.toUInt32 >>> ((1 : Int32).toUInt32 &&& Int32.toUInt32 31)).toInt32) &&& 1431655765)) &&& 858993459) + ((((v0 - (((v0.toUInt32 >>> ((1 : Int32).toUInt32 &&& Int32.toUInt32 31)).toInt32) &&& 1431655765)).toUInt32 >>> ((2 : Int32).toUInt32 &&& Int32.toUInt32 31)).toInt32) &&& 858993459)) + (((((v0 - (((v0.toUInt32 >>> ((1 : Int32).toUInt32 &&& Int32.toUInt32 31)).toInt32) &&& 1431655765)) &&& 858993459) + ((((v0 - (((v0.toUInt32 >>> ((1 : Int32).toUInt32 &&& Int32.toUInt32 31)).toInt32) &&& 1431655765)).toUInt32 >>> ((2 : Int32).toUInt32 &&& Int32.toUInt32 31)).toInt32) &&& 858993459)).toUInt32 >>> ((4 : Int32).toUInt32 &&& Int32.toUInt32 31)).toInt32)) &&& 252645135) + (((((((v0 - (((v0.toUInt32 >>> ((1 : Int32).toUInt32 &&& Int32.toUInt32 31)).toInt32) &&& 1431655765)) &&& 858993459) + ((((v0 - (((v0.toUInt32 >>> ((1 : Int32).toUInt32 &&& Int32.toUInt32 31)).toInt32) &&& 1431655765)).toUInt32 >>> ((2 : Int32).toUInt32 &&& Int32.toUInt32 31)).toInt32) &&& 858993459)) + (((((v0 - (((v0.toUInt32 >>> ((1 : Int32).toUInt32 &&& Int32.toUInt32 31)).toInt32) &&& 1431655765)) &&& 858993459) + ((((v0 - (((v0.toUInt32 >>> ((1 : Int32).toUInt32 &&& Int32.toUInt32 31)).toInt32) &&& 1431655765)).toUInt32 >>> ((2 : Int32).toUInt32 &&& Int32.toUInt32 31)).toInt32) &&& 858993459)).toUInt32 >>> ((4 : Int32).toUInt32 &&& Int32.toUInt32 31)).toInt32)) &&& 252645135).toUInt32 >>> ((8 : Int32).toUInt32 &&& Int32.toUInt32 31)).toInt32)) + ((((((((v0 - (((v0.toUInt32 >>> ((1 : Int32).toUInt32 &&& Int32.toUInt32 31)).toInt32) &&& 1431655765)) &&& 858993459) + ((((v0 - (((v0.toUInt32 >>> ((1 : Int32).toUInt32 &&& Int32.toUInt32 31)).toInt32) &&& 1431655765)).toUInt32 >>> ((2 : Int32).toUInt32 &&& Int32.toUInt32 31)).toInt32) &&& 858993459)) + (((((v0 - (((v0.toUInt32 >>> ((1 : Int32).toUInt32 &&& Int32.toUInt32 31)).toInt32) &&& 1431655765)) &&& 858993459) + ((((v0 - (((v0.toUInt32 >>> ((1 : Int32).toUInt32 &&& Int32.toUInt32 31)).toInt32) &&& 1431655765)).toUInt32 >>> ((2 : Int32).toUInt32 &&& Int32.toUInt32 31)).toInt32) &&& 858993459)).toUInt32 >>> ((4 : Int32).toUInt32 &&& Int32.toUInt32 31)).toInt32)) &&& 252645135) + (((((((v0 - (((v0.toUInt32 >>> ((1 : Int32).toUInt32 &&& Int32.toUInt32 31)).toInt32) &&& 1431655765)) &&& 858993459) + ((((v0 - (((v0.toUInt32 >>> ((1 : Int32).toUInt32 &&& Int32.toUInt32 31)).toInt32) &&& 1431655765)).toUInt32 >>> ((2 : Int32).toUInt32 &&& Int32.toUInt32 31)).toInt32) &&& 858993459)) + (((((v0 - (((v0.toUInt32 >>> ((1 : Int32).toUInt32 &&& Int32.toUInt32 31)).toInt32) &&& 1431655765)) &&& 858993459) + ((((v0 - (((v0.toUInt32 >>> ((1 : Int32).toUInt32 &&& Int32.toUInt32 31)).toInt32) &&& 1431655765)).toUInt32 >>> ((2 : Int32).toUInt32 &&& Int32.toUInt32 31)).toInt32) &&& 858993459)).toUInt32 >>> ((4 : Int32).toUInt32 &&& Int32.toUInt32 31)).toInt32)) &&& 252645135).toUInt32 >>> ((8 : Int32).toUInt32 &&& Int32.toUInt32 31)).toInt32)).toUInt32 >>> ((16 : Int32).toUInt32 &&& Int32.toUInt32 31)).toInt32)))]) (by decide) rfl dJ6_bitCount_0f7a4_47 ?_
  refine q_iload_n 0 rfl dJ6_bitCount_0f7a4_48 ?_
  refine q_bipush (x := 63) (by decide) dJ6_bitCount_0f7a4_49 ?_
  refine q_iand dJ6_bitCount_0f7a4_51 ?_
  exact q_iretH rfl rfl dJ6_bitCount_0f7a4_52 hyp
theorem dX0_clear_0 : decode cX0_clear 0 = .ok (.aload_n 0, 1) := by decide +kernel
theorem dX0_clear_1 : decode cX0_clear 1 = .ok (.iconst 0, 1) := by decide +kernel
theorem dX0_clear_2 : decode cX0_clear 2 = .ok (.putfield 18, 3) := by decide +kernel
theorem dX0_clear_5 : decode cX0_clear 5 = .ok (.aload_n 0, 1) := by decide +kernel
theorem dX0_clear_6 : decode cX0_clear 6 = .ok (.iconst 0, 1) := by decide +kernel
theorem dX0_clear_7 : decode cX0_clear 7 = .ok (.putfield 22, 3) := by decide +kernel
theorem dX0_clear_10 : decode cX0_clear 10 = .ok (.return_, 1) := by decide +kernel
def fX0_clear (v0 : Nat) (h : qH) : Option (qH) :=
  (isO h v0 0).bind fun _ =>
  (pF h v0 0 1 (.int 0)).bind fun h1 =>
  (pF h1 v0 0 2 (.int 0)).bind fun h3 =>
  some h3
theorem obX0_clear {v0 : Nat} {h : qH} {p : qH} (hyp : fX0_clear v0 h = some p) : ∃ fs, h.1 v0 = some (.inr (0, fs)) := by
  unfold fX0_clear at hyp
  exact q_bind hyp (fun _ e _ => isO_some e)
set_option maxHeartbeats 4000000 in
set_option maxRecDepth 100000 in
theorem okX0_clear {l : Launch} {v0 : Nat} {h : qH} {h' : qH} (hyp : fX0_clear v0 h = some h') : q_M l 1 yX0_clear cX0_clear 1 none [.ref v0] h none h' := by
  unfold fX0_clear at hyp
  refine q_bind hyp (fun _ _ hyp => ?_)
  refine q_M.of (by decide) (Nat.le_of_ble_eq_true rfl) ?_
  refine q_to (ls' := [(0, .ref v0)]) (st' := []) rfl rfl ?_
  refine q_aload_n 0 rfl dX0_clear_0 ?_
  refine q_iconst (x := 0) rfl dX0_clear_1 ?_
  refine q_bind hyp (fun h1 e2 hyp => ?_)
  refine q_putF kF_X0_18 (fun _ => ⟨rfl, rfl⟩) dX0_clear_2 e2 ?_
  refine q_aload_n 0 rfl dX0_clear_5 ?_
  refine q_iconst (x := 0) rfl dX0_clear_6 ?_
  refine q_bind hyp (fun h3 e4 hyp => ?_)
  refine q_putF kF_X0_22 (fun _ => ⟨rfl, rfl⟩) dX0_clear_7 e4 ?_
  exact q_vretH rfl dX0_clear_10 hyp
theorem dX8_copy_0 : decode cX8_copy 0 = .ok (.iconst 0, 1) := by decide +kernel
theorem dX8_copy_1 : decode cX8_copy 1 = .ok (.istore_n 2, 1) := by decide +kernel
theorem dX8_copy_2 : decode cX8_copy 2 = .ok (.iload_n 2, 1) := by decide +kernel
theorem dX8_copy_3 : decode cX8_copy 3 = .ok (.bipush 7, 2) := by decide +kernel
theorem dX8_copy_5 : decode cX8_copy 5 = .ok (.if_icmp .ge 33, 3) := by decide +kernel
theorem dX8_copy_8 : decode cX8_copy 8 = .ok (.aload_n 0, 1) := by decide +kernel
theorem dX8_copy_9 : decode cX8_copy 9 = .ok (.getfield 9, 3) := by decide +kernel
theorem dX8_copy_12 : decode cX8_copy 12 = .ok (.iload_n 2, 1) := by decide +kernel
theorem dX8_copy_13 : decode cX8_copy 13 = .ok (.aload_n 1, 1) := by decide +kernel
theorem dX8_copy_14 : decode cX8_copy 14 = .ok (.getfield 9, 3) := by decide +kernel
theorem dX8_copy_17 : decode cX8_copy 17 = .ok (.iload_n 2, 1) := by decide +kernel
theorem dX8_copy_18 : decode cX8_copy 18 = .ok (.iaload, 1) := by decide +kernel
theorem dX8_copy_19 : decode cX8_copy 19 = .ok (.iastore, 1) := by decide +kernel
theorem dX8_copy_20 : decode cX8_copy 20 = .ok (.aload_n 0, 1) := by decide +kernel
theorem dX8_copy_21 : decode cX8_copy 21 = .ok (.getfield 15, 3) := by decide +kernel
theorem dX8_copy_24 : decode cX8_copy 24 = .ok (.iload_n 2, 1) := by decide +kernel
theorem dX8_copy_25 : decode cX8_copy 25 = .ok (.aload_n 1, 1) := by decide +kernel
theorem dX8_copy_26 : decode cX8_copy 26 = .ok (.getfield 15, 3) := by decide +kernel
theorem dX8_copy_29 : decode cX8_copy 29 = .ok (.iload_n 2, 1) := by decide +kernel
theorem dX8_copy_30 : decode cX8_copy 30 = .ok (.iaload, 1) := by decide +kernel
theorem dX8_copy_31 : decode cX8_copy 31 = .ok (.iastore, 1) := by decide +kernel
theorem dX8_copy_32 : decode cX8_copy 32 = .ok (.iinc 2 1, 3) := by decide +kernel
theorem dX8_copy_35 : decode cX8_copy 35 = .ok (.goto (-33), 3) := by decide +kernel
theorem dX8_copy_38 : decode cX8_copy 38 = .ok (.aload_n 0, 1) := by decide +kernel
theorem dX8_copy_39 : decode cX8_copy 39 = .ok (.aload_n 1, 1) := by decide +kernel
theorem dX8_copy_40 : decode cX8_copy 40 = .ok (.getfield 25, 3) := by decide +kernel
theorem dX8_copy_43 : decode cX8_copy 43 = .ok (.putfield 25, 3) := by decide +kernel
theorem dX8_copy_46 : decode cX8_copy 46 = .ok (.aload_n 0, 1) := by decide +kernel
theorem dX8_copy_47 : decode cX8_copy 47 = .ok (.aload_n 1, 1) := by decide +kernel
theorem dX8_copy_48 : decode cX8_copy 48 = .ok (.getfield 26, 3) := by decide +kernel
theorem dX8_copy_51 : decode cX8_copy 51 = .ok (.putfield 26, 3) := by decide +kernel
theorem dX8_copy_54 : decode cX8_copy 54 = .ok (.return_, 1) := by decide +kernel
def fX8_copy_b2 (n : Nat) : Nat → Nat → Nat → Int32 → qH → Option (qH)
  | 0, _, _, _, _ => none
  | w + 1, v0, v1, v2, h =>
    if 7 ≤ v2 then
    ((gI h v1 8 2).bind fun x2 =>
    (pF h v0 8 2 (.int x2)).bind fun h4 =>
    (gI h4 v1 8 3).bind fun x6 =>
    (pF h4 v0 8 3 (.int x6)).bind fun h8 =>
    some h8)
    else
    ((gR h v0 8 0).bind fun x10 =>
    (gR h v1 8 0).bind fun x12 =>
    (aI .int h x12 v2).bind fun x14 =>
    (sI .int h x10 v2 x14).bind fun h16 =>
    (gR h16 v0 8 1).bind fun x18 =>
    (gR h16 v1 8 1).bind fun x20 =>
    (aI .int h16 x20 v2).bind fun x22 =>
    (sI .int h16 x18 v2 x22).bind fun h24 =>
    fX8_copy_b2 n w v0 v1 (v2 + 1) h24)
set_option maxHeartbeats 4000000 in
set_option maxRecDepth 100000 in
theorem okX8_copy_b2 {l : Launch} {n : Nat} {h' : qH} : ∀ (w : Nat) (v0 : Nat) (v1 : Nat) (v2 : Int32) (h : qH), fX8_copy_b2 n w v0 v1 v2 h = some h' → q_W l 1 yX8_copy cX8_copy 3 none none h' 2 [(0, .ref v0), (1, .ref v1), (2, .int v2)] [] h := by
  intro w
  induction w with
  | zero => intro v0 v1 v2 h hyp; cases hyp
  | succ w ih =>
    intro v0 v1 v2 h hyp
    unfold fX8_copy_b2 at hyp
    refine q_iload_n 2 rfl dX8_copy_2 ?_
    refine q_bipush (x := 7) (by decide) dX8_copy_3 ?_
    refine q_icmp_ge (tgt := 38) dX8_copy_5 (by decide) (fun c1 => ?_) (fun c1 => ?_)
    · have hyp := q_pos c1 hyp
      refine q_aload_n 0 rfl dX8_copy_38 ?_
      refine q_aload_n 1 rfl dX8_copy_39 ?_
      refine q_bind hyp (fun x2 e3 hyp => ?_)
      refine q_getI kF_X8_25 dX8_copy_40 e3 ?_
      refine q_bind hyp (fun h4 e5 hyp => ?_)
      refine q_putF kF_X8_25 (fun _ => ⟨rfl, rfl⟩) dX8_copy_43 e5 ?_
      refine q_aload_n 0 rfl dX8_copy_46 ?_
      refine q_aload_n 1 rfl dX8_copy_47 ?_
      refine q_bind hyp (fun x6 e7 hyp => ?_)
      refine q_getI kF_X8_26 dX8_copy_48 e7 ?_
      refine q_bind hyp (fun h8 e9 hyp => ?_)
      refine q_putF kF_X8_26 (fun _ => ⟨rfl, rfl⟩) dX8_copy_51 e9 ?_
      exact q_vretH rfl dX8_copy_54 hyp
    · have hyp := q_neg c1 hyp
      refine q_aload_n 0 rfl dX8_copy_8 ?_
      refine q_bind hyp (fun x10 e11 hyp => ?_)
      refine q_getR kF_X8_9 dX8_copy_9 e11 ?_
      refine q_iload_n 2 rfl dX8_copy_12 ?_
      refine q_aload_n 1 rfl dX8_copy_13 ?_
      refine q_bind hyp (fun x12 e13 hyp => ?_)
      refine q_getR kF_X8_9 dX8_copy_14 e13 ?_
      refine q_iload_n 2 rfl dX8_copy_17 ?_
      refine q_bind hyp (fun x14 e15 hyp => ?_)
      refine q_iald dX8_copy_18 e15 ?_
      refine q_bind hyp (fun h16 e17 hyp => ?_)
      refine q_iast dX8_copy_19 e17 ?_
      refine q_aload_n 0 rfl dX8_copy_20 ?_
      refine q_bind hyp (fun x18 e19 hyp => ?_)
      refine q_getR kF_X8_15 dX8_copy_21 e19 ?_
      refine q_iload_n 2 rfl dX8_copy_24 ?_
      refine q_aload_n 1 rfl dX8_copy_25 ?_
      refine q_bind hyp (fun x20 e21 hyp => ?_)
      refine q_getR kF_X8_15 dX8_copy_26 e21 ?_
      refine q_iload_n 2 rfl dX8_copy_29 ?_
      refine q_bind hyp (fun x22 e23 hyp => ?_)
      refine q_iald dX8_copy_30 e23 ?_
      refine q_bind hyp (fun h24 e25 hyp => ?_)
      refine q_iast dX8_copy_31 e25 ?_
      refine q_iinc (ls' := [(2, .int (v2 + 1)), (0, .ref v0), (1, .ref v1)]) 2 rfl rfl (by decide) rfl dX8_copy_32 ?_
      refine q_goto (tgt := 2) dX8_copy_35 (by decide) ?_
      exact q_sub [1, 2, 0] rfl (ih v0 v1 (v2 + 1) h24 hyp)
def fX8_copy (n : Nat) (v0 : Nat) (v1 : Nat) (h : qH) : Option (qH) :=
  (isO h v0 8).bind fun _ =>
  fX8_copy_b2 n n v0 v1 0 h
theorem obX8_copy {n : Nat} {v0 : Nat} {v1 : Nat} {h : qH} {p : qH} (hyp : fX8_copy n v0 v1 h = some p) : ∃ fs, h.1 v0 = some (.inr (8, fs)) := by
  unfold fX8_copy at hyp
  exact q_bind hyp (fun _ e _ => isO_some e)
set_option maxHeartbeats 4000000 in
set_option maxRecDepth 100000 in
theorem okX8_copy {l : Launch} {n : Nat} {v0 : Nat} {v1 : Nat} {h : qH} {h' : qH} (hyp : fX8_copy n v0 v1 h = some h') : q_M l 1 yX8_copy cX8_copy 3 none [.ref v0, .ref v1] h none h' := by
  unfold fX8_copy at hyp
  refine q_bind hyp (fun _ _ hyp => ?_)
  refine q_M.of (by decide) (Nat.le_of_ble_eq_true rfl) ?_
  refine q_to (ls' := [(0, .ref v0), (1, .ref v1)]) (st' := []) rfl rfl ?_
  refine q_iconst (x := 0) rfl dX8_copy_0 ?_
  refine q_istore_n (ls' := [(2, .int 0), (0, .ref v0), (1, .ref v1)]) (by decide) rfl dX8_copy_1 ?_
  exact q_sub [1, 2, 0] rfl (okX8_copy_b2 _ v0 v1 0 h hyp)
theorem dX0_giveBack_0 : decode cX0_giveBack 0 = .ok (.aload_n 0, 1) := by decide +kernel
theorem dX0_giveBack_1 : decode cX0_giveBack 1 = .ok (.getfield 18, 3) := by decide +kernel
theorem dX0_giveBack_4 : decode cX0_giveBack 4 = .ok (.ifCond .ne 5, 3) := by decide +kernel
theorem dX0_giveBack_7 : decode cX0_giveBack 7 = .ok (.iconst 0, 1) := by decide +kernel
theorem dX0_giveBack_8 : decode cX0_giveBack 8 = .ok (.ireturn, 1) := by decide +kernel
theorem dX0_giveBack_9 : decode cX0_giveBack 9 = .ok (.aload_n 0, 1) := by decide +kernel
theorem dX0_giveBack_10 : decode cX0_giveBack 10 = .ok (.aload_n 0, 1) := by decide +kernel
theorem dX0_giveBack_11 : decode cX0_giveBack 11 = .ok (.getfield 22, 3) := by decide +kernel
theorem dX0_giveBack_14 : decode cX0_giveBack 14 = .ok (.ifCond .le 12, 3) := by decide +kernel
theorem dX0_giveBack_17 : decode cX0_giveBack 17 = .ok (.aload_n 0, 1) := by decide +kernel
theorem dX0_giveBack_18 : decode cX0_giveBack 18 = .ok (.getfield 22, 3) := by decide +kernel
theorem dX0_giveBack_21 : decode cX0_giveBack 21 = .ok (.iconst 1, 1) := by decide +kernel
theorem dX0_giveBack_22 : decode cX0_giveBack 22 = .ok (.isub, 1) := by decide +kernel
theorem dX0_giveBack_23 : decode cX0_giveBack 23 = .ok (.goto 10, 3) := by decide +kernel
theorem dX0_giveBack_26 : decode cX0_giveBack 26 = .ok (.aload_n 0, 1) := by decide +kernel
theorem dX0_giveBack_27 : decode cX0_giveBack 27 = .ok (.getfield 11, 3) := by decide +kernel
theorem dX0_giveBack_30 : decode cX0_giveBack 30 = .ok (.arraylength, 1) := by decide +kernel
theorem dX0_giveBack_31 : decode cX0_giveBack 31 = .ok (.iconst 1, 1) := by decide +kernel
theorem dX0_giveBack_32 : decode cX0_giveBack 32 = .ok (.isub, 1) := by decide +kernel
theorem dX0_giveBack_33 : decode cX0_giveBack 33 = .ok (.putfield 22, 3) := by decide +kernel
theorem dX0_giveBack_36 : decode cX0_giveBack 36 = .ok (.aload_n 0, 1) := by decide +kernel
theorem dX0_giveBack_37 : decode cX0_giveBack 37 = .ok (.dup, 1) := by decide +kernel
theorem dX0_giveBack_38 : decode cX0_giveBack 38 = .ok (.getfield 18, 3) := by decide +kernel
theorem dX0_giveBack_41 : decode cX0_giveBack 41 = .ok (.iconst 1, 1) := by decide +kernel
theorem dX0_giveBack_42 : decode cX0_giveBack 42 = .ok (.isub, 1) := by decide +kernel
theorem dX0_giveBack_43 : decode cX0_giveBack 43 = .ok (.putfield 18, 3) := by decide +kernel
theorem dX0_giveBack_46 : decode cX0_giveBack 46 = .ok (.aload_n 1, 1) := by decide +kernel
theorem dX0_giveBack_47 : decode cX0_giveBack 47 = .ok (.aload_n 0, 1) := by decide +kernel
theorem dX0_giveBack_48 : decode cX0_giveBack 48 = .ok (.getfield 11, 3) := by decide +kernel
theorem dX0_giveBack_51 : decode cX0_giveBack 51 = .ok (.aload_n 0, 1) := by decide +kernel
theorem dX0_giveBack_52 : decode cX0_giveBack 52 = .ok (.getfield 22, 3) := by decide +kernel
theorem dX0_giveBack_55 : decode cX0_giveBack 55 = .ok (.aaload, 1) := by decide +kernel
theorem dX0_giveBack_56 : decode cX0_giveBack 56 = .ok (.invokevirtual 25, 3) := by decide +kernel
theorem dX0_giveBack_59 : decode cX0_giveBack 59 = .ok (.iconst 1, 1) := by decide +kernel
theorem dX0_giveBack_60 : decode cX0_giveBack 60 = .ok (.ireturn, 1) := by decide +kernel
def fX0_giveBack_b33 (n : Nat) (v0 : Nat) (v1 : Nat) (s0 : Int32) (s1 : Nat) (h : qH) : Option (Int32 × qH) :=
  (pF h s1 0 2 (.int s0)).bind fun h1 =>
  (gI h1 v0 0 1).bind fun x3 =>
  (pF h1 v0 0 1 (.int (x3 - 1))).bind fun h5 =>
  (gR h5 v0 0 0).bind fun x7 =>
  (gI h5 v0 0 2).bind fun x9 =>
  (aR h5 x7 x9).bind fun x11 =>
  (fX8_copy n v1 x11 h5).bind fun h13 =>
  some (1, h13)
set_option maxHeartbeats 4000000 in
set_option maxRecDepth 100000 in
theorem okX0_giveBack_b33 {l : Launch} {n : Nat} {v0 : Nat} {v1 : Nat} {s0 : Int32} {s1 : Nat} {h : qH} {r : Int32} {h' : qH} (hyp : fX0_giveBack_b33 n v0 v1 s0 s1 h = some (r, h')) : q_W l 2 yX0_giveBack cX0_giveBack 2 (some .boolean) (some (.int r)) h' 33 [(0, .ref v0), (1, .ref v1)] [.int s0, .ref s1] h := by
  unfold fX0_giveBack_b33 at hyp
  refine q_bind hyp (fun h1 e2 hyp => ?_)
  refine q_putF kF_X0_22 (fun _ => ⟨rfl, rfl⟩) dX0_giveBack_33 e2 ?_
  refine q_aload_n 0 rfl dX0_giveBack_36 ?_
  refine q_dup rfl dX0_giveBack_37 ?_
  refine q_bind hyp (fun x3 e4 hyp => ?_)
  refine q_getI kF_X0_18 dX0_giveBack_38 e4 ?_
  refine q_iconst (x := 1) rfl dX0_giveBack_41 ?_
  refine q_isub dX0_giveBack_42 ?_
  refine q_bind hyp (fun h5 e6 hyp => ?_)
  refine q_putF kF_X0_18 (fun _ => ⟨rfl, rfl⟩) dX0_giveBack_43 e6 ?_
  refine q_aload_n 1 rfl dX0_giveBack_46 ?_
  refine q_aload_n 0 rfl dX0_giveBack_47 ?_
  refine q_bind hyp (fun x7 e8 hyp => ?_)
  refine q_getR kF_X0_11 dX0_giveBack_48 e8 ?_
  refine q_aload_n 0 rfl dX0_giveBack_51 ?_
  refine q_bind hyp (fun x9 e10 hyp => ?_)
  refine q_getI kF_X0_22 dX0_giveBack_52 e10 ?_
  refine q_bind hyp (fun x11 e12 hyp => ?_)
  refine q_aald dX0_giveBack_55 e12 ?_
  refine q_bind hyp (fun h13 e14 hyp => ?_)
  refine q_callV (as := [.ref x11]) (st := []) kY_X8_copy kL_X0_25 (okX8_copy (l := l) e14) (by decide) rfl (obX8_copy e14) (Nat.le_of_ble_eq_true rfl) dX0_giveBack_56 ?_
  refine q_to (ls' := [(0, .ref v0), (1, .ref v1)]) (st' := []) rfl rfl ?_
  refine q_iconst (x := 1) rfl dX0_giveBack_59 ?_
  exact q_iretH rfl rfl dX0_giveBack_60 hyp
def fX0_giveBack (n : Nat) (v0 : Nat) (v1 : Nat) (h : qH) : Option (Int32 × qH) :=
  (isO h v0 0).bind fun _ =>
  (gI h v0 0 1).bind fun x1 =>
  if x1 = 0 then
  (some (0, h))
  else
  ((gI h v0 0 2).bind fun x4 =>
  if x4 ≤ 0 then
  ((gR h v0 0 0).bind fun x7 =>
  (aN h x7).bind fun x9 =>
  fX0_giveBack_b33 n v0 v1 (x9 - 1) v0 h)
  else
  ((gI h v0 0 2).bind fun x11 =>
  fX0_giveBack_b33 n v0 v1 (x11 - 1) v0 h))
theorem obX0_giveBack {n : Nat} {v0 : Nat} {v1 : Nat} {h : qH} {p : Int32 × qH} (hyp : fX0_giveBack n v0 v1 h = some p) : ∃ fs, h.1 v0 = some (.inr (0, fs)) := by
  unfold fX0_giveBack at hyp
  exact q_bind hyp (fun _ e _ => isO_some e)
set_option maxHeartbeats 4000000 in
set_option maxRecDepth 100000 in
theorem okX0_giveBack {l : Launch} {n : Nat} {v0 : Nat} {v1 : Nat} {h : qH} {p : Int32 × qH} (hyp : fX0_giveBack n v0 v1 h = some p) : q_M l 2 yX0_giveBack cX0_giveBack 2 (some .boolean) [.ref v0, .ref v1] h (some (.int p.1)) p.2 := by
  obtain ⟨r, h'⟩ := p
  unfold fX0_giveBack at hyp
  refine q_bind hyp (fun _ _ hyp => ?_)
  refine q_M.of (by decide) (Nat.le_of_ble_eq_true rfl) ?_
  refine q_to (ls' := [(0, .ref v0), (1, .ref v1)]) (st' := []) rfl rfl ?_
  refine q_aload_n 0 rfl dX0_giveBack_0 ?_
  refine q_bind hyp (fun x1 e2 hyp => ?_)
  refine q_getI kF_X0_18 dX0_giveBack_1 e2 ?_
  refine q_if_ne (tgt := 9) dX0_giveBack_4 (by decide) (fun c3 => ?_) (fun c3 => ?_)
  · have hyp := q_neg c3 hyp
    refine q_aload_n 0 rfl dX0_giveBack_9 ?_
    refine q_aload_n 0 rfl dX0_giveBack_10 ?_
    refine q_bind hyp (fun x4 e5 hyp => ?_)
    refine q_getI kF_X0_22 dX0_giveBack_11 e5 ?_
    refine q_if_le (tgt := 26) dX0_giveBack_14 (by decide) (fun c6 => ?_) (fun c6 => ?_)
    · have hyp := q_pos c6 hyp
      refine q_aload_n 0 rfl dX0_giveBack_26 ?_
      refine q_bind hyp (fun x7 e8 hyp => ?_)
      refine q_getR kF_X0_11 dX0_giveBack_27 e8 ?_
      refine q_bind hyp (fun x9 e10 hyp => ?_)
      refine q_alen dX0_giveBack_30 e10 ?_
      refine q_iconst (x := 1) rfl dX0_giveBack_31 ?_
      refine q_isub dX0_giveBack_32 ?_
      exact q_sub [0, 1] rfl (okX0_giveBack_b33 hyp)
    · have hyp := q_neg c6 hyp
      refine q_aload_n 0 rfl dX0_giveBack_17 ?_
      refine q_bind hyp (fun x11 e12 hyp => ?_)
      refine q_getI kF_X0_22 dX0_giveBack_18 e12 ?_
      refine q_iconst (x := 1) rfl dX0_giveBack_21 ?_
      refine q_isub dX0_giveBack_22 ?_
      refine q_goto (tgt := 33) dX0_giveBack_23 (by decide) ?_
      exact q_sub [0, 1] rfl (okX0_giveBack_b33 hyp)
  · have hyp := q_pos c3 hyp
    refine q_iconst (x := 0) rfl dX0_giveBack_7 ?_
    exact q_iretH rfl rfl dX0_giveBack_8 hyp
theorem dX8_init_0 : decode cX8_init 0 = .ok (.aload_n 0, 1) := by decide +kernel
theorem dX8_init_1 : decode cX8_init 1 = .ok (.invokespecial 3, 3) := by decide +kernel
theorem dX8_init_4 : decode cX8_init 4 = .ok (.aload_n 0, 1) := by decide +kernel
theorem dX8_init_5 : decode cX8_init 5 = .ok (.bipush 7, 2) := by decide +kernel
theorem dX8_init_7 : decode cX8_init 7 = .ok (.newarray .int, 2) := by decide +kernel
theorem dX8_init_9 : decode cX8_init 9 = .ok (.putfield 9, 3) := by decide +kernel
theorem dX8_init_12 : decode cX8_init 12 = .ok (.aload_n 0, 1) := by decide +kernel
theorem dX8_init_13 : decode cX8_init 13 = .ok (.bipush 7, 2) := by decide +kernel
theorem dX8_init_15 : decode cX8_init 15 = .ok (.newarray .int, 2) := by decide +kernel
theorem dX8_init_17 : decode cX8_init 17 = .ok (.putfield 15, 3) := by decide +kernel
theorem dX8_init_20 : decode cX8_init 20 = .ok (.return_, 1) := by decide +kernel
def fX8_init (v0 : Nat) (h : qH) : Option (qH) :=
  (isO h v0 8).bind fun _ =>
  (some (nwE (.inl (.int, 7, .inl (fun _ => 0))) 7 h)).bind fun h1 =>
  (pF h1 v0 8 0 (.ref h.2.1)).bind fun h3 =>
  (some (nwE (.inl (.int, 7, .inl (fun _ => 0))) 7 h3)).bind fun h5 =>
  (pF h5 v0 8 1 (.ref h3.2.1)).bind fun h7 =>
  some h7
theorem obX8_init {v0 : Nat} {h : qH} {p : qH} (hyp : fX8_init v0 h = some p) : ∃ fs, h.1 v0 = some (.inr (8, fs)) := by
  unfold fX8_init at hyp
  exact q_bind hyp (fun _ e _ => isO_some e)
set_option maxHeartbeats 4000000 in
set_option maxRecDepth 100000 in
theorem okX8_init {l : Launch} {v0 : Nat} {h : qH} {h' : qH} (hyp : fX8_init v0 h = some h') : q_M l 1 yX8_init cX8_init 1 none [.ref v0] h none h' := by
  unfold fX8_init at hyp
  refine q_bind hyp (fun _ _ hyp => ?_)
  refine q_M.of (by decide) (Nat.le_of_ble_eq_true rfl) ?_
  refine q_to (ls' := [(0, .ref v0)]) (st' := []) rfl rfl ?_
  refine q_aload_n 0 rfl dX8_init_0 ?_
  refine q_objInit kL_X8_3 kI_obj kD_obj (by decide) (Nat.le_of_ble_eq_true rfl) dX8_init_1 ?_
  refine q_aload_n 0 rfl dX8_init_4 ?_
  refine q_bipush (x := 7) (by decide) dX8_init_5 ?_
  refine q_bind hyp (fun h1 e2 hyp => ?_)
  refine q_newa (ty := .int) (N := 7) (k := .inl (fun _ => 0)) rfl rfl kA_int (fun _ _ => rfl) (fun _ _ h => h) (by decide) (by decide) dX8_init_7 ?_
  rw [Option.some.inj e2]
  refine q_bind hyp (fun h3 e4 hyp => ?_)
  refine q_putZ kF_X8_9 rfl ⟨_, _, rfl⟩ (fun _ => ⟨rfl, rfl⟩) dX8_init_9 e4 ?_
  refine q_aload_n 0 rfl dX8_init_12 ?_
  refine q_bipush (x := 7) (by decide) dX8_init_13 ?_
  refine q_bind hyp (fun h5 e6 hyp => ?_)
  refine q_newa (ty := .int) (N := 7) (k := .inl (fun _ => 0)) rfl rfl kA_int (fun _ _ => rfl) (fun _ _ h => h) (by decide) (by decide) dX8_init_15 ?_
  rw [Option.some.inj e6]
  refine q_bind hyp (fun h7 e8 hyp => ?_)
  refine q_putZ kF_X8_15 rfl ⟨_, _, rfl⟩ (fun _ => ⟨rfl, rfl⟩) dX8_init_17 e8 ?_
  exact q_vretH rfl dX8_init_20 hyp
theorem dX0_init_0 : decode cX0_init 0 = .ok (.aload_n 0, 1) := by decide +kernel
theorem dX0_init_1 : decode cX0_init 1 = .ok (.invokespecial 3, 3) := by decide +kernel
theorem dX0_init_4 : decode cX0_init 4 = .ok (.aload_n 0, 1) := by decide +kernel
theorem dX0_init_5 : decode cX0_init 5 = .ok (.bipush 16, 2) := by decide +kernel
theorem dX0_init_7 : decode cX0_init 7 = .ok (.anewarray 9, 3) := by decide +kernel
theorem dX0_init_10 : decode cX0_init 10 = .ok (.putfield 11, 3) := by decide +kernel
theorem dX0_init_13 : decode cX0_init 13 = .ok (.iconst 0, 1) := by decide +kernel
theorem dX0_init_14 : decode cX0_init 14 = .ok (.istore_n 1, 1) := by decide +kernel
theorem dX0_init_15 : decode cX0_init 15 = .ok (.iload_n 1, 1) := by decide +kernel
theorem dX0_init_16 : decode cX0_init 16 = .ok (.aload_n 0, 1) := by decide +kernel
theorem dX0_init_17 : decode cX0_init 17 = .ok (.getfield 11, 3) := by decide +kernel
theorem dX0_init_20 : decode cX0_init 20 = .ok (.arraylength, 1) := by decide +kernel
theorem dX0_init_21 : decode cX0_init 21 = .ok (.if_icmp .ge 22, 3) := by decide +kernel
theorem dX0_init_24 : decode cX0_init 24 = .ok (.aload_n 0, 1) := by decide +kernel
theorem dX0_init_25 : decode cX0_init 25 = .ok (.getfield 11, 3) := by decide +kernel
theorem dX0_init_28 : decode cX0_init 28 = .ok (.iload_n 1, 1) := by decide +kernel
theorem dX0_init_29 : decode cX0_init 29 = .ok (.new 9, 3) := by decide +kernel
theorem dX0_init_32 : decode cX0_init 32 = .ok (.dup, 1) := by decide +kernel
theorem dX0_init_33 : decode cX0_init 33 = .ok (.invokespecial 17, 3) := by decide +kernel
theorem dX0_init_36 : decode cX0_init 36 = .ok (.aastore, 1) := by decide +kernel
theorem dX0_init_37 : decode cX0_init 37 = .ok (.iinc 1 1, 3) := by decide +kernel
theorem dX0_init_40 : decode cX0_init 40 = .ok (.goto (-25), 3) := by decide +kernel
theorem dX0_init_43 : decode cX0_init 43 = .ok (.return_, 1) := by decide +kernel
def fX0_init_b15 (n : Nat) : Nat → Nat → Int32 → qH → Option (qH)
  | 0, _, _, _ => none
  | w + 1, v0, v1, h =>
    (gR h v0 0 0).bind fun x1 =>
    (aN h x1).bind fun x3 =>
    if x3 ≤ v1 then
    (some h)
    else
    ((gR h v0 0 0).bind fun x6 =>
    (some (nwE (.inr (8, [.null, .null, .int 0, .int 0])) 4 h)).bind fun h8 =>
    (fX8_init h.2.1 h8).bind fun h10 =>
    (sR RX8 8 h10 x6 v1 h.2.1).bind fun h11 =>
    fX0_init_b15 n w v0 (v1 + 1) h11)
set_option maxHeartbeats 4000000 in
set_option maxRecDepth 100000 in
theorem okX0_init_b15 {l : Launch} {n : Nat} {h' : qH} : ∀ (w : Nat) (v0 : Nat) (v1 : Int32) (h : qH), fX0_init_b15 n w v0 v1 h = some h' → q_W l 2 yX0_init cX0_init 2 none none h' 15 [(0, .ref v0), (1, .int v1)] [] h := by
  intro w
  induction w with
  | zero => intro v0 v1 h hyp; cases hyp
  | succ w ih =>
    intro v0 v1 h hyp
    unfold fX0_init_b15 at hyp
    refine q_iload_n 1 rfl dX0_init_15 ?_
    refine q_aload_n 0 rfl dX0_init_16 ?_
    refine q_bind hyp (fun x1 e2 hyp => ?_)
    refine q_getR kF_X0_11 dX0_init_17 e2 ?_
    refine q_bind hyp (fun x3 e4 hyp => ?_)
    refine q_alen dX0_init_20 e4 ?_
    refine q_icmp_ge (tgt := 43) dX0_init_21 (by decide) (fun c5 => ?_) (fun c5 => ?_)
    · have hyp := q_pos c5 hyp
      exact q_vretH rfl dX0_init_43 hyp
    · have hyp := q_neg c5 hyp
      refine q_aload_n 0 rfl dX0_init_24 ?_
      refine q_bind hyp (fun x6 e7 hyp => ?_)
      refine q_getR kF_X0_11 dX0_init_25 e7 ?_
      refine q_iload_n 1 rfl dX0_init_28 ?_
      refine q_bind hyp (fun h8 e9 hyp => ?_)
      refine q_new (fs := [.null, .null, .int 0, .int 0]) kC8 kN_X0_9 kT8 kZ8 (fun _ => (by decide +kernel : ∀ j, j < 4 → defaultValue (tyX8 j) = vp_V [.null, .null, .int 0, .int 0] j)) dX0_init_29 ?_
      rw [Option.some.inj e9]
      refine q_dup rfl dX0_init_32 ?_
      refine q_bind hyp (fun h10 e13 hyp => ?_)
      refine q_callI (as := []) (st := [.ref h.2.1, .int v1, .ref x6]) kY_X8_init kI_X8_init rfl kL_X0_17 (okX8_init (l := l) e13) (by decide) rfl (Nat.le_of_ble_eq_true rfl) dX0_init_33 ?_
      refine q_to (ls' := [(0, .ref v0), (1, .int v1)]) (st' := [.ref h.2.1, .int v1, .ref x6]) rfl rfl ?_
      refine q_bind hyp (fun h11 e12 hyp => ?_)
      refine q_aast (C := RX8) (ci := 8) rfl dX0_init_36 e12 ?_
      refine q_iinc (ls' := [(1, .int (v1 + 1)), (0, .ref v0)]) 1 rfl rfl (by decide) rfl dX0_init_37 ?_
      refine q_goto (tgt := 15) dX0_init_40 (by decide) ?_
      exact q_sub [1, 0] rfl (ih v0 (v1 + 1) h11 hyp)
def fX0_init (n : Nat) (v0 : Nat) (h : qH) : Option (qH) :=
  (isO h v0 0).bind fun _ =>
  (some (nwE (.inl (.object RX8, 16, .inr (.inr (fun _ => none)))) 16 h)).bind fun h1 =>
  (pF h1 v0 0 0 (.ref h.2.1)).bind fun h3 =>
  fX0_init_b15 n n v0 0 h3
theorem obX0_init {n : Nat} {v0 : Nat} {h : qH} {p : qH} (hyp : fX0_init n v0 h = some p) : ∃ fs, h.1 v0 = some (.inr (0, fs)) := by
  unfold fX0_init at hyp
  exact q_bind hyp (fun _ e _ => isO_some e)
set_option maxHeartbeats 4000000 in
set_option maxRecDepth 100000 in
theorem okX0_init {l : Launch} {n : Nat} {v0 : Nat} {h : qH} {h' : qH} (hyp : fX0_init n v0 h = some h') : q_M l 2 yX0_init cX0_init 2 none [.ref v0] h none h' := by
  unfold fX0_init at hyp
  refine q_bind hyp (fun _ _ hyp => ?_)
  refine q_M.of (by decide) (Nat.le_of_ble_eq_true rfl) ?_
  refine q_to (ls' := [(0, .ref v0)]) (st' := []) rfl rfl ?_
  refine q_aload_n 0 rfl dX0_init_0 ?_
  refine q_objInit kL_X0_3 kI_obj kD_obj (by decide) (Nat.le_of_ble_eq_true rfl) dX0_init_1 ?_
  refine q_aload_n 0 rfl dX0_init_4 ?_
  refine q_bipush (x := 16) (by decide) dX0_init_5 ?_
  refine q_bind hyp (fun h1 e2 hyp => ?_)
  refine q_anew (N := 16) rfl kN_X0_9 (fun _ _ h9 => h9.2.2.2.1) (by decide) (by decide) dX0_init_7 ?_
  rw [Option.some.inj e2]
  refine q_bind hyp (fun h3 e4 hyp => ?_)
  refine q_putZ kF_X0_11 rfl ⟨_, _, rfl⟩ (fun _ => ⟨rfl, rfl⟩) dX0_init_10 e4 ?_
  refine q_iconst (x := 0) rfl dX0_init_13 ?_
  refine q_istore_n (ls' := [(1, .int 0), (0, .ref v0)]) (by decide) rfl dX0_init_14 ?_
  exact q_sub [1, 0] rfl (okX0_init_b15 _ v0 0 h3 hyp)
theorem dX0_keep_0 : decode cX0_keep 0 = .ok (.aload_n 0, 1) := by decide +kernel
theorem dX0_keep_1 : decode cX0_keep 1 = .ok (.getfield 11, 3) := by decide +kernel
theorem dX0_keep_4 : decode cX0_keep 4 = .ok (.aload_n 0, 1) := by decide +kernel
theorem dX0_keep_5 : decode cX0_keep 5 = .ok (.getfield 22, 3) := by decide +kernel
theorem dX0_keep_8 : decode cX0_keep 8 = .ok (.aaload, 1) := by decide +kernel
theorem dX0_keep_9 : decode cX0_keep 9 = .ok (.aload_n 1, 1) := by decide +kernel
theorem dX0_keep_10 : decode cX0_keep 10 = .ok (.invokevirtual 25, 3) := by decide +kernel
theorem dX0_keep_13 : decode cX0_keep 13 = .ok (.aload_n 0, 1) := by decide +kernel
theorem dX0_keep_14 : decode cX0_keep 14 = .ok (.aload_n 0, 1) := by decide +kernel
theorem dX0_keep_15 : decode cX0_keep 15 = .ok (.getfield 22, 3) := by decide +kernel
theorem dX0_keep_18 : decode cX0_keep 18 = .ok (.iconst 1, 1) := by decide +kernel
theorem dX0_keep_19 : decode cX0_keep 19 = .ok (.iadd, 1) := by decide +kernel
theorem dX0_keep_20 : decode cX0_keep 20 = .ok (.aload_n 0, 1) := by decide +kernel
theorem dX0_keep_21 : decode cX0_keep 21 = .ok (.getfield 11, 3) := by decide +kernel
theorem dX0_keep_24 : decode cX0_keep 24 = .ok (.arraylength, 1) := by decide +kernel
theorem dX0_keep_25 : decode cX0_keep 25 = .ok (.if_icmp .ge 12, 3) := by decide +kernel
theorem dX0_keep_28 : decode cX0_keep 28 = .ok (.aload_n 0, 1) := by decide +kernel
theorem dX0_keep_29 : decode cX0_keep 29 = .ok (.getfield 22, 3) := by decide +kernel
theorem dX0_keep_32 : decode cX0_keep 32 = .ok (.iconst 1, 1) := by decide +kernel
theorem dX0_keep_33 : decode cX0_keep 33 = .ok (.iadd, 1) := by decide +kernel
theorem dX0_keep_34 : decode cX0_keep 34 = .ok (.goto 4, 3) := by decide +kernel
theorem dX0_keep_37 : decode cX0_keep 37 = .ok (.iconst 0, 1) := by decide +kernel
theorem dX0_keep_38 : decode cX0_keep 38 = .ok (.putfield 22, 3) := by decide +kernel
theorem dX0_keep_41 : decode cX0_keep 41 = .ok (.aload_n 0, 1) := by decide +kernel
theorem dX0_keep_42 : decode cX0_keep 42 = .ok (.aload_n 0, 1) := by decide +kernel
theorem dX0_keep_43 : decode cX0_keep 43 = .ok (.getfield 18, 3) := by decide +kernel
theorem dX0_keep_46 : decode cX0_keep 46 = .ok (.iconst 1, 1) := by decide +kernel
theorem dX0_keep_47 : decode cX0_keep 47 = .ok (.iadd, 1) := by decide +kernel
theorem dX0_keep_48 : decode cX0_keep 48 = .ok (.aload_n 0, 1) := by decide +kernel
theorem dX0_keep_49 : decode cX0_keep 49 = .ok (.getfield 11, 3) := by decide +kernel
theorem dX0_keep_52 : decode cX0_keep 52 = .ok (.arraylength, 1) := by decide +kernel
theorem dX0_keep_53 : decode cX0_keep 53 = .ok (.invokestatic 29, 3) := by decide +kernel
theorem dX0_keep_56 : decode cX0_keep 56 = .ok (.putfield 18, 3) := by decide +kernel
theorem dX0_keep_59 : decode cX0_keep 59 = .ok (.return_, 1) := by decide +kernel
def fX0_keep_b38 (n : Nat) (v0 : Nat) (s0 : Int32) (s1 : Nat) (h : qH) : Option (qH) :=
  (pF h s1 0 2 (.int s0)).bind fun h1 =>
  (gI h1 v0 0 1).bind fun x3 =>
  (gR h1 v0 0 0).bind fun x5 =>
  (aN h1 x5).bind fun x7 =>
  (pF h1 v0 0 1 (.int (if x7 < (x3 + 1) then x7 else (x3 + 1)))).bind fun h9 =>
  some h9
set_option maxHeartbeats 4000000 in
set_option maxRecDepth 100000 in
theorem okX0_keep_b38 {l : Launch} {n : Nat} {v0 : Nat} {s0 : Int32} {s1 : Nat} {h : qH} {h' : qH} (hyp : fX0_keep_b38 n v0 s0 s1 h = some h') : q_W l 2 yX0_keep cX0_keep 2 none none h' 38 [(0, .ref v0)] [.int s0, .ref s1] h := by
  unfold fX0_keep_b38 at hyp
  refine q_bind hyp (fun h1 e2 hyp => ?_)
  refine q_putF kF_X0_22 (fun _ => ⟨rfl, rfl⟩) dX0_keep_38 e2 ?_
  refine q_aload_n 0 rfl dX0_keep_41 ?_
  refine q_aload_n 0 rfl dX0_keep_42 ?_
  refine q_bind hyp (fun x3 e4 hyp => ?_)
  refine q_getI kF_X0_18 dX0_keep_43 e4 ?_
  refine q_iconst (x := 1) rfl dX0_keep_46 ?_
  refine q_iadd dX0_keep_47 ?_
  refine q_aload_n 0 rfl dX0_keep_48 ?_
  refine q_bind hyp (fun x5 e6 hyp => ?_)
  refine q_getR kF_X0_11 dX0_keep_49 e6 ?_
  refine q_bind hyp (fun x7 e8 hyp => ?_)
  refine q_alen dX0_keep_52 e8 ?_
  refine q_min kL_X0_29 kS_min kZ_math kD_min (by decide) (Nat.le_of_ble_eq_true rfl) dX0_keep_53 ?_
  refine q_bind hyp (fun h9 e10 hyp => ?_)
  refine q_putF kF_X0_18 (fun _ => ⟨rfl, rfl⟩) dX0_keep_56 e10 ?_
  exact q_vretH rfl dX0_keep_59 hyp
def fX0_keep (n : Nat) (v0 : Nat) (v1 : Nat) (h : qH) : Option (qH) :=
  (isO h v0 0).bind fun _ =>
  (gR h v0 0 0).bind fun x1 =>
  (gI h v0 0 2).bind fun x3 =>
  (aR h x1 x3).bind fun x5 =>
  (fX8_copy n x5 v1 h).bind fun h7 =>
  (gI h7 v0 0 2).bind fun x8 =>
  (gR h7 v0 0 0).bind fun x10 =>
  (aN h7 x10).bind fun x12 =>
  if x12 ≤ (x8 + 1) then
  (fX0_keep_b38 n v0 0 v0 h7)
  else
  ((gI h7 v0 0 2).bind fun x15 =>
  fX0_keep_b38 n v0 (x15 + 1) v0 h7)
theorem obX0_keep {n : Nat} {v0 : Nat} {v1 : Nat} {h : qH} {p : qH} (hyp : fX0_keep n v0 v1 h = some p) : ∃ fs, h.1 v0 = some (.inr (0, fs)) := by
  unfold fX0_keep at hyp
  exact q_bind hyp (fun _ e _ => isO_some e)
set_option maxHeartbeats 4000000 in
set_option maxRecDepth 100000 in
theorem okX0_keep {l : Launch} {n : Nat} {v0 : Nat} {v1 : Nat} {h : qH} {h' : qH} (hyp : fX0_keep n v0 v1 h = some h') : q_M l 2 yX0_keep cX0_keep 2 none [.ref v0, .ref v1] h none h' := by
  unfold fX0_keep at hyp
  refine q_bind hyp (fun _ _ hyp => ?_)
  refine q_M.of (by decide) (Nat.le_of_ble_eq_true rfl) ?_
  refine q_to (ls' := [(0, .ref v0), (1, .ref v1)]) (st' := []) rfl rfl ?_
  refine q_aload_n 0 rfl dX0_keep_0 ?_
  refine q_bind hyp (fun x1 e2 hyp => ?_)
  refine q_getR kF_X0_11 dX0_keep_1 e2 ?_
  refine q_aload_n 0 rfl dX0_keep_4 ?_
  refine q_bind hyp (fun x3 e4 hyp => ?_)
  refine q_getI kF_X0_22 dX0_keep_5 e4 ?_
  refine q_bind hyp (fun x5 e6 hyp => ?_)
  refine q_aald dX0_keep_8 e6 ?_
  refine q_aload_n 1 rfl dX0_keep_9 ?_
  refine q_bind hyp (fun h7 e17 hyp => ?_)
  refine q_callV (as := [.ref v1]) (st := []) kY_X8_copy kL_X0_25 (okX8_copy (l := l) e17) (by decide) rfl (obX8_copy e17) (Nat.le_of_ble_eq_true rfl) dX0_keep_10 ?_
  refine q_to (ls' := [(0, .ref v0), (1, .ref v1)]) (st' := []) rfl rfl ?_
  refine q_aload_n 0 rfl dX0_keep_13 ?_
  refine q_aload_n 0 rfl dX0_keep_14 ?_
  refine q_bind hyp (fun x8 e9 hyp => ?_)
  refine q_getI kF_X0_22 dX0_keep_15 e9 ?_
  refine q_iconst (x := 1) rfl dX0_keep_18 ?_
  refine q_iadd dX0_keep_19 ?_
  refine q_aload_n 0 rfl dX0_keep_20 ?_
  refine q_bind hyp (fun x10 e11 hyp => ?_)
  refine q_getR kF_X0_11 dX0_keep_21 e11 ?_
  refine q_bind hyp (fun x12 e13 hyp => ?_)
  refine q_alen dX0_keep_24 e13 ?_
  refine q_icmp_ge (tgt := 37) dX0_keep_25 (by decide) (fun c14 => ?_) (fun c14 => ?_)
  · have hyp := q_pos c14 hyp
    refine q_iconst (x := 0) rfl dX0_keep_37 ?_
    exact q_sub [0] rfl (okX0_keep_b38 hyp)
  · have hyp := q_neg c14 hyp
    refine q_aload_n 0 rfl dX0_keep_28 ?_
    refine q_bind hyp (fun x15 e16 hyp => ?_)
    refine q_getI kF_X0_22 dX0_keep_29 e16 ?_
    refine q_iconst (x := 1) rfl dX0_keep_32 ?_
    refine q_iadd dX0_keep_33 ?_
    refine q_goto (tgt := 38) dX0_keep_34 (by decide) ?_
    exact q_sub [0] rfl (okX0_keep_b38 hyp)
theorem dX10_copies_0 : decode cX10_copies 0 = .ok (.iconst 0, 1) := by decide +kernel
theorem dX10_copies_1 : decode cX10_copies 1 = .ok (.istore 4, 2) := by decide +kernel
theorem dX10_copies_3 : decode cX10_copies 3 = .ok (.iload 4, 2) := by decide +kernel
theorem dX10_copies_5 : decode cX10_copies 5 = .ok (.bipush 16, 2) := by decide +kernel
theorem dX10_copies_7 : decode cX10_copies 7 = .ok (.if_icmp .ge 21, 3) := by decide +kernel
theorem dX10_copies_10 : decode cX10_copies 10 = .ok (.aload_n 2, 1) := by decide +kernel
theorem dX10_copies_11 : decode cX10_copies 11 = .ok (.iload_n 3, 1) := by decide +kernel
theorem dX10_copies_12 : decode cX10_copies 12 = .ok (.iload 4, 2) := by decide +kernel
theorem dX10_copies_14 : decode cX10_copies 14 = .ok (.iadd, 1) := by decide +kernel
theorem dX10_copies_15 : decode cX10_copies 15 = .ok (.aload_n 0, 1) := by decide +kernel
theorem dX10_copies_16 : decode cX10_copies 16 = .ok (.iload_n 1, 1) := by decide +kernel
theorem dX10_copies_17 : decode cX10_copies 17 = .ok (.iload 4, 2) := by decide +kernel
theorem dX10_copies_19 : decode cX10_copies 19 = .ok (.iadd, 1) := by decide +kernel
theorem dX10_copies_20 : decode cX10_copies 20 = .ok (.iaload, 1) := by decide +kernel
theorem dX10_copies_21 : decode cX10_copies 21 = .ok (.iastore, 1) := by decide +kernel
theorem dX10_copies_22 : decode cX10_copies 22 = .ok (.iinc 4 1, 3) := by decide +kernel
theorem dX10_copies_25 : decode cX10_copies 25 = .ok (.goto (-22), 3) := by decide +kernel
theorem dX10_copies_28 : decode cX10_copies 28 = .ok (.return_, 1) := by decide +kernel
def fX10_copies_b3 (n : Nat) : Nat → Nat → Int32 → Nat → Int32 → Int32 → qH → Option (qH)
  | 0, _, _, _, _, _, _ => none
  | w + 1, v0, v1, v2, v3, v4, h =>
    if 16 ≤ v4 then
    (some h)
    else
    ((aI .int h v0 (v1 + v4)).bind fun x2 =>
    (sI .int h v2 (v3 + v4) x2).bind fun h4 =>
    fX10_copies_b3 n w v0 v1 v2 v3 (v4 + 1) h4)
set_option maxHeartbeats 4000000 in
set_option maxRecDepth 100000 in
theorem okX10_copies_b3 {l : Launch} {n : Nat} {h' : qH} : ∀ (w : Nat) (v0 : Nat) (v1 : Int32) (v2 : Nat) (v3 : Int32) (v4 : Int32) (h : qH), fX10_copies_b3 n w v0 v1 v2 v3 v4 h = some h' → q_W l 1 yX10_copies cX10_copies 5 none none h' 3 [(0, .ref v0), (1, .int v1), (2, .ref v2), (3, .int v3), (4, .int v4)] [] h := by
  intro w
  induction w with
  | zero => intro v0 v1 v2 v3 v4 h hyp; cases hyp
  | succ w ih =>
    intro v0 v1 v2 v3 v4 h hyp
    unfold fX10_copies_b3 at hyp
    refine q_iload 4 rfl dX10_copies_3 ?_
    refine q_bipush (x := 16) (by decide) dX10_copies_5 ?_
    refine q_icmp_ge (tgt := 28) dX10_copies_7 (by decide) (fun c1 => ?_) (fun c1 => ?_)
    · have hyp := q_pos c1 hyp
      exact q_vretH rfl dX10_copies_28 hyp
    · have hyp := q_neg c1 hyp
      refine q_aload_n 2 rfl dX10_copies_10 ?_
      refine q_iload_n 3 rfl dX10_copies_11 ?_
      refine q_iload 4 rfl dX10_copies_12 ?_
      refine q_iadd dX10_copies_14 ?_
      refine q_aload_n 0 rfl dX10_copies_15 ?_
      refine q_iload_n 1 rfl dX10_copies_16 ?_
      refine q_iload 4 rfl dX10_copies_17 ?_
      refine q_iadd dX10_copies_19 ?_
      refine q_bind hyp (fun x2 e3 hyp => ?_)
      refine q_iald dX10_copies_20 e3 ?_
      refine q_bind hyp (fun h4 e5 hyp => ?_)
      refine q_iast dX10_copies_21 e5 ?_
      refine q_iinc (ls' := [(4, .int (v4 + 1)), (0, .ref v0), (1, .int v1), (2, .ref v2), (3, .int v3)]) 4 rfl rfl (by decide) rfl dX10_copies_22 ?_
      refine q_goto (tgt := 3) dX10_copies_25 (by decide) ?_
      exact q_sub [1, 2, 3, 4, 0] rfl (ih v0 v1 v2 v3 (v4 + 1) h4 hyp)
def fX10_copies (n : Nat) (v0 : Nat) (v1 : Int32) (v2 : Nat) (v3 : Int32) (h : qH) : Option (qH) :=
  fX10_copies_b3 n n v0 v1 v2 v3 0 h
set_option maxHeartbeats 4000000 in
set_option maxRecDepth 100000 in
theorem okX10_copies {l : Launch} {n : Nat} {v0 : Nat} {v1 : Int32} {v2 : Nat} {v3 : Int32} {h : qH} {h' : qH} (hyp : fX10_copies n v0 v1 v2 v3 h = some h') : q_M l 1 yX10_copies cX10_copies 5 none [.ref v0, .int v1, .ref v2, .int v3] h none h' := by
  unfold fX10_copies at hyp
  refine q_M.of (by decide) (Nat.le_of_ble_eq_true rfl) ?_
  refine q_to (ls' := [(0, .ref v0), (1, .int v1), (2, .ref v2), (3, .int v3)]) (st' := []) rfl rfl ?_
  refine q_iconst (x := 0) rfl dX10_copies_0 ?_
  refine q_istore (ls' := [(4, .int 0), (0, .ref v0), (1, .int v1), (2, .ref v2), (3, .int v3)]) (by decide) rfl dX10_copies_1 ?_
  exact q_sub [1, 2, 3, 4, 0] rfl (okX10_copies_b3 _ v0 v1 v2 v3 0 h hyp)
theorem dX10_passes_0 : decode cX10_passes 0 = .ok (.iconst 0, 1) := by decide +kernel
theorem dX10_passes_1 : decode cX10_passes 1 = .ok (.istore_n 1, 1) := by decide +kernel
theorem dX10_passes_2 : decode cX10_passes 2 = .ok (.iload_n 1, 1) := by decide +kernel
theorem dX10_passes_3 : decode cX10_passes 3 = .ok (.aload_n 0, 1) := by decide +kernel
theorem dX10_passes_4 : decode cX10_passes 4 = .ok (.getfield 13, 3) := by decide +kernel
theorem dX10_passes_7 : decode cX10_passes 7 = .ok (.iconst 0, 1) := by decide +kernel
theorem dX10_passes_8 : decode cX10_passes 8 = .ok (.iaload, 1) := by decide +kernel
theorem dX10_passes_9 : decode cX10_passes 9 = .ok (.if_icmp .ge 93, 3) := by decide +kernel
theorem dX10_passes_12 : decode cX10_passes 12 = .ok (.aload_n 0, 1) := by decide +kernel
theorem dX10_passes_13 : decode cX10_passes 13 = .ok (.getfield 99, 3) := by decide +kernel
theorem dX10_passes_16 : decode cX10_passes 16 = .ok (.bipush 9, 2) := by decide +kernel
theorem dX10_passes_18 : decode cX10_passes 18 = .ok (.iload_n 1, 1) := by decide +kernel
theorem dX10_passes_19 : decode cX10_passes 19 = .ok (.iadd, 1) := by decide +kernel
theorem dX10_passes_20 : decode cX10_passes 20 = .ok (.iaload, 1) := by decide +kernel
theorem dX10_passes_21 : decode cX10_passes 21 = .ok (.ifCond .ne 6, 3) := by decide +kernel
theorem dX10_passes_24 : decode cX10_passes 24 = .ok (.goto 72, 3) := by decide +kernel
theorem dX10_passes_27 : decode cX10_passes 27 = .ok (.aload_n 0, 1) := by decide +kernel
theorem dX10_passes_28 : decode cX10_passes 28 = .ok (.getfield 20, 3) := by decide +kernel
theorem dX10_passes_31 : decode cX10_passes 31 = .ok (.iload_n 1, 1) := by decide +kernel
theorem dX10_passes_32 : decode cX10_passes 32 = .ok (.iaload, 1) := by decide +kernel
theorem dX10_passes_33 : decode cX10_passes 33 = .ok (.iconst 1, 1) := by decide +kernel
theorem dX10_passes_34 : decode cX10_passes 34 = .ok (.if_icmp .ne 30, 3) := by decide +kernel
theorem dX10_passes_37 : decode cX10_passes 37 = .ok (.aload_n 0, 1) := by decide +kernel
theorem dX10_passes_38 : decode cX10_passes 38 = .ok (.getfield 99, 3) := by decide +kernel
theorem dX10_passes_41 : decode cX10_passes 41 = .ok (.iconst 2, 1) := by decide +kernel
theorem dX10_passes_42 : decode cX10_passes 42 = .ok (.iload_n 1, 1) := by decide +kernel
theorem dX10_passes_43 : decode cX10_passes 43 = .ok (.iadd, 1) := by decide +kernel
theorem dX10_passes_44 : decode cX10_passes 44 = .ok (.aload_n 0, 1) := by decide +kernel
theorem dX10_passes_45 : decode cX10_passes 45 = .ok (.getfield 26, 3) := by decide +kernel
theorem dX10_passes_48 : decode cX10_passes 48 = .ok (.iload_n 1, 1) := by decide +kernel
theorem dX10_passes_49 : decode cX10_passes 49 = .ok (.iaload, 1) := by decide +kernel
theorem dX10_passes_50 : decode cX10_passes 50 = .ok (.aload_n 0, 1) := by decide +kernel
theorem dX10_passes_51 : decode cX10_passes 51 = .ok (.getfield 99, 3) := by decide +kernel
theorem dX10_passes_54 : decode cX10_passes 54 = .ok (.iconst 2, 1) := by decide +kernel
theorem dX10_passes_55 : decode cX10_passes 55 = .ok (.iload_n 1, 1) := by decide +kernel
theorem dX10_passes_56 : decode cX10_passes 56 = .ok (.iadd, 1) := by decide +kernel
theorem dX10_passes_57 : decode cX10_passes 57 = .ok (.iaload, 1) := by decide +kernel
theorem dX10_passes_58 : decode cX10_passes 58 = .ok (.iconst 1, 1) := by decide +kernel
theorem dX10_passes_59 : decode cX10_passes 59 = .ok (.iadd, 1) := by decide +kernel
theorem dX10_passes_60 : decode cX10_passes 60 = .ok (.invokestatic 343, 3) := by decide +kernel
theorem dX10_passes_63 : decode cX10_passes 63 = .ok (.iastore, 1) := by decide +kernel
theorem dX10_passes_64 : decode cX10_passes 64 = .ok (.aload_n 0, 1) := by decide +kernel
theorem dX10_passes_65 : decode cX10_passes 65 = .ok (.getfield 20, 3) := by decide +kernel
theorem dX10_passes_68 : decode cX10_passes 68 = .ok (.iload_n 1, 1) := by decide +kernel
theorem dX10_passes_69 : decode cX10_passes 69 = .ok (.iaload, 1) := by decide +kernel
theorem dX10_passes_70 : decode cX10_passes 70 = .ok (.iconst 2, 1) := by decide +kernel
theorem dX10_passes_71 : decode cX10_passes 71 = .ok (.if_icmp .ne 25, 3) := by decide +kernel
theorem dX10_passes_74 : decode cX10_passes 74 = .ok (.aload_n 0, 1) := by decide +kernel
theorem dX10_passes_75 : decode cX10_passes 75 = .ok (.getfield 99, 3) := by decide +kernel
theorem dX10_passes_78 : decode cX10_passes 78 = .ok (.iconst 2, 1) := by decide +kernel
theorem dX10_passes_79 : decode cX10_passes 79 = .ok (.iload_n 1, 1) := by decide +kernel
theorem dX10_passes_80 : decode cX10_passes 80 = .ok (.iadd, 1) := by decide +kernel
theorem dX10_passes_81 : decode cX10_passes 81 = .ok (.iconst 0, 1) := by decide +kernel
theorem dX10_passes_82 : decode cX10_passes 82 = .ok (.aload_n 0, 1) := by decide +kernel
theorem dX10_passes_83 : decode cX10_passes 83 = .ok (.getfield 99, 3) := by decide +kernel
theorem dX10_passes_86 : decode cX10_passes 86 = .ok (.iconst 2, 1) := by decide +kernel
theorem dX10_passes_87 : decode cX10_passes 87 = .ok (.iload_n 1, 1) := by decide +kernel
theorem dX10_passes_88 : decode cX10_passes 88 = .ok (.iadd, 1) := by decide +kernel
theorem dX10_passes_89 : decode cX10_passes 89 = .ok (.iaload, 1) := by decide +kernel
theorem dX10_passes_90 : decode cX10_passes 90 = .ok (.iconst 1, 1) := by decide +kernel
theorem dX10_passes_91 : decode cX10_passes 91 = .ok (.isub, 1) := by decide +kernel
theorem dX10_passes_92 : decode cX10_passes 92 = .ok (.invokestatic 337, 3) := by decide +kernel
theorem dX10_passes_95 : decode cX10_passes 95 = .ok (.iastore, 1) := by decide +kernel
theorem dX10_passes_96 : decode cX10_passes 96 = .ok (.iinc 1 1, 3) := by decide +kernel
theorem dX10_passes_99 : decode cX10_passes 99 = .ok (.goto (-97), 3) := by decide +kernel
theorem dX10_passes_102 : decode cX10_passes 102 = .ok (.aload_n 0, 1) := by decide +kernel
theorem dX10_passes_103 : decode cX10_passes 103 = .ok (.getfield 99, 3) := by decide +kernel
theorem dX10_passes_106 : decode cX10_passes 106 = .ok (.iconst 1, 1) := by decide +kernel
theorem dX10_passes_107 : decode cX10_passes 107 = .ok (.sipush 200, 3) := by decide +kernel
theorem dX10_passes_110 : decode cX10_passes 110 = .ok (.aload_n 0, 1) := by decide +kernel
theorem dX10_passes_111 : decode cX10_passes 111 = .ok (.getfield 99, 3) := by decide +kernel
theorem dX10_passes_114 : decode cX10_passes 114 = .ok (.iconst 1, 1) := by decide +kernel
theorem dX10_passes_115 : decode cX10_passes 115 = .ok (.iaload, 1) := by decide +kernel
theorem dX10_passes_116 : decode cX10_passes 116 = .ok (.aload_n 0, 1) := by decide +kernel
theorem dX10_passes_117 : decode cX10_passes 117 = .ok (.getfield 13, 3) := by decide +kernel
theorem dX10_passes_120 : decode cX10_passes 120 = .ok (.iconst 2, 1) := by decide +kernel
theorem dX10_passes_121 : decode cX10_passes 121 = .ok (.iaload, 1) := by decide +kernel
theorem dX10_passes_122 : decode cX10_passes 122 = .ok (.iadd, 1) := by decide +kernel
theorem dX10_passes_123 : decode cX10_passes 123 = .ok (.invokestatic 343, 3) := by decide +kernel
theorem dX10_passes_126 : decode cX10_passes 126 = .ok (.iastore, 1) := by decide +kernel
theorem dX10_passes_127 : decode cX10_passes 127 = .ok (.aload_n 0, 1) := by decide +kernel
theorem dX10_passes_128 : decode cX10_passes 128 = .ok (.getfield 99, 3) := by decide +kernel
theorem dX10_passes_131 : decode cX10_passes 131 = .ok (.iconst 0, 1) := by decide +kernel
theorem dX10_passes_132 : decode cX10_passes 132 = .ok (.dup2, 1) := by decide +kernel
theorem dX10_passes_133 : decode cX10_passes 133 = .ok (.iaload, 1) := by decide +kernel
theorem dX10_passes_134 : decode cX10_passes 134 = .ok (.iconst 1, 1) := by decide +kernel
theorem dX10_passes_135 : decode cX10_passes 135 = .ok (.iadd, 1) := by decide +kernel
theorem dX10_passes_136 : decode cX10_passes 136 = .ok (.iastore, 1) := by decide +kernel
theorem dX10_passes_137 : decode cX10_passes 137 = .ok (.return_, 1) := by decide +kernel
def fX10_passes_b64 (n : Nat) (K2 : Nat → Int32 → qH → Option (qH)) (v0 : Nat) (v1 : Int32) (h : qH) : Option (qH) :=
  (gR h v0 10 12).bind fun x1 =>
  (aI .int h x1 v1).bind fun x3 =>
  if x3 = 2 then
  ((gR h v0 10 41).bind fun x6 =>
  (gR h v0 10 41).bind fun x8 =>
  (aI .int h x8 (2 + v1)).bind fun x10 =>
  (sI .int h x6 (2 + v1) (if (0 : Int32) < (x10 - 1) then (x10 - 1) else (0 : Int32))).bind fun h12 =>
  K2 v0 (v1 + 1) h12)
  else
  (K2 v0 (v1 + 1) h)
set_option maxHeartbeats 4000000 in
set_option maxRecDepth 100000 in
theorem okX10_passes_b64 {l : Launch} {n : Nat} {K2 : Nat → Int32 → qH → Option (qH)} {v0 : Nat} {v1 : Int32} {h : qH} {h' : qH} (hK2 : ∀ (v0 : Nat) (v1 : Int32) (h : qH), K2 v0 v1 h = some h' → q_W l 1 yX10_passes cX10_passes 2 none none h' 2 [(0, .ref v0), (1, .int v1)] [] h) (hyp : fX10_passes_b64 n K2 v0 v1 h = some h') : q_W l 1 yX10_passes cX10_passes 2 none none h' 64 [(0, .ref v0), (1, .int v1)] [] h := by
  unfold fX10_passes_b64 at hyp
  refine q_aload_n 0 rfl dX10_passes_64 ?_
  refine q_bind hyp (fun x1 e2 hyp => ?_)
  refine q_getR kF_X10_20 dX10_passes_65 e2 ?_
  refine q_iload_n 1 rfl dX10_passes_68 ?_
  refine q_bind hyp (fun x3 e4 hyp => ?_)
  refine q_iald dX10_passes_69 e4 ?_
  refine q_iconst (x := 2) rfl dX10_passes_70 ?_
  refine q_icmp_ne (tgt := 96) dX10_passes_71 (by decide) (fun c5 => ?_) (fun c5 => ?_)
  · have hyp := q_neg c5 hyp
    refine q_iinc (ls' := [(1, .int (v1 + 1)), (0, .ref v0)]) 1 rfl rfl (by decide) rfl dX10_passes_96 ?_
    refine q_goto (tgt := 2) dX10_passes_99 (by decide) ?_
    exact q_sub [1, 0] rfl (hK2 v0 (v1 + 1) h hyp)
  · have hyp := q_pos c5 hyp
    refine q_aload_n 0 rfl dX10_passes_74 ?_
    refine q_bind hyp (fun x6 e7 hyp => ?_)
    refine q_getR kF_X10_99 dX10_passes_75 e7 ?_
    refine q_iconst (x := 2) rfl dX10_passes_78 ?_
    refine q_iload_n 1 rfl dX10_passes_79 ?_
    refine q_iadd dX10_passes_80 ?_
    refine q_iconst (x := 0) rfl dX10_passes_81 ?_
    refine q_aload_n 0 rfl dX10_passes_82 ?_
    refine q_bind hyp (fun x8 e9 hyp => ?_)
    refine q_getR kF_X10_99 dX10_passes_83 e9 ?_
    refine q_iconst (x := 2) rfl dX10_passes_86 ?_
    refine q_iload_n 1 rfl dX10_passes_87 ?_
    refine q_iadd dX10_passes_88 ?_
    refine q_bind hyp (fun x10 e11 hyp => ?_)
    refine q_iald dX10_passes_89 e11 ?_
    refine q_iconst (x := 1) rfl dX10_passes_90 ?_
    refine q_isub dX10_passes_91 ?_
    refine q_max kL_X10_337 kS_max kZ_math kD_max (by decide) (Nat.le_of_ble_eq_true rfl) dX10_passes_92 ?_
    refine q_bind hyp (fun h12 e13 hyp => ?_)
    refine q_iast dX10_passes_95 e13 ?_
    refine q_iinc (ls' := [(1, .int (v1 + 1)), (0, .ref v0)]) 1 rfl rfl (by decide) rfl dX10_passes_96 ?_
    refine q_goto (tgt := 2) dX10_passes_99 (by decide) ?_
    exact q_sub [1, 0] rfl (hK2 v0 (v1 + 1) h12 hyp)
def fX10_passes_b2 (n : Nat) : Nat → Nat → Int32 → qH → Option (qH)
  | 0, _, _, _ => none
  | w + 1, v0, v1, h =>
    (gR h v0 10 10).bind fun x1 =>
    (aI .int h x1 0).bind fun x3 =>
    if x3 ≤ v1 then
    ((gR h v0 10 41).bind fun x6 =>
    (gR h v0 10 41).bind fun x8 =>
    (aI .int h x8 1).bind fun x10 =>
    (gR h v0 10 10).bind fun x12 =>
    (aI .int h x12 2).bind fun x14 =>
    (sI .int h x6 1 (if (x10 + x14) < (200 : Int32) then (x10 + x14) else (200 : Int32))).bind fun h16 =>
    (gR h16 v0 10 41).bind fun x18 =>
    (aI .int h16 x18 0).bind fun x20 =>
    (sI .int h16 x18 0 (x20 + 1)).bind fun h22 =>
    some h22)
    else
    ((gR h v0 10 41).bind fun x24 =>
    (aI .int h x24 (9 + v1)).bind fun x26 =>
    if x26 = 0 then
    (fX10_passes_b2 n w v0 (v1 + 1) h)
    else
    ((gR h v0 10 12).bind fun x29 =>
    (aI .int h x29 v1).bind fun x31 =>
    if x31 = 1 then
    ((gR h v0 10 41).bind fun x34 =>
    (gR h v0 10 14).bind fun x36 =>
    (aI .int h x36 v1).bind fun x38 =>
    (gR h v0 10 41).bind fun x40 =>
    (aI .int h x40 (2 + v1)).bind fun x42 =>
    (sI .int h x34 (2 + v1) (if (x42 + 1) < x38 then (x42 + 1) else x38)).bind fun h44 =>
    fX10_passes_b64 n (fX10_passes_b2 n w) v0 v1 h44)
    else
    (fX10_passes_b64 n (fX10_passes_b2 n w) v0 v1 h)))
set_option maxHeartbeats 4000000 in
set_option maxRecDepth 100000 in
theorem okX10_passes_b2 {l : Launch} {n : Nat} {h' : qH} : ∀ (w : Nat) (v0 : Nat) (v1 : Int32) (h : qH), fX10_passes_b2 n w v0 v1 h = some h' → q_W l 1 yX10_passes cX10_passes 2 none none h' 2 [(0, .ref v0), (1, .int v1)] [] h := by
  intro w
  induction w with
  | zero => intro v0 v1 h hyp; cases hyp
  | succ w ih =>
    intro v0 v1 h hyp
    unfold fX10_passes_b2 at hyp
    refine q_iload_n 1 rfl dX10_passes_2 ?_
    refine q_aload_n 0 rfl dX10_passes_3 ?_
    refine q_bind hyp (fun x1 e2 hyp => ?_)
    refine q_getR kF_X10_13 dX10_passes_4 e2 ?_
    refine q_iconst (x := 0) rfl dX10_passes_7 ?_
    refine q_bind hyp (fun x3 e4 hyp => ?_)
    refine q_iald dX10_passes_8 e4 ?_
    refine q_icmp_ge (tgt := 102) dX10_passes_9 (by decide) (fun c5 => ?_) (fun c5 => ?_)
    · have hyp := q_pos c5 hyp
      refine q_aload_n 0 rfl dX10_passes_102 ?_
      refine q_bind hyp (fun x6 e7 hyp => ?_)
      refine q_getR kF_X10_99 dX10_passes_103 e7 ?_
      refine q_iconst (x := 1) rfl dX10_passes_106 ?_
      refine q_sipush (x := 200) (by decide) dX10_passes_107 ?_
      refine q_aload_n 0 rfl dX10_passes_110 ?_
      refine q_bind hyp (fun x8 e9 hyp => ?_)
      refine q_getR kF_X10_99 dX10_passes_111 e9 ?_
      refine q_iconst (x := 1) rfl dX10_passes_114 ?_
      refine q_bind hyp (fun x10 e11 hyp => ?_)
      refine q_iald dX10_passes_115 e11 ?_
      refine q_aload_n 0 rfl dX10_passes_116 ?_
      refine q_bind hyp (fun x12 e13 hyp => ?_)
      refine q_getR kF_X10_13 dX10_passes_117 e13 ?_
      refine q_iconst (x := 2) rfl dX10_passes_120 ?_
      refine q_bind hyp (fun x14 e15 hyp => ?_)
      refine q_iald dX10_passes_121 e15 ?_
      refine q_iadd dX10_passes_122 ?_
      refine q_min kL_X10_343 kS_min kZ_math kD_min (by decide) (Nat.le_of_ble_eq_true rfl) dX10_passes_123 ?_
      refine q_bind hyp (fun h16 e17 hyp => ?_)
      refine q_iast dX10_passes_126 e17 ?_
      refine q_aload_n 0 rfl dX10_passes_127 ?_
      refine q_bind hyp (fun x18 e19 hyp => ?_)
      refine q_getR kF_X10_99 dX10_passes_128 e19 ?_
      refine q_iconst (x := 0) rfl dX10_passes_131 ?_
      refine q_dup2 rfl rfl dX10_passes_132 ?_
      refine q_bind hyp (fun x20 e21 hyp => ?_)
      refine q_iald dX10_passes_133 e21 ?_
      refine q_iconst (x := 1) rfl dX10_passes_134 ?_
      refine q_iadd dX10_passes_135 ?_
      refine q_bind hyp (fun h22 e23 hyp => ?_)
      refine q_iast dX10_passes_136 e23 ?_
      exact q_vretH rfl dX10_passes_137 hyp
    · have hyp := q_neg c5 hyp
      refine q_aload_n 0 rfl dX10_passes_12 ?_
      refine q_bind hyp (fun x24 e25 hyp => ?_)
      refine q_getR kF_X10_99 dX10_passes_13 e25 ?_
      refine q_bipush (x := 9) (by decide) dX10_passes_16 ?_
      refine q_iload_n 1 rfl dX10_passes_18 ?_
      refine q_iadd dX10_passes_19 ?_
      refine q_bind hyp (fun x26 e27 hyp => ?_)
      refine q_iald dX10_passes_20 e27 ?_
      refine q_if_ne (tgt := 27) dX10_passes_21 (by decide) (fun c28 => ?_) (fun c28 => ?_)
      · have hyp := q_neg c28 hyp
        refine q_aload_n 0 rfl dX10_passes_27 ?_
        refine q_bind hyp (fun x29 e30 hyp => ?_)
        refine q_getR kF_X10_20 dX10_passes_28 e30 ?_
        refine q_iload_n 1 rfl dX10_passes_31 ?_
        refine q_bind hyp (fun x31 e32 hyp => ?_)
        refine q_iald dX10_passes_32 e32 ?_
        refine q_iconst (x := 1) rfl dX10_passes_33 ?_
        refine q_icmp_ne (tgt := 64) dX10_passes_34 (by decide) (fun c33 => ?_) (fun c33 => ?_)
        · have hyp := q_neg c33 hyp
          exact q_sub [0, 1] rfl (okX10_passes_b64 ih hyp)
        · have hyp := q_pos c33 hyp
          refine q_aload_n 0 rfl dX10_passes_37 ?_
          refine q_bind hyp (fun x34 e35 hyp => ?_)
          refine q_getR kF_X10_99 dX10_passes_38 e35 ?_
          refine q_iconst (x := 2) rfl dX10_passes_41 ?_
          refine q_iload_n 1 rfl dX10_passes_42 ?_
          refine q_iadd dX10_passes_43 ?_
          refine q_aload_n 0 rfl dX10_passes_44 ?_
          refine q_bind hyp (fun x36 e37 hyp => ?_)
          refine q_getR kF_X10_26 dX10_passes_45 e37 ?_
          refine q_iload_n 1 rfl dX10_passes_48 ?_
          refine q_bind hyp (fun x38 e39 hyp => ?_)
          refine q_iald dX10_passes_49 e39 ?_
          refine q_aload_n 0 rfl dX10_passes_50 ?_
          refine q_bind hyp (fun x40 e41 hyp => ?_)
          refine q_getR kF_X10_99 dX10_passes_51 e41 ?_
          refine q_iconst (x := 2) rfl dX10_passes_54 ?_
          refine q_iload_n 1 rfl dX10_passes_55 ?_
          refine q_iadd dX10_passes_56 ?_
          refine q_bind hyp (fun x42 e43 hyp => ?_)
          refine q_iald dX10_passes_57 e43 ?_
          refine q_iconst (x := 1) rfl dX10_passes_58 ?_
          refine q_iadd dX10_passes_59 ?_
          refine q_min kL_X10_343 kS_min kZ_math kD_min (by decide) (Nat.le_of_ble_eq_true rfl) dX10_passes_60 ?_
          refine q_bind hyp (fun h44 e45 hyp => ?_)
          refine q_iast dX10_passes_63 e45 ?_
          exact q_sub [0, 1] rfl (okX10_passes_b64 ih hyp)
      · have hyp := q_pos c28 hyp
        refine q_goto (tgt := 96) dX10_passes_24 (by decide) ?_
        refine q_iinc (ls' := [(1, .int (v1 + 1)), (0, .ref v0)]) 1 rfl rfl (by decide) rfl dX10_passes_96 ?_
        refine q_goto (tgt := 2) dX10_passes_99 (by decide) ?_
        exact q_sub [1, 0] rfl (ih v0 (v1 + 1) h hyp)
def fX10_passes (n : Nat) (v0 : Nat) (h : qH) : Option (qH) :=
  (isO h v0 10).bind fun _ =>
  fX10_passes_b2 n n v0 0 h
theorem obX10_passes {n : Nat} {v0 : Nat} {h : qH} {p : qH} (hyp : fX10_passes n v0 h = some p) : ∃ fs, h.1 v0 = some (.inr (10, fs)) := by
  unfold fX10_passes at hyp
  exact q_bind hyp (fun _ e _ => isO_some e)
set_option maxHeartbeats 4000000 in
set_option maxRecDepth 100000 in
theorem okX10_passes {l : Launch} {n : Nat} {v0 : Nat} {h : qH} {h' : qH} (hyp : fX10_passes n v0 h = some h') : q_M l 1 yX10_passes cX10_passes 2 none [.ref v0] h none h' := by
  unfold fX10_passes at hyp
  refine q_bind hyp (fun _ _ hyp => ?_)
  refine q_M.of (by decide) (Nat.le_of_ble_eq_true rfl) ?_
  refine q_to (ls' := [(0, .ref v0)]) (st' := []) rfl rfl ?_
  refine q_iconst (x := 0) rfl dX10_passes_0 ?_
  refine q_istore_n (ls' := [(1, .int 0), (0, .ref v0)]) (by decide) rfl dX10_passes_1 ?_
  exact q_sub [1, 0] rfl (okX10_passes_b2 _ v0 0 h hyp)
theorem dX10_comes_0 : decode cX10_comes 0 = .ok (.aload_n 0, 1) := by decide +kernel
theorem dX10_comes_1 : decode cX10_comes 1 = .ok (.getfield 99, 3) := by decide +kernel
theorem dX10_comes_4 : decode cX10_comes 4 = .ok (.iconst 0, 1) := by decide +kernel
theorem dX10_comes_5 : decode cX10_comes 5 = .ok (.aload_n 0, 1) := by decide +kernel
theorem dX10_comes_6 : decode cX10_comes 6 = .ok (.getfield 105, 3) := by decide +kernel
theorem dX10_comes_9 : decode cX10_comes 9 = .ok (.iconst 0, 1) := by decide +kernel
theorem dX10_comes_10 : decode cX10_comes 10 = .ok (.invokestatic 355, 3) := by decide +kernel
theorem dX10_comes_13 : decode cX10_comes 13 = .ok (.iconst 0, 1) := by decide +kernel
theorem dX10_comes_14 : decode cX10_comes 14 = .ok (.istore_n 3, 1) := by decide +kernel
theorem dX10_comes_15 : decode cX10_comes 15 = .ok (.iload_n 3, 1) := by decide +kernel
theorem dX10_comes_16 : decode cX10_comes 16 = .ok (.bipush 60, 2) := by decide +kernel
theorem dX10_comes_18 : decode cX10_comes 18 = .ok (.if_icmp .gt 33, 3) := by decide +kernel
theorem dX10_comes_21 : decode cX10_comes 21 = .ok (.aload_n 0, 1) := by decide +kernel
theorem dX10_comes_22 : decode cX10_comes 22 = .ok (.getfield 99, 3) := by decide +kernel
theorem dX10_comes_25 : decode cX10_comes 25 = .ok (.iconst 2, 1) := by decide +kernel
theorem dX10_comes_26 : decode cX10_comes 26 = .ok (.iload_n 1, 1) := by decide +kernel
theorem dX10_comes_27 : decode cX10_comes 27 = .ok (.iadd, 1) := by decide +kernel
theorem dX10_comes_28 : decode cX10_comes 28 = .ok (.iaload, 1) := by decide +kernel
theorem dX10_comes_29 : decode cX10_comes 29 = .ok (.ifCond .ne 7, 3) := by decide +kernel
theorem dX10_comes_32 : decode cX10_comes 32 = .ok (.iconst 1, 1) := by decide +kernel
theorem dX10_comes_33 : decode cX10_comes 33 = .ok (.goto 4, 3) := by decide +kernel
theorem dX10_comes_36 : decode cX10_comes 36 = .ok (.iconst 0, 1) := by decide +kernel
theorem dX10_comes_37 : decode cX10_comes 37 = .ok (.iload_n 2, 1) := by decide +kernel
theorem dX10_comes_38 : decode cX10_comes 38 = .ok (.if_icmp .eq 13, 3) := by decide +kernel
theorem dX10_comes_41 : decode cX10_comes 41 = .ok (.aload_n 0, 1) := by decide +kernel
theorem dX10_comes_42 : decode cX10_comes 42 = .ok (.invokevirtual 368, 3) := by decide +kernel
theorem dX10_comes_45 : decode cX10_comes 45 = .ok (.iinc 3 1, 3) := by decide +kernel
theorem dX10_comes_48 : decode cX10_comes 48 = .ok (.goto (-33), 3) := by decide +kernel
theorem dX10_comes_51 : decode cX10_comes 51 = .ok (.aload_n 0, 1) := by decide +kernel
theorem dX10_comes_52 : decode cX10_comes 52 = .ok (.getfield 105, 3) := by decide +kernel
theorem dX10_comes_55 : decode cX10_comes 55 = .ok (.iconst 0, 1) := by decide +kernel
theorem dX10_comes_56 : decode cX10_comes 56 = .ok (.aload_n 0, 1) := by decide +kernel
theorem dX10_comes_57 : decode cX10_comes 57 = .ok (.getfield 99, 3) := by decide +kernel
theorem dX10_comes_60 : decode cX10_comes 60 = .ok (.iconst 0, 1) := by decide +kernel
theorem dX10_comes_61 : decode cX10_comes 61 = .ok (.invokestatic 355, 3) := by decide +kernel
theorem dX10_comes_64 : decode cX10_comes 64 = .ok (.iload_n 3, 1) := by decide +kernel
theorem dX10_comes_65 : decode cX10_comes 65 = .ok (.bipush 60, 2) := by decide +kernel
theorem dX10_comes_67 : decode cX10_comes 67 = .ok (.if_icmp .le 7, 3) := by decide +kernel
theorem dX10_comes_70 : decode cX10_comes 70 = .ok (.iconst (-1), 1) := by decide +kernel
theorem dX10_comes_71 : decode cX10_comes 71 = .ok (.goto 4, 3) := by decide +kernel
theorem dX10_comes_74 : decode cX10_comes 74 = .ok (.iload_n 3, 1) := by decide +kernel
theorem dX10_comes_75 : decode cX10_comes 75 = .ok (.ireturn, 1) := by decide +kernel
def fX10_comes_b51 (n : Nat) (v0 : Nat) (v3 : Int32) (h : qH) : Option (Int32 × qH) :=
  (gR h v0 10 43).bind fun x1 =>
  (gR h v0 10 41).bind fun x3 =>
  (fX10_copies n x1 0 x3 0 h).bind fun h5 =>
  if v3 ≤ 60 then
  (some (v3, h5))
  else
  (some ((-1), h5))
set_option maxHeartbeats 4000000 in
set_option maxRecDepth 100000 in
theorem okX10_comes_b51 {l : Launch} {n : Nat} {v0 : Nat} {v3 : Int32} {h : qH} {r : Int32} {h' : qH} (hyp : fX10_comes_b51 n v0 v3 h = some (r, h')) : q_W l 2 yX10_comes cX10_comes 4 (some .int) (some (.int r)) h' 51 [(0, .ref v0), (3, .int v3)] [] h := by
  unfold fX10_comes_b51 at hyp
  refine q_aload_n 0 rfl dX10_comes_51 ?_
  refine q_bind hyp (fun x1 e2 hyp => ?_)
  refine q_getR kF_X10_105 dX10_comes_52 e2 ?_
  refine q_iconst (x := 0) rfl dX10_comes_55 ?_
  refine q_aload_n 0 rfl dX10_comes_56 ?_
  refine q_bind hyp (fun x3 e4 hyp => ?_)
  refine q_getR kF_X10_99 dX10_comes_57 e4 ?_
  refine q_iconst (x := 0) rfl dX10_comes_60 ?_
  refine q_bind hyp (fun h5 e7 hyp => ?_)
  refine q_callS (as := [.ref x1, .int 0, .ref x3, .int 0]) (st := []) kY_X10_copies kS_X10_copies kL_X10_355 (okX10_copies (l := l) e7) (by decide) rfl (Nat.le_of_ble_eq_true rfl) dX10_comes_61 ?_
  refine q_to (ls' := [(0, .ref v0), (3, .int v3)]) (st' := []) rfl rfl ?_
  refine q_iload_n 1 rfl dX10_comes_64 ?_
  refine q_bipush (x := 60) (by decide) dX10_comes_65 ?_
  refine q_icmp_le (tgt := 74) dX10_comes_67 (by decide) (fun c6 => ?_) (fun c6 => ?_)
  · have hyp := q_pos c6 hyp
    refine q_iload_n 1 rfl dX10_comes_74 ?_
    exact q_iretH rfl rfl dX10_comes_75 hyp
  · have hyp := q_neg c6 hyp
    refine q_iconst (x := (-1)) rfl dX10_comes_70 ?_
    refine q_goto (tgt := 75) dX10_comes_71 (by decide) ?_
    exact q_iretH rfl rfl dX10_comes_75 hyp
def fX10_comes_b37 (n : Nat) (K15 : Nat → Int32 → Int32 → Int32 → qH → Option (Int32 × qH)) (v0 : Nat) (v1 : Int32) (v2 : Int32) (v3 : Int32) (s0 : Int32) (h : qH) : Option (Int32 × qH) :=
  if s0 = v2 then
  (fX10_comes_b51 n v0 v3 h)
  else
  ((fX10_passes n v0 h).bind fun h2 =>
  K15 v0 v1 v2 (v3 + 1) h2)
set_option maxHeartbeats 4000000 in
set_option maxRecDepth 100000 in
theorem okX10_comes_b37 {l : Launch} {n : Nat} {K15 : Nat → Int32 → Int32 → Int32 → qH → Option (Int32 × qH)} {v0 : Nat} {v1 : Int32} {v2 : Int32} {v3 : Int32} {s0 : Int32} {h : qH} {r : Int32} {h' : qH} (hK15 : ∀ (v0 : Nat) (v1 : Int32) (v2 : Int32) (v3 : Int32) (h : qH), K15 v0 v1 v2 v3 h = some (r, h') → q_W l 2 yX10_comes cX10_comes 4 (some .int) (some (.int r)) h' 15 [(0, .ref v0), (1, .int v1), (2, .int v2), (3, .int v3)] [] h) (hyp : fX10_comes_b37 n K15 v0 v1 v2 v3 s0 h = some (r, h')) : q_W l 2 yX10_comes cX10_comes 4 (some .int) (some (.int r)) h' 37 [(0, .ref v0), (1, .int v1), (2, .int v2), (3, .int v3)] [.int s0] h := by
  unfold fX10_comes_b37 at hyp
  refine q_iload_n 2 rfl dX10_comes_37 ?_
  refine q_icmp_eq (tgt := 51) dX10_comes_38 (by decide) (fun c1 => ?_) (fun c1 => ?_)
  · have hyp := q_pos c1 hyp
    exact q_sub [0, 3] rfl (okX10_comes_b51 hyp)
  · have hyp := q_neg c1 hyp
    refine q_aload_n 0 rfl dX10_comes_41 ?_
    refine q_bind hyp (fun h2 e3 hyp => ?_)
    refine q_callV (as := []) (st := []) kY_X10_passes kL_X10_368 (okX10_passes (l := l) e3) (by decide) rfl (obX10_passes e3) (Nat.le_of_ble_eq_true rfl) dX10_comes_42 ?_
    refine q_to (ls' := [(0, .ref v0), (1, .int v1), (2, .int v2), (3, .int v3)]) (st' := []) rfl rfl ?_
    refine q_iinc (ls' := [(3, .int (v3 + 1)), (0, .ref v0), (1, .int v1), (2, .int v2)]) 3 rfl rfl (by decide) rfl dX10_comes_45 ?_
    refine q_goto (tgt := 15) dX10_comes_48 (by decide) ?_
    exact q_sub [1, 2, 3, 0] rfl (hK15 v0 v1 v2 (v3 + 1) h2 hyp)
def fX10_comes_b15 (n : Nat) : Nat → Nat → Int32 → Int32 → Int32 → qH → Option (Int32 × qH)
  | 0, _, _, _, _, _ => none
  | w + 1, v0, v1, v2, v3, h =>
    if 60 < v3 then
    (fX10_comes_b51 n v0 v3 h)
    else
    ((gR h v0 10 41).bind fun x2 =>
    (aI .int h x2 (2 + v1)).bind fun x4 =>
    if x4 = 0 then
    (fX10_comes_b37 n (fX10_comes_b15 n w) v0 v1 v2 v3 1 h)
    else
    (fX10_comes_b37 n (fX10_comes_b15 n w) v0 v1 v2 v3 0 h))
set_option maxHeartbeats 4000000 in
set_option maxRecDepth 100000 in
theorem okX10_comes_b15 {l : Launch} {n : Nat} {r : Int32} {h' : qH} : ∀ (w : Nat) (v0 : Nat) (v1 : Int32) (v2 : Int32) (v3 : Int32) (h : qH), fX10_comes_b15 n w v0 v1 v2 v3 h = some (r, h') → q_W l 2 yX10_comes cX10_comes 4 (some .int) (some (.int r)) h' 15 [(0, .ref v0), (1, .int v1), (2, .int v2), (3, .int v3)] [] h := by
  intro w
  induction w with
  | zero => intro v0 v1 v2 v3 h hyp; cases hyp
  | succ w ih =>
    intro v0 v1 v2 v3 h hyp
    unfold fX10_comes_b15 at hyp
    refine q_iload_n 3 rfl dX10_comes_15 ?_
    refine q_bipush (x := 60) (by decide) dX10_comes_16 ?_
    refine q_icmp_gt (tgt := 51) dX10_comes_18 (by decide) (fun c1 => ?_) (fun c1 => ?_)
    · have hyp := q_pos c1 hyp
      exact q_sub [0, 3] rfl (okX10_comes_b51 hyp)
    · have hyp := q_neg c1 hyp
      refine q_aload_n 0 rfl dX10_comes_21 ?_
      refine q_bind hyp (fun x2 e3 hyp => ?_)
      refine q_getR kF_X10_99 dX10_comes_22 e3 ?_
      refine q_iconst (x := 2) rfl dX10_comes_25 ?_
      refine q_iload_n 1 rfl dX10_comes_26 ?_
      refine q_iadd dX10_comes_27 ?_
      refine q_bind hyp (fun x4 e5 hyp => ?_)
      refine q_iald dX10_comes_28 e5 ?_
      refine q_if_ne (tgt := 36) dX10_comes_29 (by decide) (fun c6 => ?_) (fun c6 => ?_)
      · have hyp := q_neg c6 hyp
        refine q_iconst (x := 0) rfl dX10_comes_36 ?_
        exact q_sub [0, 1, 2, 3] rfl (okX10_comes_b37 ih hyp)
      · have hyp := q_pos c6 hyp
        refine q_iconst (x := 1) rfl dX10_comes_32 ?_
        refine q_goto (tgt := 37) dX10_comes_33 (by decide) ?_
        exact q_sub [0, 1, 2, 3] rfl (okX10_comes_b37 ih hyp)
def fX10_comes (n : Nat) (v0 : Nat) (v1 : Int32) (v2 : Int32) (h : qH) : Option (Int32 × qH) :=
  (isO h v0 10).bind fun _ =>
  (gR h v0 10 41).bind fun x1 =>
  (gR h v0 10 43).bind fun x3 =>
  (fX10_copies n x1 0 x3 0 h).bind fun h5 =>
  fX10_comes_b15 n n v0 v1 v2 0 h5
theorem obX10_comes {n : Nat} {v0 : Nat} {v1 : Int32} {v2 : Int32} {h : qH} {p : Int32 × qH} (hyp : fX10_comes n v0 v1 v2 h = some p) : ∃ fs, h.1 v0 = some (.inr (10, fs)) := by
  unfold fX10_comes at hyp
  exact q_bind hyp (fun _ e _ => isO_some e)
set_option maxHeartbeats 4000000 in
set_option maxRecDepth 100000 in
theorem okX10_comes {l : Launch} {n : Nat} {v0 : Nat} {v1 : Int32} {v2 : Int32} {h : qH} {p : Int32 × qH} (hyp : fX10_comes n v0 v1 v2 h = some p) : q_M l 2 yX10_comes cX10_comes 4 (some .int) [.ref v0, .int v1, .int v2] h (some (.int p.1)) p.2 := by
  obtain ⟨r, h'⟩ := p
  unfold fX10_comes at hyp
  refine q_bind hyp (fun _ _ hyp => ?_)
  refine q_M.of (by decide) (Nat.le_of_ble_eq_true rfl) ?_
  refine q_to (ls' := [(0, .ref v0), (1, .int v1), (2, .int v2)]) (st' := []) rfl rfl ?_
  refine q_aload_n 0 rfl dX10_comes_0 ?_
  refine q_bind hyp (fun x1 e2 hyp => ?_)
  refine q_getR kF_X10_99 dX10_comes_1 e2 ?_
  refine q_iconst (x := 0) rfl dX10_comes_4 ?_
  refine q_aload_n 0 rfl dX10_comes_5 ?_
  refine q_bind hyp (fun x3 e4 hyp => ?_)
  refine q_getR kF_X10_105 dX10_comes_6 e4 ?_
  refine q_iconst (x := 0) rfl dX10_comes_9 ?_
  refine q_bind hyp (fun h5 e6 hyp => ?_)
  refine q_callS (as := [.ref x1, .int 0, .ref x3, .int 0]) (st := []) kY_X10_copies kS_X10_copies kL_X10_355 (okX10_copies (l := l) e6) (by decide) rfl (Nat.le_of_ble_eq_true rfl) dX10_comes_10 ?_
  refine q_to (ls' := [(0, .ref v0), (1, .int v1), (2, .int v2)]) (st' := []) rfl rfl ?_
  refine q_iconst (x := 0) rfl dX10_comes_13 ?_
  refine q_istore_n (ls' := [(3, .int 0), (0, .ref v0), (1, .int v1), (2, .int v2)]) (by decide) rfl dX10_comes_14 ?_
  exact q_sub [1, 2, 3, 0] rfl (okX10_comes_b15 _ v0 v1 v2 0 h5 hyp)
theorem dX10_isMatter_0 : decode cX10_isMatter 0 = .ok (.iload_n 1, 1) := by decide +kernel
theorem dX10_isMatter_1 : decode cX10_isMatter 1 = .ok (.ifCond .lt 17, 3) := by decide +kernel
theorem dX10_isMatter_4 : decode cX10_isMatter 4 = .ok (.iload_n 1, 1) := by decide +kernel
theorem dX10_isMatter_5 : decode cX10_isMatter 5 = .ok (.aload_n 0, 1) := by decide +kernel
theorem dX10_isMatter_6 : decode cX10_isMatter 6 = .ok (.getfield 13, 3) := by decide +kernel
theorem dX10_isMatter_9 : decode cX10_isMatter 9 = .ok (.iconst 0, 1) := by decide +kernel
theorem dX10_isMatter_10 : decode cX10_isMatter 10 = .ok (.iaload, 1) := by decide +kernel
theorem dX10_isMatter_11 : decode cX10_isMatter 11 = .ok (.if_icmp .ge 7, 3) := by decide +kernel
theorem dX10_isMatter_14 : decode cX10_isMatter 14 = .ok (.iconst 1, 1) := by decide +kernel
theorem dX10_isMatter_15 : decode cX10_isMatter 15 = .ok (.goto 4, 3) := by decide +kernel
theorem dX10_isMatter_18 : decode cX10_isMatter 18 = .ok (.iconst 0, 1) := by decide +kernel
theorem dX10_isMatter_19 : decode cX10_isMatter 19 = .ok (.ireturn, 1) := by decide +kernel
def fX10_isMatter (v0 : Nat) (v1 : Int32) (h : qH) : Option (Int32 × qH) :=
  (isO h v0 10).bind fun _ =>
  if v1 < 0 then
  (some (0, h))
  else
  ((gR h v0 10 10).bind fun x2 =>
  (aI .int h x2 0).bind fun x4 =>
  if x4 ≤ v1 then
  (some (0, h))
  else
  (some (1, h)))
theorem obX10_isMatter {v0 : Nat} {v1 : Int32} {h : qH} {p : Int32 × qH} (hyp : fX10_isMatter v0 v1 h = some p) : ∃ fs, h.1 v0 = some (.inr (10, fs)) := by
  unfold fX10_isMatter at hyp
  exact q_bind hyp (fun _ e _ => isO_some e)
set_option maxHeartbeats 4000000 in
set_option maxRecDepth 100000 in
theorem okX10_isMatter {l : Launch} {v0 : Nat} {v1 : Int32} {h : qH} {p : Int32 × qH} (hyp : fX10_isMatter v0 v1 h = some p) : q_M l 1 yX10_isMatter cX10_isMatter 2 (some .boolean) [.ref v0, .int v1] h (some (.int p.1)) p.2 := by
  obtain ⟨r, h'⟩ := p
  unfold fX10_isMatter at hyp
  refine q_bind hyp (fun _ _ hyp => ?_)
  refine q_M.of (by decide) (Nat.le_of_ble_eq_true rfl) ?_
  refine q_to (ls' := [(0, .ref v0), (1, .int v1)]) (st' := []) rfl rfl ?_
  refine q_iload_n 1 rfl dX10_isMatter_0 ?_
  refine q_if_lt (tgt := 18) dX10_isMatter_1 (by decide) (fun c1 => ?_) (fun c1 => ?_)
  · have hyp := q_pos c1 hyp
    refine q_iconst (x := 0) rfl dX10_isMatter_18 ?_
    exact q_iretH rfl rfl dX10_isMatter_19 hyp
  · have hyp := q_neg c1 hyp
    refine q_iload_n 1 rfl dX10_isMatter_4 ?_
    refine q_aload_n 0 rfl dX10_isMatter_5 ?_
    refine q_bind hyp (fun x2 e3 hyp => ?_)
    refine q_getR kF_X10_13 dX10_isMatter_6 e3 ?_
    refine q_iconst (x := 0) rfl dX10_isMatter_9 ?_
    refine q_bind hyp (fun x4 e5 hyp => ?_)
    refine q_iald dX10_isMatter_10 e5 ?_
    refine q_icmp_ge (tgt := 18) dX10_isMatter_11 (by decide) (fun c6 => ?_) (fun c6 => ?_)
    · have hyp := q_pos c6 hyp
      refine q_iconst (x := 0) rfl dX10_isMatter_18 ?_
      exact q_iretH rfl rfl dX10_isMatter_19 hyp
    · have hyp := q_neg c6 hyp
      refine q_iconst (x := 1) rfl dX10_isMatter_14 ?_
      refine q_goto (tgt := 19) dX10_isMatter_15 (by decide) ?_
      exact q_iretH rfl rfl dX10_isMatter_19 hyp
theorem dX10_again_0 : decode cX10_again 0 = .ok (.aload_n 0, 1) := by decide +kernel
theorem dX10_again_1 : decode cX10_again 1 = .ok (.iconst 0, 1) := by decide +kernel
theorem dX10_again_2 : decode cX10_again 2 = .ok (.putfield 136, 3) := by decide +kernel
theorem dX10_again_5 : decode cX10_again 5 = .ok (.aload_n 0, 1) := by decide +kernel
theorem dX10_again_6 : decode cX10_again 6 = .ok (.iload_n 1, 1) := by decide +kernel
theorem dX10_again_7 : decode cX10_again 7 = .ok (.invokevirtual 346, 3) := by decide +kernel
theorem dX10_again_10 : decode cX10_again 10 = .ok (.ifCond .eq 23, 3) := by decide +kernel
theorem dX10_again_13 : decode cX10_again 13 = .ok (.aload_n 0, 1) := by decide +kernel
theorem dX10_again_14 : decode cX10_again 14 = .ok (.getfield 99, 3) := by decide +kernel
theorem dX10_again_17 : decode cX10_again 17 = .ok (.iconst 2, 1) := by decide +kernel
theorem dX10_again_18 : decode cX10_again 18 = .ok (.iload_n 1, 1) := by decide +kernel
theorem dX10_again_19 : decode cX10_again 19 = .ok (.iadd, 1) := by decide +kernel
theorem dX10_again_20 : decode cX10_again 20 = .ok (.iaload, 1) := by decide +kernel
theorem dX10_again_21 : decode cX10_again 21 = .ok (.ifCond .ne 12, 3) := by decide +kernel
theorem dX10_again_24 : decode cX10_again 24 = .ok (.aload_n 0, 1) := by decide +kernel
theorem dX10_again_25 : decode cX10_again 25 = .ok (.iload_n 1, 1) := by decide +kernel
theorem dX10_again_26 : decode cX10_again 26 = .ok (.iconst 0, 1) := by decide +kernel
theorem dX10_again_27 : decode cX10_again 27 = .ok (.invokevirtual 399, 3) := by decide +kernel
theorem dX10_again_30 : decode cX10_again 30 = .ok (.goto 4, 3) := by decide +kernel
theorem dX10_again_33 : decode cX10_again 33 = .ok (.iconst (-1), 1) := by decide +kernel
theorem dX10_again_34 : decode cX10_again 34 = .ok (.ireturn, 1) := by decide +kernel
def fX10_again (n : Nat) (v0 : Nat) (v1 : Int32) (h : qH) : Option (Int32 × qH) :=
  (isO h v0 10).bind fun _ =>
  (pF h v0 10 0 (.int 0)).bind fun h1 =>
  (fX10_isMatter v0 v1 h1).bind fun p3 =>
  if p3.1 = 0 then
  (some ((-1), p3.2))
  else
  ((gR p3.2 v0 10 41).bind fun x5 =>
  (aI .int p3.2 x5 (2 + v1)).bind fun x7 =>
  if x7 = 0 then
  ((fX10_comes n v0 v1 0 p3.2).bind fun p10 =>
  some (p10.1, p10.2))
  else
  (some ((-1), p3.2)))
theorem obX10_again {n : Nat} {v0 : Nat} {v1 : Int32} {h : qH} {p : Int32 × qH} (hyp : fX10_again n v0 v1 h = some p) : ∃ fs, h.1 v0 = some (.inr (10, fs)) := by
  unfold fX10_again at hyp
  exact q_bind hyp (fun _ e _ => isO_some e)
set_option maxHeartbeats 4000000 in
set_option maxRecDepth 100000 in
theorem okX10_again {l : Launch} {n : Nat} {v0 : Nat} {v1 : Int32} {h : qH} {p : Int32 × qH} (hyp : fX10_again n v0 v1 h = some p) : q_M l 3 yX10_again cX10_again 2 (some .int) [.ref v0, .int v1] h (some (.int p.1)) p.2 := by
  obtain ⟨r, h'⟩ := p
  unfold fX10_again at hyp
  refine q_bind hyp (fun _ _ hyp => ?_)
  refine q_M.of (by decide) (Nat.le_of_ble_eq_true rfl) ?_
  refine q_to (ls' := [(0, .ref v0), (1, .int v1)]) (st' := []) rfl rfl ?_
  refine q_aload_n 0 rfl dX10_again_0 ?_
  refine q_iconst (x := 0) rfl dX10_again_1 ?_
  refine q_bind hyp (fun h1 e2 hyp => ?_)
  refine q_putF kF_X10_136 (fun _ => ⟨rfl, rfl⟩) dX10_again_2 e2 ?_
  refine q_aload_n 0 rfl dX10_again_5 ?_
  refine q_iload_n 1 rfl dX10_again_6 ?_
  refine q_bind hyp (fun p3 e12 hyp => ?_)
  refine q_callV (as := [.int v1]) (st := []) kY_X10_isMatter kL_X10_346 (okX10_isMatter (l := l) e12) (by decide) rfl (obX10_isMatter e12) (Nat.le_of_ble_eq_true rfl) dX10_again_7 ?_
  refine q_to (ls' := [(0, .ref v0), (1, .int v1)]) (st' := [.int p3.1]) rfl rfl ?_
  refine q_if_eq (tgt := 33) dX10_again_10 (by decide) (fun c4 => ?_) (fun c4 => ?_)
  · have hyp := q_pos c4 hyp
    refine q_iconst (x := (-1)) rfl dX10_again_33 ?_
    exact q_iretH rfl rfl dX10_again_34 hyp
  · have hyp := q_neg c4 hyp
    refine q_aload_n 0 rfl dX10_again_13 ?_
    refine q_bind hyp (fun x5 e6 hyp => ?_)
    refine q_getR kF_X10_99 dX10_again_14 e6 ?_
    refine q_iconst (x := 2) rfl dX10_again_17 ?_
    refine q_iload_n 1 rfl dX10_again_18 ?_
    refine q_iadd dX10_again_19 ?_
    refine q_bind hyp (fun x7 e8 hyp => ?_)
    refine q_iald dX10_again_20 e8 ?_
    refine q_if_ne (tgt := 33) dX10_again_21 (by decide) (fun c9 => ?_) (fun c9 => ?_)
    · have hyp := q_neg c9 hyp
      refine q_iconst (x := (-1)) rfl dX10_again_33 ?_
      exact q_iretH rfl rfl dX10_again_34 hyp
    · have hyp := q_pos c9 hyp
      refine q_aload_n 0 rfl dX10_again_24 ?_
      refine q_iload_n 1 rfl dX10_again_25 ?_
      refine q_iconst (x := 0) rfl dX10_again_26 ?_
      refine q_bind hyp (fun p10 e11 hyp => ?_)
      refine q_callV (as := [.int v1, .int 0]) (st := []) kY_X10_comes kL_X10_399 (okX10_comes (l := l) e11) (by decide) rfl (obX10_comes e11) (Nat.le_of_ble_eq_true rfl) dX10_again_27 ?_
      refine q_to (ls' := [(0, .ref v0), (1, .int v1)]) (st' := [.int p10.1]) rfl rfl ?_
      refine q_goto (tgt := 34) dX10_again_30 (by decide) ?_
      exact q_iretH rfl rfl dX10_again_34 hyp
theorem dX10_costsOf_0 : decode cX10_costsOf 0 = .ok (.iconst 0, 1) := by decide +kernel
theorem dX10_costsOf_1 : decode cX10_costsOf 1 = .ok (.istore_n 2, 1) := by decide +kernel
theorem dX10_costsOf_2 : decode cX10_costsOf 2 = .ok (.iconst 0, 1) := by decide +kernel
theorem dX10_costsOf_3 : decode cX10_costsOf 3 = .ok (.istore_n 3, 1) := by decide +kernel
theorem dX10_costsOf_4 : decode cX10_costsOf 4 = .ok (.iload_n 3, 1) := by decide +kernel
theorem dX10_costsOf_5 : decode cX10_costsOf 5 = .ok (.aload_n 0, 1) := by decide +kernel
theorem dX10_costsOf_6 : decode cX10_costsOf 6 = .ok (.getfield 13, 3) := by decide +kernel
theorem dX10_costsOf_9 : decode cX10_costsOf 9 = .ok (.iconst 0, 1) := by decide +kernel
theorem dX10_costsOf_10 : decode cX10_costsOf 10 = .ok (.iaload, 1) := by decide +kernel
theorem dX10_costsOf_11 : decode cX10_costsOf 11 = .ok (.if_icmp .ge 31, 3) := by decide +kernel
theorem dX10_costsOf_14 : decode cX10_costsOf 14 = .ok (.iload_n 2, 1) := by decide +kernel
theorem dX10_costsOf_15 : decode cX10_costsOf 15 = .ok (.iload_n 1, 1) := by decide +kernel
theorem dX10_costsOf_16 : decode cX10_costsOf 16 = .ok (.iload_n 3, 1) := by decide +kernel
theorem dX10_costsOf_17 : decode cX10_costsOf 17 = .ok (.ishr, 1) := by decide +kernel
theorem dX10_costsOf_18 : decode cX10_costsOf 18 = .ok (.iconst 1, 1) := by decide +kernel
theorem dX10_costsOf_19 : decode cX10_costsOf 19 = .ok (.iand, 1) := by decide +kernel
theorem dX10_costsOf_20 : decode cX10_costsOf 20 = .ok (.iconst 1, 1) := by decide +kernel
theorem dX10_costsOf_21 : decode cX10_costsOf 21 = .ok (.if_icmp .ne 12, 3) := by decide +kernel
theorem dX10_costsOf_24 : decode cX10_costsOf 24 = .ok (.aload_n 0, 1) := by decide +kernel
theorem dX10_costsOf_25 : decode cX10_costsOf 25 = .ok (.getfield 120, 3) := by decide +kernel
theorem dX10_costsOf_28 : decode cX10_costsOf 28 = .ok (.iload_n 3, 1) := by decide +kernel
theorem dX10_costsOf_29 : decode cX10_costsOf 29 = .ok (.iaload, 1) := by decide +kernel
theorem dX10_costsOf_30 : decode cX10_costsOf 30 = .ok (.goto 4, 3) := by decide +kernel
theorem dX10_costsOf_33 : decode cX10_costsOf 33 = .ok (.iconst 0, 1) := by decide +kernel
theorem dX10_costsOf_34 : decode cX10_costsOf 34 = .ok (.iadd, 1) := by decide +kernel
theorem dX10_costsOf_35 : decode cX10_costsOf 35 = .ok (.istore_n 2, 1) := by decide +kernel
theorem dX10_costsOf_36 : decode cX10_costsOf 36 = .ok (.iinc 3 1, 3) := by decide +kernel
theorem dX10_costsOf_39 : decode cX10_costsOf 39 = .ok (.goto (-35), 3) := by decide +kernel
theorem dX10_costsOf_42 : decode cX10_costsOf 42 = .ok (.ldc_w 383, 3) := by decide +kernel
theorem dX10_costsOf_45 : decode cX10_costsOf 45 = .ok (.iload_n 2, 1) := by decide +kernel
theorem dX10_costsOf_46 : decode cX10_costsOf 46 = .ok (.invokestatic 343, 3) := by decide +kernel
theorem dX10_costsOf_49 : decode cX10_costsOf 49 = .ok (.ireturn, 1) := by decide +kernel
def fX10_costsOf_b4 (n : Nat) : Nat → Nat → Int32 → Int32 → Int32 → qH → Option (Int32 × qH)
  | 0, _, _, _, _, _ => none
  | w + 1, v0, v1, v2, v3, h =>
    (gR h v0 10 10).bind fun x1 =>
    (aI .int h x1 0).bind fun x3 =>
    if x3 ≤ v3 then
    (some (if v2 < (1000000 : Int32) then v2 else (1000000 : Int32), h))
    else
    (if ((v1 >>> (v3 &&& 31)) &&& 1) = 1 then
    ((gR h v0 10 49).bind fun x7 =>
    (aI .int h x7 v3).bind fun x9 =>
    fX10_costsOf_b4 n w v0 v1 (v2 + x9) (v3 + 1) h)
    else
    (fX10_costsOf_b4 n w v0 v1 (v2 + 0) (v3 + 1) h))
set_option maxHeartbeats 4000000 in
set_option maxRecDepth 100000 in
theorem okX10_costsOf_b4 {l : Launch} {n : Nat} {r : Int32} {h' : qH} : ∀ (w : Nat) (v0 : Nat) (v1 : Int32) (v2 : Int32) (v3 : Int32) (h : qH), fX10_costsOf_b4 n w v0 v1 v2 v3 h = some (r, h') → q_W l 1 yX10_costsOf cX10_costsOf 4 (some .int) (some (.int r)) h' 4 [(0, .ref v0), (1, .int v1), (2, .int v2), (3, .int v3)] [] h := by
  intro w
  induction w with
  | zero => intro v0 v1 v2 v3 h hyp; cases hyp
  | succ w ih =>
    intro v0 v1 v2 v3 h hyp
    unfold fX10_costsOf_b4 at hyp
    refine q_iload_n 3 rfl dX10_costsOf_4 ?_
    refine q_aload_n 0 rfl dX10_costsOf_5 ?_
    refine q_bind hyp (fun x1 e2 hyp => ?_)
    refine q_getR kF_X10_13 dX10_costsOf_6 e2 ?_
    refine q_iconst (x := 0) rfl dX10_costsOf_9 ?_
    refine q_bind hyp (fun x3 e4 hyp => ?_)
    refine q_iald dX10_costsOf_10 e4 ?_
    refine q_icmp_ge (tgt := 42) dX10_costsOf_11 (by decide) (fun c5 => ?_) (fun c5 => ?_)
    · have hyp := q_pos c5 hyp
      refine q_ldcw kK_X10_383 dX10_costsOf_42 ?_
      refine q_iload_n 2 rfl dX10_costsOf_45 ?_
      refine q_min kL_X10_343 kS_min kZ_math kD_min (by decide) (Nat.le_of_ble_eq_true rfl) dX10_costsOf_46 ?_
      exact q_iretH rfl rfl dX10_costsOf_49 hyp
    · have hyp := q_neg c5 hyp
      refine q_iload_n 2 rfl dX10_costsOf_14 ?_
      refine q_iload_n 1 rfl dX10_costsOf_15 ?_
      refine q_iload_n 3 rfl dX10_costsOf_16 ?_
      refine q_ishr dX10_costsOf_17 ?_
      refine q_iconst (x := 1) rfl dX10_costsOf_18 ?_
      refine q_iand dX10_costsOf_19 ?_
      refine q_iconst (x := 1) rfl dX10_costsOf_20 ?_
      refine q_icmp_ne (tgt := 33) dX10_costsOf_21 (by decide) (fun c6 => ?_) (fun c6 => ?_)
      · have hyp := q_neg c6 hyp
        refine q_iconst (x := 0) rfl dX10_costsOf_33 ?_
        refine q_iadd dX10_costsOf_34 ?_
        refine q_istore_n (ls' := [(2, .int (v2 + 0)), (0, .ref v0), (1, .int v1), (3, .int v3)]) (by decide) rfl dX10_costsOf_35 ?_
        refine q_iinc (ls' := [(3, .int (v3 + 1)), (2, .int (v2 + 0)), (0, .ref v0), (1, .int v1)]) 3 rfl rfl (by decide) rfl dX10_costsOf_36 ?_
        refine q_goto (tgt := 4) dX10_costsOf_39 (by decide) ?_
        exact q_sub [2, 3, 1, 0] rfl (ih v0 v1 (v2 + 0) (v3 + 1) h hyp)
      · have hyp := q_pos c6 hyp
        refine q_aload_n 0 rfl dX10_costsOf_24 ?_
        refine q_bind hyp (fun x7 e8 hyp => ?_)
        refine q_getR kF_X10_120 dX10_costsOf_25 e8 ?_
        refine q_iload_n 3 rfl dX10_costsOf_28 ?_
        refine q_bind hyp (fun x9 e10 hyp => ?_)
        refine q_iald dX10_costsOf_29 e10 ?_
        refine q_goto (tgt := 34) dX10_costsOf_30 (by decide) ?_
        refine q_iadd dX10_costsOf_34 ?_
        refine q_istore_n (ls' := [(2, .int (v2 + x9)), (0, .ref v0), (1, .int v1), (3, .int v3)]) (by decide) rfl dX10_costsOf_35 ?_
        refine q_iinc (ls' := [(3, .int (v3 + 1)), (2, .int (v2 + x9)), (0, .ref v0), (1, .int v1)]) 3 rfl rfl (by decide) rfl dX10_costsOf_36 ?_
        refine q_goto (tgt := 4) dX10_costsOf_39 (by decide) ?_
        exact q_sub [2, 3, 1, 0] rfl (ih v0 v1 (v2 + x9) (v3 + 1) h hyp)
def fX10_costsOf (n : Nat) (v0 : Nat) (v1 : Int32) (h : qH) : Option (Int32 × qH) :=
  (isO h v0 10).bind fun _ =>
  fX10_costsOf_b4 n n v0 v1 0 0 h
theorem obX10_costsOf {n : Nat} {v0 : Nat} {v1 : Int32} {h : qH} {p : Int32 × qH} (hyp : fX10_costsOf n v0 v1 h = some p) : ∃ fs, h.1 v0 = some (.inr (10, fs)) := by
  unfold fX10_costsOf at hyp
  exact q_bind hyp (fun _ e _ => isO_some e)
set_option maxHeartbeats 4000000 in
set_option maxRecDepth 100000 in
theorem okX10_costsOf {l : Launch} {n : Nat} {v0 : Nat} {v1 : Int32} {h : qH} {p : Int32 × qH} (hyp : fX10_costsOf n v0 v1 h = some p) : q_M l 1 yX10_costsOf cX10_costsOf 4 (some .int) [.ref v0, .int v1] h (some (.int p.1)) p.2 := by
  obtain ⟨r, h'⟩ := p
  unfold fX10_costsOf at hyp
  refine q_bind hyp (fun _ _ hyp => ?_)
  refine q_M.of (by decide) (Nat.le_of_ble_eq_true rfl) ?_
  refine q_to (ls' := [(0, .ref v0), (1, .int v1)]) (st' := []) rfl rfl ?_
  refine q_iconst (x := 0) rfl dX10_costsOf_0 ?_
  refine q_istore_n (ls' := [(2, .int 0), (0, .ref v0), (1, .int v1)]) (by decide) rfl dX10_costsOf_1 ?_
  refine q_iconst (x := 0) rfl dX10_costsOf_2 ?_
  refine q_istore_n (ls' := [(3, .int 0), (2, .int 0), (0, .ref v0), (1, .int v1)]) (by decide) rfl dX10_costsOf_3 ?_
  exact q_sub [2, 3, 1, 0] rfl (okX10_costsOf_b4 _ v0 v1 0 0 h hyp)
theorem dX10_every_0 : decode cX10_every 0 = .ok (.iconst 1, 1) := by decide +kernel
theorem dX10_every_1 : decode cX10_every 1 = .ok (.aload_n 0, 1) := by decide +kernel
theorem dX10_every_2 : decode cX10_every 2 = .ok (.getfield 13, 3) := by decide +kernel
theorem dX10_every_5 : decode cX10_every 5 = .ok (.iconst 0, 1) := by decide +kernel
theorem dX10_every_6 : decode cX10_every 6 = .ok (.iaload, 1) := by decide +kernel
theorem dX10_every_7 : decode cX10_every 7 = .ok (.ishl, 1) := by decide +kernel
theorem dX10_every_8 : decode cX10_every 8 = .ok (.iconst 1, 1) := by decide +kernel
theorem dX10_every_9 : decode cX10_every 9 = .ok (.isub, 1) := by decide +kernel
theorem dX10_every_10 : decode cX10_every 10 = .ok (.ireturn, 1) := by decide +kernel
def fX10_every (v0 : Nat) (h : qH) : Option (Int32 × qH) :=
  (isO h v0 10).bind fun _ =>
  (gR h v0 10 10).bind fun x1 =>
  (aI .int h x1 0).bind fun x3 =>
  some (((1 : Int32) <<< (x3 &&& 31)) - 1, h)
theorem obX10_every {v0 : Nat} {h : qH} {p : Int32 × qH} (hyp : fX10_every v0 h = some p) : ∃ fs, h.1 v0 = some (.inr (10, fs)) := by
  unfold fX10_every at hyp
  exact q_bind hyp (fun _ e _ => isO_some e)
set_option maxHeartbeats 4000000 in
set_option maxRecDepth 100000 in
theorem okX10_every {l : Launch} {v0 : Nat} {h : qH} {p : Int32 × qH} (hyp : fX10_every v0 h = some p) : q_M l 1 yX10_every cX10_every 1 (some .int) [.ref v0] h (some (.int p.1)) p.2 := by
  obtain ⟨r, h'⟩ := p
  unfold fX10_every at hyp
  refine q_bind hyp (fun _ _ hyp => ?_)
  refine q_M.of (by decide) (Nat.le_of_ble_eq_true rfl) ?_
  refine q_to (ls' := [(0, .ref v0)]) (st' := []) rfl rfl ?_
  refine q_iconst (x := 1) rfl dX10_every_0 ?_
  refine q_aload_n 0 rfl dX10_every_1 ?_
  refine q_bind hyp (fun x1 e2 hyp => ?_)
  refine q_getR kF_X10_13 dX10_every_2 e2 ?_
  refine q_iconst (x := 0) rfl dX10_every_5 ?_
  refine q_bind hyp (fun x3 e4 hyp => ?_)
  refine q_iald dX10_every_6 e4 ?_
  refine q_ishl dX10_every_7 ?_
  refine q_iconst (x := 1) rfl dX10_every_8 ?_
  refine q_isub dX10_every_9 ?_
  exact q_iretH rfl rfl dX10_every_10 hyp
theorem dX10_priceOf_0 : decode cX10_priceOf 0 = .ok (.aload_n 0, 1) := by decide +kernel
theorem dX10_priceOf_1 : decode cX10_priceOf 1 = .ok (.getfield 20, 3) := by decide +kernel
theorem dX10_priceOf_4 : decode cX10_priceOf 4 = .ok (.iload_n 1, 1) := by decide +kernel
theorem dX10_priceOf_5 : decode cX10_priceOf 5 = .ok (.iaload, 1) := by decide +kernel
theorem dX10_priceOf_6 : decode cX10_priceOf 6 = .ok (.iconst 1, 1) := by decide +kernel
theorem dX10_priceOf_7 : decode cX10_priceOf 7 = .ok (.if_icmp .ne 14, 3) := by decide +kernel
theorem dX10_priceOf_10 : decode cX10_priceOf 10 = .ok (.iconst 2, 1) := by decide +kernel
theorem dX10_priceOf_11 : decode cX10_priceOf 11 = .ok (.aload_n 0, 1) := by decide +kernel
theorem dX10_priceOf_12 : decode cX10_priceOf 12 = .ok (.getfield 13, 3) := by decide +kernel
theorem dX10_priceOf_15 : decode cX10_priceOf 15 = .ok (.iconst 1, 1) := by decide +kernel
theorem dX10_priceOf_16 : decode cX10_priceOf 16 = .ok (.iaload, 1) := by decide +kernel
theorem dX10_priceOf_17 : decode cX10_priceOf 17 = .ok (.imul, 1) := by decide +kernel
theorem dX10_priceOf_18 : decode cX10_priceOf 18 = .ok (.goto 9, 3) := by decide +kernel
theorem dX10_priceOf_21 : decode cX10_priceOf 21 = .ok (.aload_n 0, 1) := by decide +kernel
theorem dX10_priceOf_22 : decode cX10_priceOf 22 = .ok (.getfield 13, 3) := by decide +kernel
theorem dX10_priceOf_25 : decode cX10_priceOf 25 = .ok (.iconst 1, 1) := by decide +kernel
theorem dX10_priceOf_26 : decode cX10_priceOf 26 = .ok (.iaload, 1) := by decide +kernel
theorem dX10_priceOf_27 : decode cX10_priceOf 27 = .ok (.ireturn, 1) := by decide +kernel
def fX10_priceOf (v0 : Nat) (v1 : Int32) (h : qH) : Option (Int32 × qH) :=
  (isO h v0 10).bind fun _ =>
  (gR h v0 10 12).bind fun x1 =>
  (aI .int h x1 v1).bind fun x3 =>
  if x3 = 1 then
  ((gR h v0 10 10).bind fun x10 =>
  (aI .int h x10 1).bind fun x12 =>
  some (2 * x12, h))
  else
  ((gR h v0 10 10).bind fun x6 =>
  (aI .int h x6 1).bind fun x8 =>
  some (x8, h))
theorem obX10_priceOf {v0 : Nat} {v1 : Int32} {h : qH} {p : Int32 × qH} (hyp : fX10_priceOf v0 v1 h = some p) : ∃ fs, h.1 v0 = some (.inr (10, fs)) := by
  unfold fX10_priceOf at hyp
  exact q_bind hyp (fun _ e _ => isO_some e)
set_option maxHeartbeats 4000000 in
set_option maxRecDepth 100000 in
theorem okX10_priceOf {l : Launch} {v0 : Nat} {v1 : Int32} {h : qH} {p : Int32 × qH} (hyp : fX10_priceOf v0 v1 h = some p) : q_M l 1 yX10_priceOf cX10_priceOf 2 (some .int) [.ref v0, .int v1] h (some (.int p.1)) p.2 := by
  obtain ⟨r, h'⟩ := p
  unfold fX10_priceOf at hyp
  refine q_bind hyp (fun _ _ hyp => ?_)
  refine q_M.of (by decide) (Nat.le_of_ble_eq_true rfl) ?_
  refine q_to (ls' := [(0, .ref v0), (1, .int v1)]) (st' := []) rfl rfl ?_
  refine q_aload_n 0 rfl dX10_priceOf_0 ?_
  refine q_bind hyp (fun x1 e2 hyp => ?_)
  refine q_getR kF_X10_20 dX10_priceOf_1 e2 ?_
  refine q_iload_n 1 rfl dX10_priceOf_4 ?_
  refine q_bind hyp (fun x3 e4 hyp => ?_)
  refine q_iald dX10_priceOf_5 e4 ?_
  refine q_iconst (x := 1) rfl dX10_priceOf_6 ?_
  refine q_icmp_ne (tgt := 21) dX10_priceOf_7 (by decide) (fun c5 => ?_) (fun c5 => ?_)
  · have hyp := q_neg c5 hyp
    refine q_aload_n 0 rfl dX10_priceOf_21 ?_
    refine q_bind hyp (fun x6 e7 hyp => ?_)
    refine q_getR kF_X10_13 dX10_priceOf_22 e7 ?_
    refine q_iconst (x := 1) rfl dX10_priceOf_25 ?_
    refine q_bind hyp (fun x8 e9 hyp => ?_)
    refine q_iald dX10_priceOf_26 e9 ?_
    exact q_iretH rfl rfl dX10_priceOf_27 hyp
  · have hyp := q_pos c5 hyp
    refine q_iconst (x := 2) rfl dX10_priceOf_10 ?_
    refine q_aload_n 0 rfl dX10_priceOf_11 ?_
    refine q_bind hyp (fun x10 e11 hyp => ?_)
    refine q_getR kF_X10_13 dX10_priceOf_12 e11 ?_
    refine q_iconst (x := 1) rfl dX10_priceOf_15 ?_
    refine q_bind hyp (fun x12 e13 hyp => ?_)
    refine q_iald dX10_priceOf_16 e13 ?_
    refine q_imul dX10_priceOf_17 ?_
    refine q_goto (tgt := 27) dX10_priceOf_18 (by decide) ?_
    exact q_iretH rfl rfl dX10_priceOf_27 hyp
theorem dX10_between_0 : decode cX10_between 0 = .ok (.iload_n 0, 1) := by decide +kernel
theorem dX10_between_1 : decode cX10_between 1 = .ok (.iload_n 1, 1) := by decide +kernel
theorem dX10_between_2 : decode cX10_between 2 = .ok (.if_icmp .ge 7, 3) := by decide +kernel
theorem dX10_between_5 : decode cX10_between 5 = .ok (.iload_n 1, 1) := by decide +kernel
theorem dX10_between_6 : decode cX10_between 6 = .ok (.goto 13, 3) := by decide +kernel
theorem dX10_between_9 : decode cX10_between 9 = .ok (.iload_n 0, 1) := by decide +kernel
theorem dX10_between_10 : decode cX10_between 10 = .ok (.iload_n 2, 1) := by decide +kernel
theorem dX10_between_11 : decode cX10_between 11 = .ok (.if_icmp .le 7, 3) := by decide +kernel
theorem dX10_between_14 : decode cX10_between 14 = .ok (.iload_n 2, 1) := by decide +kernel
theorem dX10_between_15 : decode cX10_between 15 = .ok (.goto 4, 3) := by decide +kernel
theorem dX10_between_18 : decode cX10_between 18 = .ok (.iload_n 0, 1) := by decide +kernel
theorem dX10_between_19 : decode cX10_between 19 = .ok (.ireturn, 1) := by decide +kernel
def fX10_between (v0 : Int32) (v1 : Int32) (v2 : Int32) (h : qH) : Option (Int32 × qH) :=
  if v1 ≤ v0 then
  (if v0 ≤ v2 then
  (some (v0, h))
  else
  (some (v2, h)))
  else
  (some (v1, h))
set_option maxHeartbeats 4000000 in
set_option maxRecDepth 100000 in
theorem okX10_between {l : Launch} {v0 : Int32} {v1 : Int32} {v2 : Int32} {h : qH} {p : Int32 × qH} (hyp : fX10_between v0 v1 v2 h = some p) : q_M l 1 yX10_between cX10_between 3 (some .int) [.int v0, .int v1, .int v2] h (some (.int p.1)) p.2 := by
  obtain ⟨r, h'⟩ := p
  unfold fX10_between at hyp
  refine q_M.of (by decide) (Nat.le_of_ble_eq_true rfl) ?_
  refine q_to (ls' := [(0, .int v0), (1, .int v1), (2, .int v2)]) (st' := []) rfl rfl ?_
  refine q_iload_n 0 rfl dX10_between_0 ?_
  refine q_iload_n 1 rfl dX10_between_1 ?_
  refine q_icmp_ge (tgt := 9) dX10_between_2 (by decide) (fun c1 => ?_) (fun c1 => ?_)
  · have hyp := q_pos c1 hyp
    refine q_iload_n 0 rfl dX10_between_9 ?_
    refine q_iload_n 2 rfl dX10_between_10 ?_
    refine q_icmp_le (tgt := 18) dX10_between_11 (by decide) (fun c2 => ?_) (fun c2 => ?_)
    · have hyp := q_pos c2 hyp
      refine q_iload_n 0 rfl dX10_between_18 ?_
      exact q_iretH rfl rfl dX10_between_19 hyp
    · have hyp := q_neg c2 hyp
      refine q_iload_n 2 rfl dX10_between_14 ?_
      refine q_goto (tgt := 19) dX10_between_15 (by decide) ?_
      exact q_iretH rfl rfl dX10_between_19 hyp
  · have hyp := q_neg c1 hyp
    refine q_iload_n 1 rfl dX10_between_5 ?_
    refine q_goto (tgt := 19) dX10_between_6 (by decide) ?_
    exact q_iretH rfl rfl dX10_between_19 hyp
theorem dX10_opens_0 : decode cX10_opens 0 = .ok (.aload_n 0, 1) := by decide +kernel
theorem dX10_opens_1 : decode cX10_opens 1 = .ok (.getfield 51, 3) := by decide +kernel
theorem dX10_opens_4 : decode cX10_opens 4 = .ok (.iload_n 1, 1) := by decide +kernel
theorem dX10_opens_5 : decode cX10_opens 5 = .ok (.iconst 0, 1) := by decide +kernel
theorem dX10_opens_6 : decode cX10_opens 6 = .ok (.iastore, 1) := by decide +kernel
theorem dX10_opens_7 : decode cX10_opens 7 = .ok (.aload_n 0, 1) := by decide +kernel
theorem dX10_opens_8 : decode cX10_opens 8 = .ok (.getfield 57, 3) := by decide +kernel
theorem dX10_opens_11 : decode cX10_opens 11 = .ok (.iload_n 1, 1) := by decide +kernel
theorem dX10_opens_12 : decode cX10_opens 12 = .ok (.iconst 0, 1) := by decide +kernel
theorem dX10_opens_13 : decode cX10_opens 13 = .ok (.iastore, 1) := by decide +kernel
theorem dX10_opens_14 : decode cX10_opens 14 = .ok (.aload_n 0, 1) := by decide +kernel
theorem dX10_opens_15 : decode cX10_opens 15 = .ok (.getfield 60, 3) := by decide +kernel
theorem dX10_opens_18 : decode cX10_opens 18 = .ok (.iload_n 1, 1) := by decide +kernel
theorem dX10_opens_19 : decode cX10_opens 19 = .ok (.iconst 0, 1) := by decide +kernel
theorem dX10_opens_20 : decode cX10_opens 20 = .ok (.iastore, 1) := by decide +kernel
theorem dX10_opens_21 : decode cX10_opens 21 = .ok (.aload_n 0, 1) := by decide +kernel
theorem dX10_opens_22 : decode cX10_opens 22 = .ok (.getfield 63, 3) := by decide +kernel
theorem dX10_opens_25 : decode cX10_opens 25 = .ok (.iload_n 1, 1) := by decide +kernel
theorem dX10_opens_26 : decode cX10_opens 26 = .ok (.bipush 20, 2) := by decide +kernel
theorem dX10_opens_28 : decode cX10_opens 28 = .ok (.iastore, 1) := by decide +kernel
theorem dX10_opens_29 : decode cX10_opens 29 = .ok (.aload_n 0, 1) := by decide +kernel
theorem dX10_opens_30 : decode cX10_opens 30 = .ok (.getfield 69, 3) := by decide +kernel
theorem dX10_opens_33 : decode cX10_opens 33 = .ok (.iload_n 1, 1) := by decide +kernel
theorem dX10_opens_34 : decode cX10_opens 34 = .ok (.iconst 0, 1) := by decide +kernel
theorem dX10_opens_35 : decode cX10_opens 35 = .ok (.iastore, 1) := by decide +kernel
theorem dX10_opens_36 : decode cX10_opens 36 = .ok (.return_, 1) := by decide +kernel
def fX10_opens (v0 : Nat) (v1 : Int32) (h : qH) : Option (qH) :=
  (isO h v0 10).bind fun _ =>
  (gR h v0 10 24).bind fun x1 =>
  (sI .int h x1 v1 0).bind fun h3 =>
  (gR h3 v0 10 26).bind fun x5 =>
  (sI .int h3 x5 v1 0).bind fun h7 =>
  (gR h7 v0 10 27).bind fun x9 =>
  (sI .int h7 x9 v1 0).bind fun h11 =>
  (gR h11 v0 10 28).bind fun x13 =>
  (sI .int h11 x13 v1 20).bind fun h15 =>
  (gR h15 v0 10 30).bind fun x17 =>
  (sI .int h15 x17 v1 0).bind fun h19 =>
  some h19
theorem obX10_opens {v0 : Nat} {v1 : Int32} {h : qH} {p : qH} (hyp : fX10_opens v0 v1 h = some p) : ∃ fs, h.1 v0 = some (.inr (10, fs)) := by
  unfold fX10_opens at hyp
  exact q_bind hyp (fun _ e _ => isO_some e)
set_option maxHeartbeats 4000000 in
set_option maxRecDepth 100000 in
theorem okX10_opens {l : Launch} {v0 : Nat} {v1 : Int32} {h : qH} {h' : qH} (hyp : fX10_opens v0 v1 h = some h') : q_M l 1 yX10_opens cX10_opens 2 none [.ref v0, .int v1] h none h' := by
  unfold fX10_opens at hyp
  refine q_bind hyp (fun _ _ hyp => ?_)
  refine q_M.of (by decide) (Nat.le_of_ble_eq_true rfl) ?_
  refine q_to (ls' := [(0, .ref v0), (1, .int v1)]) (st' := []) rfl rfl ?_
  refine q_aload_n 0 rfl dX10_opens_0 ?_
  refine q_bind hyp (fun x1 e2 hyp => ?_)
  refine q_getR kF_X10_51 dX10_opens_1 e2 ?_
  refine q_iload_n 1 rfl dX10_opens_4 ?_
  refine q_iconst (x := 0) rfl dX10_opens_5 ?_
  refine q_bind hyp (fun h3 e4 hyp => ?_)
  refine q_iast dX10_opens_6 e4 ?_
  refine q_aload_n 0 rfl dX10_opens_7 ?_
  refine q_bind hyp (fun x5 e6 hyp => ?_)
  refine q_getR kF_X10_57 dX10_opens_8 e6 ?_
  refine q_iload_n 1 rfl dX10_opens_11 ?_
  refine q_iconst (x := 0) rfl dX10_opens_12 ?_
  refine q_bind hyp (fun h7 e8 hyp => ?_)
  refine q_iast dX10_opens_13 e8 ?_
  refine q_aload_n 0 rfl dX10_opens_14 ?_
  refine q_bind hyp (fun x9 e10 hyp => ?_)
  refine q_getR kF_X10_60 dX10_opens_15 e10 ?_
  refine q_iload_n 1 rfl dX10_opens_18 ?_
  refine q_iconst (x := 0) rfl dX10_opens_19 ?_
  refine q_bind hyp (fun h11 e12 hyp => ?_)
  refine q_iast dX10_opens_20 e12 ?_
  refine q_aload_n 0 rfl dX10_opens_21 ?_
  refine q_bind hyp (fun x13 e14 hyp => ?_)
  refine q_getR kF_X10_63 dX10_opens_22 e14 ?_
  refine q_iload_n 1 rfl dX10_opens_25 ?_
  refine q_bipush (x := 20) (by decide) dX10_opens_26 ?_
  refine q_bind hyp (fun h15 e16 hyp => ?_)
  refine q_iast dX10_opens_28 e16 ?_
  refine q_aload_n 0 rfl dX10_opens_29 ?_
  refine q_bind hyp (fun x17 e18 hyp => ?_)
  refine q_getR kF_X10_69 dX10_opens_30 e18 ?_
  refine q_iload_n 1 rfl dX10_opens_33 ?_
  refine q_iconst (x := 0) rfl dX10_opens_34 ?_
  refine q_bind hyp (fun h19 e20 hyp => ?_)
  refine q_iast dX10_opens_35 e20 ?_
  exact q_vretH rfl dX10_opens_36 hyp
