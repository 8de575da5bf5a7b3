/-! Functions over the views, and that the functions over the abstract heap are these (written by gen2.py). -/
def gJ6_bitCount_0f7a4 (v0 : Int32) (V : VT) : Option (Int32 × VT) :=
  some ((((((((v0 - (((v0.toUInt32 >>> ((1 : Int32).toUInt32 &&& Int32.toUInt32 31)).toInt32) &&& 1431655765)) &&& 858993459) + ((((v0 - (((v0.toUInt32 >>> ((1 : Int32).toUInt32 &&& Int32.toUInt32 31)).toInt32) &&& 1431655765)).toUInt32 >>> ((2 : Int32).toUInt32 &&& Int32.toUInt32 31)).toInt32) &&& 858993459)) + (((((v0 - (((v0.toUInt32 >>> ((1 : Int32).toUInt32 &&& Int32.toUInt32 31)).toInt32) &&& 1431655765)) &&& 858993459) + ((((v0 - (((v0.toUInt32 >>> ((1 : Int32).toUInt32 &&& Int32.toUInt32 31)).toInt32) &&& 1431655765)).toUInt32 >>> ((2 : Int32).toUInt32 &&& Int32.toUInt32 31)).toInt32) &&& 858993459)).toUInt32 >>> ((4 : Int32).toUInt32 &&& Int32.toUInt32 31)).toInt32)) &&& 252645135) + (((((((v0 - (((v0.toUInt32 >>> ((1 : Int32).toUInt32 &&& Int32.toUInt32 31)).toInt32) &&& 1431655765)) &&& 858993459) + ((((v0 - (((v0.toUInt32 >>> ((1 : Int32).toUInt32 &&& Int32.toUInt32 31)).toInt32) &&& 1431655765)).toUInt32 >>> ((2 : Int32).toUInt32 &&& Int32.toUInt32 31)).toInt32) &&& 858993459)) + (((((v0 - (((v0.toUInt32 >>> ((1 : Int32).toUInt32 &&& Int32.toUInt32 31)).toInt32) &&& 1431655765)) &&& 858993459) + ((((v0 - (((v0.toUInt32 >>> ((1 : Int32).toUInt32 &&& Int32.toUInt32 31)).toInt32) &&& 1431655765)).toUInt32 >>> ((2 : Int32).toUInt32 &&& Int32.toUInt32 31)).toInt32) &&& 858993459)).toUInt32 >>> ((4 : Int32).toUInt32 &&& Int32.toUInt32 31)).toInt32)) &&& 252645135).toUInt32 >>> ((8 : Int32).toUInt32 &&& Int32.toUInt32 31)).toInt32)) + ((((((((v0 - (((v0.toUInt32 >>> ((1 : Int32).toUInt32 &&& Int32.toUInt32 31)).toInt32) &&& 1431655765)) &&& 858993459) + ((((v0 - (((v0.toUInt32 >>> ((1 : Int32).toUInt32 &&& Int32.toUInt32 31)).toInt32) &&& 1431655765)).toUInt32 >>> ((2 : Int32).toUInt32 &&& Int32.toUInt32 31)).toInt32) &&& 858993459)) + (((((v0 - (((v0.toUInt32 >>> ((1 : Int32).toUInt32 &&& Int32.toUInt32 31)).toInt32) &&& 1431655765)) &&& 858993459) + ((((v0 - (((v0.toUInt32 >>> ((1 : Int32).toUInt32 &&& Int32.toUInt32 31)).toInt32) &&& 1431655765)).toUInt32 >>> ((2 : Int32).toUInt32 &&& Int32.toUInt32 31)).toInt32) &&& 858993459)).toUInt32 >>> ((4 : Int32).toUInt32 &&& Int32.toUInt32 31)).toInt32)) &&& 252645135) + (((((((v0 - (((v0.toUInt32 >>> ((1 : Int32).toUInt32 &&& Int32.toUInt32 31)).toInt32) &&& 1431655765)) &&& 858993459) + ((((v0 - (((v0.toUInt32 >>> ((1 : Int32).toUInt32 &&& Int32.toUInt32 31)).toInt32) &&& 1431655765)).toUInt32 >>> ((2 : Int32).toUInt32 &&& Int32.toUInt32 31)).toInt32) &&& 858993459)) + (((((v0 - (((v0.toUInt32 >>> ((1 : Int32).toUInt32 &&& Int32.toUInt32 31)).toInt32) &&& 1431655765)) &&& 858993459) + ((((v0 - (((v0.toUInt32 >>> ((1 : Int32).toUInt32 &&& Int32.toUInt32 31)).toInt32) &&& 1431655765)).toUInt32 >>> ((2 : Int32).toUInt32 &&& Int32.toUInt32 31)).toInt32) &&& 858993459)).toUInt32 >>> ((4 : Int32).toUInt32 &&& Int32.toUInt32 31)).toInt32)) &&& 252645135).toUInt32 >>> ((8 : Int32).toUInt32 &&& Int32.toUInt32 31)).toInt32)).toUInt32 >>> ((16 : Int32).toUInt32 &&& Int32.toUInt32 31)).toInt32)) &&& 63, V)
set_option maxHeartbeats 1000000 in
theorem smJ6_bitCount_0f7a4 {E : VE} {v0 : Int32} {V : VT}  : fJ6_bitCount_0f7a4 v0 (hpV E V) = (gJ6_bitCount_0f7a4 v0 V).map (fun p => (p.1, hpV E p.2)) := by
  unfold fJ6_bitCount_0f7a4 gJ6_bitCount_0f7a4
  rfl
def gX0_clear  (V : VT) : Option (VT) :=
  (some (wF V 30 1 0)).bind fun V1 =>
  (some (wF V1 30 2 0)).bind fun V2 =>
  some V2
set_option maxHeartbeats 1000000 in
theorem smX0_clear {E : VE}  {V : VT}  : fX0_clear 30 (hpV E V) = (gX0_clear  V).map (hpV E) := by
  unfold fX0_clear gX0_clear
  refine sb_some (s_isO rfl) ?_
  refine sb_V (o' := some (wF V 30 1 0)) (w0_1 rfl) (fun V1 => ?_)
  refine sb_V (o' := some (wF V1 30 2 0)) (w0_2 rfl) (fun V2 => ?_)
  rfl
def gX8_copy_b2 (n : Nat) : Nat → Nat → Nat → Int32 → VT → Option (VT)
  | 0, _, _, _, _ => none
  | w + 1, v0, v1, v2, V =>
    if 7 ≤ v2 then
    ((some (wF V v0 2 (V.F v1 2))).bind fun V1 =>
    (some (wF V1 v0 3 (V1.F v1 3))).bind fun V2 =>
    some V2)
    else
    ((rdA 7 (V.A ((v1 + 1))) v2).bind fun x3 =>
    (wrA V ((v0 + 1)) 7 v2 x3).bind fun V4 =>
    (rdA 7 (V4.A ((v1 + 2))) v2).bind fun x5 =>
    (wrA V4 ((v0 + 2)) 7 v2 x5).bind fun V6 =>
    gX8_copy_b2 n w v0 v1 (v2 + 1) V6)
set_option maxHeartbeats 1000000 in
theorem smX8_copy_b2 {E : VE} {n : Nat} : ∀ (w : Nat) (v0 : Nat) (hv0 : clsAt v0 = some 8) (v1 : Nat) (hv1 : clsAt v1 = some 8) (v2 : Int32)  (V : VT), fX8_copy_b2 n w v0 v1 v2 (hpV E V) = (gX8_copy_b2 n w v0 v1 v2 V).map (hpV E) := by
  intro w
  induction w with
  | zero => intro v0 hv0 v1 hv1 v2 V; rfl
  | succ w ih =>
    intro v0 hv0 v1 hv1 v2 V
    unfold fX8_copy_b2 gX8_copy_b2
    refine sb_ite ?_ ?_
    · refine sb_some (s_gI hv1 rfl) ?_
      refine sb_V (o' := some (wF V v0 2 (V.F v1 2))) (w8_2 hv0) (fun V1 => ?_)
      refine sb_some (s_gI hv1 rfl) ?_
      refine sb_V (o' := some (wF V1 v0 3 (V1.F v1 3))) (w8_3 hv0) (fun V2 => ?_)
      rfl
    · refine sb_some (s_gR hv0 rfl) ?_
      refine sb_some (s_gR hv1 rfl) ?_
      refine sb_bindE (s_aI (ch8_1 hv1)) (fun x3 => ?_)
      refine sb_V (o' := wrA V ((v0 + 1)) 7 v2 x3) (s_sI (ch8_1 hv0)) (fun V4 => ?_)
      refine sb_some (s_gR hv0 rfl) ?_
      refine sb_some (s_gR hv1 rfl) ?_
      refine sb_bindE (s_aI (ch8_2 hv1)) (fun x5 => ?_)
      refine sb_V (o' := wrA V4 ((v0 + 2)) 7 v2 x5) (s_sI (ch8_2 hv0)) (fun V6 => ?_)
      exact ih v0 hv0 v1 hv1 (v2 + 1) V6
def gX8_copy (n : Nat) (v0 : Nat) (v1 : Nat) (V : VT) : Option (VT) :=
  gX8_copy_b2 n n v0 v1 0 V
set_option maxHeartbeats 1000000 in
theorem smX8_copy {E : VE} {n : Nat} {v0 : Nat} {v1 : Nat} {V : VT} (h0 : clsAt v0 = some 8) (h1 : clsAt v1 = some 8) : fX8_copy n v0 v1 (hpV E V) = (gX8_copy n v0 v1 V).map (hpV E) := by
  unfold fX8_copy gX8_copy
  refine sb_some (s_isO h0) ?_
  exact smX8_copy_b2 _ v0 h0 v1 h1 0 V
def gX0_giveBack_b33 (n : Nat) (v1 : Nat) (s0 : Int32) (V : VT) : Option (Int32 × VT) :=
  (some (wF V 30 2 s0)).bind fun V1 =>
  (some (wF V1 30 1 ((V1.F 30 1) - 1))).bind fun V2 =>
  (rd31 (V2.F 30 2)).bind fun x3 =>
  (gX8_copy n v1 x3 V2).bind fun V5 =>
  some (1, V5)
set_option maxHeartbeats 1000000 in
theorem smX0_giveBack_b33 {E : VE} {n : Nat} {v1 : Nat} {s0 : Int32} {V : VT} (hv1 : clsAt v1 = some 8)  : fX0_giveBack_b33 n 30 v1 s0 30 (hpV E V) = (gX0_giveBack_b33 n v1 s0 V).map (fun p => (p.1, hpV E p.2)) := by
  unfold fX0_giveBack_b33 gX0_giveBack_b33
  refine sb_V (o' := some (wF V 30 2 s0)) (w0_2 rfl) (fun V1 => ?_)
  refine sb_some (s_gI rfl rfl) ?_
  refine sb_V (o' := some (wF V1 30 1 ((V1.F 30 1) - 1))) (w0_1 rfl) (fun V2 => ?_)
  refine sb_some (s_gR rfl rfl) ?_
  refine sb_some (s_gI rfl rfl) ?_
  refine sb_31 (fun x3 e4 => ?_)
  refine sb_V (o' := gX8_copy n v1 x3 V2) (smX8_copy hv1 e4) (fun V5 => ?_)
  rfl
def gX0_giveBack (n : Nat) (v1 : Nat) (V : VT) : Option (Int32 × VT) :=
  if (V.F 30 1) = 0 then
  (some (0, V))
  else
  (if (V.F 30 2) ≤ 0 then
  (gX0_giveBack_b33 n v1 (16 - 1) V)
  else
  (gX0_giveBack_b33 n v1 ((V.F 30 2) - 1) V))
set_option maxHeartbeats 1000000 in
theorem smX0_giveBack {E : VE} {n : Nat} {v1 : Nat} {V : VT} (h1 : clsAt v1 = some 8) : fX0_giveBack n 30 v1 (hpV E V) = (gX0_giveBack n v1 V).map (fun p => (p.1, hpV E p.2)) := by
  unfold fX0_giveBack gX0_giveBack
  refine sb_some (s_isO rfl) ?_
  refine sb_some (s_gI rfl rfl) ?_
  refine sb_ite ?_ ?_
  · rfl
  · refine sb_some (s_gI rfl rfl) ?_
    refine sb_ite ?_ ?_
    · refine sb_some (s_gR rfl rfl) ?_
      refine sb_some (x := 16) (s_aN31) ?_
      exact smX0_giveBack_b33 h1
    · refine sb_some (s_gI rfl rfl) ?_
      exact smX0_giveBack_b33 h1
def gX0_keep_b38 (n : Nat) (s0 : Int32) (V : VT) : Option (VT) :=
  (some (wF V 30 2 s0)).bind fun V1 =>
  (some (wF V1 30 1 (if (16 : Int32) < ((V1.F 30 1) + 1) then (16 : Int32) else ((V1.F 30 1) + 1)))).bind fun V2 =>
  some V2
set_option maxHeartbeats 1000000 in
theorem smX0_keep_b38 {E : VE} {n : Nat} {s0 : Int32} {V : VT}  : fX0_keep_b38 n 30 s0 30 (hpV E V) = (gX0_keep_b38 n s0 V).map (hpV E) := by
  unfold fX0_keep_b38 gX0_keep_b38
  refine sb_V (o' := some (wF V 30 2 s0)) (w0_2 rfl) (fun V1 => ?_)
  refine sb_some (s_gI rfl rfl) ?_
  refine sb_some (s_gR rfl rfl) ?_
  refine sb_some (x := 16) (s_aN31) ?_
  refine sb_V (o' := some (wF V1 30 1 (if (16 : Int32) < ((V1.F 30 1) + 1) then (16 : Int32) else ((V1.F 30 1) + 1)))) (w0_1 rfl) (fun V2 => ?_)
  rfl
def gX0_keep (n : Nat) (v1 : Nat) (V : VT) : Option (VT) :=
  (rd31 (V.F 30 2)).bind fun x1 =>
  (gX8_copy n x1 v1 V).bind fun V3 =>
  if 16 ≤ ((V3.F 30 2) + 1) then
  (gX0_keep_b38 n 0 V3)
  else
  (gX0_keep_b38 n ((V3.F 30 2) + 1) V3)
set_option maxHeartbeats 1000000 in
theorem smX0_keep {E : VE} {n : Nat} {v1 : Nat} {V : VT} (h1 : clsAt v1 = some 8) : fX0_keep n 30 v1 (hpV E V) = (gX0_keep n v1 V).map (hpV E) := by
  unfold fX0_keep gX0_keep
  refine sb_some (s_isO rfl) ?_
  refine sb_some (s_gR rfl rfl) ?_
  refine sb_some (s_gI rfl rfl) ?_
  refine sb_31 (fun x1 e2 => ?_)
  refine sb_V (o' := gX8_copy n x1 v1 V) (smX8_copy e2 h1) (fun V3 => ?_)
  refine sb_some (s_gI rfl rfl) ?_
  refine sb_some (s_gR rfl rfl) ?_
  refine sb_some (x := 16) (s_aN31) ?_
  refine sb_ite ?_ ?_
  · exact smX0_keep_b38
  · refine sb_some (s_gI rfl rfl) ?_
    exact smX0_keep_b38
def gX10_copies_b3 (n : Nat) : Nat → Nat → Nat → Int32 → Nat → Nat → Int32 → Int32 → VT → Option (VT)
  | 0, _, _, _, _, _, _, _, _ => none
  | w + 1, v0, mv0, v1, v2, mv2, v3, v4, V =>
    if 16 ≤ v4 then
    (some V)
    else
    ((rdA mv0 (V.A v0) (v1 + v4)).bind fun x1 =>
    (wrA V v2 mv2 (v3 + v4) x1).bind fun V2 =>
    gX10_copies_b3 n w v0 mv0 v1 v2 mv2 v3 (v4 + 1) V2)
set_option maxHeartbeats 1000000 in
theorem smX10_copies_b3 {E : VE} {n : Nat} : ∀ (w : Nat) (v0 : Nat)  (mv0 : Nat) (hv0 : arrAt v0 = some (.int, mv0)) (v1 : Int32)  (v2 : Nat)  (mv2 : Nat) (hv2 : arrAt v2 = some (.int, mv2)) (v3 : Int32)  (v4 : Int32)  (V : VT), fX10_copies_b3 n w v0 v1 v2 v3 v4 (hpV E V) = (gX10_copies_b3 n w v0 mv0 v1 v2 mv2 v3 v4 V).map (hpV E) := by
  intro w
  induction w with
  | zero => intro v0 mv0 hv0 v1 v2 mv2 hv2 v3 v4 V; rfl
  | succ w ih =>
    intro v0 mv0 hv0 v1 v2 mv2 hv2 v3 v4 V
    unfold fX10_copies_b3 gX10_copies_b3
    refine sb_ite ?_ ?_
    · rfl
    · refine sb_bindE (s_aI hv0) (fun x1 => ?_)
      refine sb_V (o' := wrA V v2 mv2 (v3 + v4) x1) (s_sI hv2) (fun V2 => ?_)
      exact ih v0 mv0 hv0 v1 v2 mv2 hv2 v3 (v4 + 1) V2
def gX10_copies (n : Nat) (v0 : Nat) (m0 : Nat) (v1 : Int32) (v2 : Nat) (m2 : Nat) (v3 : Int32) (V : VT) : Option (VT) :=
  gX10_copies_b3 n n v0 m0 v1 v2 m2 v3 0 V
set_option maxHeartbeats 1000000 in
theorem smX10_copies {E : VE} {n : Nat} {v0 : Nat} {m0 : Nat} {v1 : Int32} {v2 : Nat} {m2 : Nat} {v3 : Int32} {V : VT}  (h0 : arrAt v0 = some (.int, m0))   (h2 : arrAt v2 = some (.int, m2))  : fX10_copies n v0 v1 v2 v3 (hpV E V) = (gX10_copies n v0 m0 v1 v2 m2 v3 V).map (hpV E) := by
  unfold fX10_copies gX10_copies
  exact smX10_copies_b3 _ v0 m0 h0 v1 v2 m2 h2 v3 0 V
def gX10_passes_b64 (n : Nat) (K2 : Int32 → VT → Option (VT)) (v1 : Int32) (V : VT) : Option (VT) :=
  (rdA 14 (V.A 141) v1).bind fun x1 =>
  if x1 = 2 then
  ((rdA 16 (V.A 167) (2 + v1)).bind fun x2 =>
  (wrA V 167 16 (2 + v1) (if (0 : Int32) < (x2 - 1) then (x2 - 1) else (0 : Int32))).bind fun V3 =>
  K2 (v1 + 1) V3)
  else
  (K2 (v1 + 1) V)
set_option maxHeartbeats 1000000 in
theorem smX10_passes_b64 {E : VE} {n : Nat} {K2 : Int32 → VT → Option (VT)} {k2 : Nat → Int32 → qH → Option (qH)} {v1 : Int32} {V : VT} (hK2 : ∀ (v1 : Int32)  (V : VT), k2 137 v1 (hpV E V) = (K2 v1 V).map (hpV E))  : fX10_passes_b64 n k2 137 v1 (hpV E V) = (gX10_passes_b64 n K2 v1 V).map (hpV E) := by
  unfold fX10_passes_b64 gX10_passes_b64
  refine sb_some (s_gR rfl rfl) ?_
  refine sb_bindE (s_aI rfl) (fun x1 => ?_)
  refine sb_ite ?_ ?_
  · refine sb_some (s_gR rfl rfl) ?_
    refine sb_some (s_gR rfl rfl) ?_
    refine sb_bindE (s_aI rfl) (fun x2 => ?_)
    refine sb_V (o' := wrA V 167 16 (2 + v1) (if (0 : Int32) < (x2 - 1) then (x2 - 1) else (0 : Int32))) (s_sI rfl) (fun V3 => ?_)
    exact hK2 (v1 + 1) V3
  · exact hK2 (v1 + 1) V
def gX10_passes_b2 (n : Nat) : Nat → Int32 → VT → Option (VT)
  | 0, _, _ => none
  | w + 1, v1, V =>
    if (V.A 139 0) ≤ v1 then
    ((some (wA V 167 1 (if ((V.A 167 1) + (V.A 139 2)) < (200 : Int32) then ((V.A 167 1) + (V.A 139 2)) else (200 : Int32)))).bind fun V4 =>
    (some (wA V4 167 0 ((V4.A 167 0) + 1))).bind fun V6 =>
    some V6)
    else
    ((rdA 16 (V.A 167) (9 + v1)).bind fun x7 =>
    if x7 = 0 then
    (gX10_passes_b2 n w (v1 + 1) V)
    else
    ((rdA 14 (V.A 141) v1).bind fun x8 =>
    if x8 = 1 then
    ((rdA 14 (V.A 143) v1).bind fun x9 =>
    (rdA 16 (V.A 167) (2 + v1)).bind fun x10 =>
    (wrA V 167 16 (2 + v1) (if (x10 + 1) < x9 then (x10 + 1) else x9)).bind fun V11 =>
    gX10_passes_b64 n (gX10_passes_b2 n w) v1 V11)
    else
    (gX10_passes_b64 n (gX10_passes_b2 n w) v1 V)))
set_option maxHeartbeats 1000000 in
theorem smX10_passes_b2 {E : VE} {n : Nat} : ∀ (w : Nat) (v1 : Int32)  (V : VT), fX10_passes_b2 n w 137 v1 (hpV E V) = (gX10_passes_b2 n w v1 V).map (hpV E) := by
  intro w
  induction w with
  | zero => intro v1 V; rfl
  | succ w ih =>
    intro v1 V
    unfold fX10_passes_b2 gX10_passes_b2
    refine sb_some (s_gR rfl rfl) ?_
    refine sb_some ((s_aI rfl).trans (rdA_at (k := 0) (by decide) (by decide))) ?_
    refine sb_ite ?_ ?_
    · refine sb_some (s_gR rfl rfl) ?_
      refine sb_some (s_gR rfl rfl) ?_
      refine sb_some ((s_aI rfl).trans (rdA_at (k := 1) (by decide) (by decide))) ?_
      refine sb_some (s_gR rfl rfl) ?_
      refine sb_some ((s_aI rfl).trans (rdA_at (k := 2) (by decide) (by decide))) ?_
      refine sb_V (o' := some (wA V 167 1 (if ((V.A 167 1) + (V.A 139 2)) < (200 : Int32) then ((V.A 167 1) + (V.A 139 2)) else (200 : Int32)))) ((s_sI rfl).trans (congrArg _ (wrA_at (k := 1) (by decide) (by decide)))) (fun V4 => ?_)
      refine sb_some (s_gR rfl rfl) ?_
      refine sb_some ((s_aI rfl).trans (rdA_at (k := 0) (by decide) (by decide))) ?_
      refine sb_V (o' := some (wA V4 167 0 ((V4.A 167 0) + 1))) ((s_sI rfl).trans (congrArg _ (wrA_at (k := 0) (by decide) (by decide)))) (fun V6 => ?_)
      rfl
    · refine sb_some (s_gR rfl rfl) ?_
      refine sb_bindE (s_aI rfl) (fun x7 => ?_)
      refine sb_ite ?_ ?_
      · exact ih (v1 + 1) V
      · refine sb_some (s_gR rfl rfl) ?_
        refine sb_bindE (s_aI rfl) (fun x8 => ?_)
        refine sb_ite ?_ ?_
        · refine sb_some (s_gR rfl rfl) ?_
          refine sb_some (s_gR rfl rfl) ?_
          refine sb_bindE (s_aI rfl) (fun x9 => ?_)
          refine sb_some (s_gR rfl rfl) ?_
          refine sb_bindE (s_aI rfl) (fun x10 => ?_)
          refine sb_V (o' := wrA V 167 16 (2 + v1) (if (x10 + 1) < x9 then (x10 + 1) else x9)) (s_sI rfl) (fun V11 => ?_)
          exact smX10_passes_b64 ih
        · exact smX10_passes_b64 ih
def gX10_passes (n : Nat)  (V : VT) : Option (VT) :=
  gX10_passes_b2 n n 0 V
set_option maxHeartbeats 1000000 in
theorem smX10_passes {E : VE} {n : Nat}  {V : VT}  : fX10_passes n 137 (hpV E V) = (gX10_passes n  V).map (hpV E) := by
  unfold fX10_passes gX10_passes
  refine sb_some (s_isO rfl) ?_
  exact smX10_passes_b2 _ 0 V
def gX10_comes_b51 (n : Nat) (v3 : Int32) (V : VT) : Option (Int32 × VT) :=
  (gX10_copies n 169 16 0 167 16 0 V).bind fun V1 =>
  if v3 ≤ 60 then
  (some (v3, V1))
  else
  (some ((-1), V1))
set_option maxHeartbeats 1000000 in
theorem smX10_comes_b51 {E : VE} {n : Nat} {v3 : Int32} {V : VT}  : fX10_comes_b51 n 137 v3 (hpV E V) = (gX10_comes_b51 n v3 V).map (fun p => (p.1, hpV E p.2)) := by
  unfold fX10_comes_b51 gX10_comes_b51
  refine sb_some (s_gR rfl rfl) ?_
  refine sb_some (s_gR rfl rfl) ?_
  refine sb_V (o' := gX10_copies n 169 16 0 167 16 0 V) (smX10_copies rfl rfl) (fun V1 => ?_)
  refine sb_ite ?_ ?_
  · rfl
  · rfl
def gX10_comes_b37 (n : Nat) (K15 : Int32 → Int32 → Int32 → VT → Option (Int32 × VT)) (v1 : Int32) (v2 : Int32) (v3 : Int32) (s0 : Int32) (V : VT) : Option (Int32 × VT) :=
  if s0 = v2 then
  (gX10_comes_b51 n v3 V)
  else
  ((gX10_passes n V).bind fun V1 =>
  K15 v1 v2 (v3 + 1) V1)
set_option maxHeartbeats 1000000 in
theorem smX10_comes_b37 {E : VE} {n : Nat} {K15 : Int32 → Int32 → Int32 → VT → Option (Int32 × VT)} {k15 : Nat → Int32 → Int32 → Int32 → qH → Option (Int32 × qH)} {v1 : Int32} {v2 : Int32} {v3 : Int32} {s0 : Int32} {V : VT} (hK15 : ∀ (v1 : Int32)  (v2 : Int32)  (v3 : Int32)  (V : VT), k15 137 v1 v2 v3 (hpV E V) = (K15 v1 v2 v3 V).map (fun p => (p.1, hpV E p.2)))     : fX10_comes_b37 n k15 137 v1 v2 v3 s0 (hpV E V) = (gX10_comes_b37 n K15 v1 v2 v3 s0 V).map (fun p => (p.1, hpV E p.2)) := by
  unfold fX10_comes_b37 gX10_comes_b37
  refine sb_ite ?_ ?_
  · exact smX10_comes_b51
  · refine sb_V (o' := gX10_passes n V) (smX10_passes) (fun V1 => ?_)
    exact hK15 v1 v2 (v3 + 1) V1
def gX10_comes_b15 (n : Nat) : Nat → Int32 → Int32 → Int32 → VT → Option (Int32 × VT)
  | 0, _, _, _, _ => none
  | w + 1, v1, v2, v3, V =>
    if 60 < v3 then
    (gX10_comes_b51 n v3 V)
    else
    ((rdA 16 (V.A 167) (2 + v1)).bind fun x1 =>
    if x1 = 0 then
    (gX10_comes_b37 n (gX10_comes_b15 n w) v1 v2 v3 1 V)
    else
    (gX10_comes_b37 n (gX10_comes_b15 n w) v1 v2 v3 0 V))
set_option maxHeartbeats 1000000 in
theorem smX10_comes_b15 {E : VE} {n : Nat} : ∀ (w : Nat) (v1 : Int32)  (v2 : Int32)  (v3 : Int32)  (V : VT), fX10_comes_b15 n w 137 v1 v2 v3 (hpV E V) = (gX10_comes_b15 n w v1 v2 v3 V).map (fun p => (p.1, hpV E p.2)) := by
  intro w
  induction w with
  | zero => intro v1 v2 v3 V; rfl
  | succ w ih =>
    intro v1 v2 v3 V
    unfold fX10_comes_b15 gX10_comes_b15
    refine sb_ite ?_ ?_
    · exact smX10_comes_b51
    · refine sb_some (s_gR rfl rfl) ?_
      refine sb_bindE (s_aI rfl) (fun x1 => ?_)
      refine sb_ite ?_ ?_
      · exact smX10_comes_b37 ih
      · exact smX10_comes_b37 ih
def gX10_comes (n : Nat) (v1 : Int32) (v2 : Int32) (V : VT) : Option (Int32 × VT) :=
  (gX10_copies n 167 16 0 169 16 0 V).bind fun V1 =>
  gX10_comes_b15 n n v1 v2 0 V1
set_option maxHeartbeats 1000000 in
theorem smX10_comes {E : VE} {n : Nat} {v1 : Int32} {v2 : Int32} {V : VT}   : fX10_comes n 137 v1 v2 (hpV E V) = (gX10_comes n v1 v2 V).map (fun p => (p.1, hpV E p.2)) := by
  unfold fX10_comes gX10_comes
  refine sb_some (s_isO rfl) ?_
  refine sb_some (s_gR rfl rfl) ?_
  refine sb_some (s_gR rfl rfl) ?_
  refine sb_V (o' := gX10_copies n 167 16 0 169 16 0 V) (smX10_copies rfl rfl) (fun V1 => ?_)
  exact smX10_comes_b15 _ v1 v2 0 V1
def gX10_isMatter (v1 : Int32) (V : VT) : Option (Int32 × VT) :=
  if v1 < 0 then
  (some (0, V))
  else
  (if (V.A 139 0) ≤ v1 then
  (some (0, V))
  else
  (some (1, V)))
set_option maxHeartbeats 1000000 in
theorem smX10_isMatter {E : VE} {v1 : Int32} {V : VT}  : fX10_isMatter 137 v1 (hpV E V) = (gX10_isMatter v1 V).map (fun p => (p.1, hpV E p.2)) := by
  unfold fX10_isMatter gX10_isMatter
  refine sb_some (s_isO rfl) ?_
  refine sb_ite ?_ ?_
  · rfl
  · refine sb_some (s_gR rfl rfl) ?_
    refine sb_some ((s_aI rfl).trans (rdA_at (k := 0) (by decide) (by decide))) ?_
    refine sb_ite ?_ ?_
    · rfl
    · rfl
def gX10_again (n : Nat) (v1 : Int32) (V : VT) : Option (Int32 × VT) :=
  (some (wF V 137 0 0)).bind fun V1 =>
  (gX10_isMatter v1 V1).bind fun p2 =>
  if p2.1 = 0 then
  (some ((-1), p2.2))
  else
  ((rdA 16 (p2.2.A 167) (2 + v1)).bind fun x3 =>
  if x3 = 0 then
  ((gX10_comes n v1 0 p2.2).bind fun p4 =>
  some (p4.1, p4.2))
  else
  (some ((-1), p2.2)))
set_option maxHeartbeats 1000000 in
theorem smX10_again {E : VE} {n : Nat} {v1 : Int32} {V : VT}  : fX10_again n 137 v1 (hpV E V) = (gX10_again n v1 V).map (fun p => (p.1, hpV E p.2)) := by
  unfold fX10_again gX10_again
  refine sb_some (s_isO rfl) ?_
  refine sb_V (o' := some (wF V 137 0 0)) (w10_0 rfl) (fun V1 => ?_)
  refine sb_P (o' := gX10_isMatter v1 V1) (smX10_isMatter) (fun p2 => ?_)
  refine sb_ite ?_ ?_
  · rfl
  · refine sb_some (s_gR rfl rfl) ?_
    refine sb_bindE (s_aI rfl) (fun x3 => ?_)
    refine sb_ite ?_ ?_
    · refine sb_P (o' := gX10_comes n v1 0 p2.2) (smX10_comes) (fun p4 => ?_)
      rfl
    · rfl
def gX10_costsOf_b4 (n : Nat) : Nat → Int32 → Int32 → Int32 → VT → Option (Int32 × VT)
  | 0, _, _, _, _ => none
  | w + 1, v1, v2, v3, V =>
    if (V.A 139 0) ≤ v3 then
    (some (if v2 < (1000000 : Int32) then v2 else (1000000 : Int32), V))
    else
    (if ((v1 >>> (v3 &&& 31)) &&& 1) = 1 then
    ((rdA 7 (V.A 174) v3).bind fun x2 =>
    gX10_costsOf_b4 n w v1 (v2 + x2) (v3 + 1) V)
    else
    (gX10_costsOf_b4 n w v1 (v2 + 0) (v3 + 1) V))
set_option maxHeartbeats 1000000 in
theorem smX10_costsOf_b4 {E : VE} {n : Nat} : ∀ (w : Nat) (v1 : Int32)  (v2 : Int32)  (v3 : Int32)  (V : VT), fX10_costsOf_b4 n w 137 v1 v2 v3 (hpV E V) = (gX10_costsOf_b4 n w v1 v2 v3 V).map (fun p => (p.1, hpV E p.2)) := by
  intro w
  induction w with
  | zero => intro v1 v2 v3 V; rfl
  | succ w ih =>
    intro v1 v2 v3 V
    unfold fX10_costsOf_b4 gX10_costsOf_b4
    refine sb_some (s_gR rfl rfl) ?_
    refine sb_some ((s_aI rfl).trans (rdA_at (k := 0) (by decide) (by decide))) ?_
    refine sb_ite ?_ ?_
    · rfl
    · refine sb_ite ?_ ?_
      · refine sb_some (s_gR rfl rfl) ?_
        refine sb_bindE (s_aI rfl) (fun x2 => ?_)
        exact ih v1 (v2 + x2) (v3 + 1) V
      · exact ih v1 (v2 + 0) (v3 + 1) V
def gX10_costsOf (n : Nat) (v1 : Int32) (V : VT) : Option (Int32 × VT) :=
  gX10_costsOf_b4 n n v1 0 0 V
set_option maxHeartbeats 1000000 in
theorem smX10_costsOf {E : VE} {n : Nat} {v1 : Int32} {V : VT}  : fX10_costsOf n 137 v1 (hpV E V) = (gX10_costsOf n v1 V).map (fun p => (p.1, hpV E p.2)) := by
  unfold fX10_costsOf gX10_costsOf
  refine sb_some (s_isO rfl) ?_
  exact smX10_costsOf_b4 _ v1 0 0 V
def gX10_every  (V : VT) : Option (Int32 × VT) :=
  some (((1 : Int32) <<< ((V.A 139 0) &&& 31)) - 1, V)
set_option maxHeartbeats 1000000 in
theorem smX10_every {E : VE}  {V : VT}  : fX10_every 137 (hpV E V) = (gX10_every  V).map (fun p => (p.1, hpV E p.2)) := by
  unfold fX10_every gX10_every
  refine sb_some (s_isO rfl) ?_
  refine sb_some (s_gR rfl rfl) ?_
  refine sb_some ((s_aI rfl).trans (rdA_at (k := 0) (by decide) (by decide))) ?_
  rfl
def gX10_priceOf (v1 : Int32) (V : VT) : Option (Int32 × VT) :=
  (rdA 14 (V.A 141) v1).bind fun x1 =>
  if x1 = 1 then
  (some (2 * (V.A 139 1), V))
  else
  (some (V.A 139 1, V))
set_option maxHeartbeats 1000000 in
theorem smX10_priceOf {E : VE} {v1 : Int32} {V : VT}  : fX10_priceOf 137 v1 (hpV E V) = (gX10_priceOf v1 V).map (fun p => (p.1, hpV E p.2)) := by
  unfold fX10_priceOf gX10_priceOf
  refine sb_some (s_isO rfl) ?_
  refine sb_some (s_gR rfl rfl) ?_
  refine sb_bindE (s_aI rfl) (fun x1 => ?_)
  refine sb_ite ?_ ?_
  · refine sb_some (s_gR rfl rfl) ?_
    refine sb_some ((s_aI rfl).trans (rdA_at (k := 1) (by decide) (by decide))) ?_
    rfl
  · refine sb_some (s_gR rfl rfl) ?_
    refine sb_some ((s_aI rfl).trans (rdA_at (k := 1) (by decide) (by decide))) ?_
    rfl
def gX10_between (v0 : Int32) (v1 : Int32) (v2 : Int32) (V : VT) : Option (Int32 × VT) :=
  if v1 ≤ v0 then
  (if v0 ≤ v2 then
  (some (v0, V))
  else
  (some (v2, V)))
  else
  (some (v1, V))
set_option maxHeartbeats 1000000 in
theorem smX10_between {E : VE} {v0 : Int32} {v1 : Int32} {v2 : Int32} {V : VT}    : fX10_between v0 v1 v2 (hpV E V) = (gX10_between v0 v1 v2 V).map (fun p => (p.1, hpV E p.2)) := by
  unfold fX10_between gX10_between
  refine sb_ite ?_ ?_
  · refine sb_ite ?_ ?_
    · rfl
    · rfl
  · rfl
def gX10_opens (v1 : Int32) (V : VT) : Option (VT) :=
  (wrA V 151 7 v1 0).bind fun V1 =>
  (wrA V1 153 7 v1 0).bind fun V2 =>
  (wrA V2 154 7 v1 0).bind fun V3 =>
  (wrA V3 155 7 v1 20).bind fun V4 =>
  (wrA V4 157 7 v1 0).bind fun V5 =>
  some V5
set_option maxHeartbeats 1000000 in
theorem smX10_opens {E : VE} {v1 : Int32} {V : VT}  : fX10_opens 137 v1 (hpV E V) = (gX10_opens v1 V).map (hpV E) := by
  unfold fX10_opens gX10_opens
  refine sb_some (s_isO rfl) ?_
  refine sb_some (s_gR rfl rfl) ?_
  refine sb_V (o' := wrA V 151 7 v1 0) (s_sI rfl) (fun V1 => ?_)
  refine sb_some (s_gR rfl rfl) ?_
  refine sb_V (o' := wrA V1 153 7 v1 0) (s_sI rfl) (fun V2 => ?_)
  refine sb_some (s_gR rfl rfl) ?_
  refine sb_V (o' := wrA V2 154 7 v1 0) (s_sI rfl) (fun V3 => ?_)
  refine sb_some (s_gR rfl rfl) ?_
  refine sb_V (o' := wrA V3 155 7 v1 20) (s_sI rfl) (fun V4 => ?_)
  refine sb_some (s_gR rfl rfl) ?_
  refine sb_V (o' := wrA V4 157 7 v1 0) (s_sI rfl) (fun V5 => ?_)
  rfl
def gX10_sums_b45 (v1 : Int32) (s0 : Int32) (s1 : Int32) (s2 : Nat) (ms2 : Nat) (V : VT) : Option (VT) :=
  (wrA V s2 ms2 s1 s0).bind fun V1 =>
  (wrA V1 157 7 v1 0).bind fun V2 =>
  some V2
set_option maxHeartbeats 1000000 in
theorem smX10_sums_b45 {E : VE} {v1 : Int32} {s0 : Int32} {s1 : Int32} {s2 : Nat} {ms2 : Nat} {V : VT}     (hs2 : arrAt s2 = some (.int, ms2)) : fX10_sums_b45 137 v1 s0 s1 s2 (hpV E V) = (gX10_sums_b45 v1 s0 s1 s2 ms2 V).map (hpV E) := by
  unfold fX10_sums_b45 gX10_sums_b45
  refine sb_V (o' := wrA V s2 ms2 s1 s0) (s_sI hs2) (fun V1 => ?_)
  refine sb_some (s_gR rfl rfl) ?_
  refine sb_V (o' := wrA V1 157 7 v1 0) (s_sI rfl) (fun V2 => ?_)
  rfl
def gX10_sums (v1 : Int32) (V : VT) : Option (VT) :=
  (rdA 7 (V.A 155) v1).bind fun x1 =>
  if x1 = 21 then
  ((rdA 7 (V.A 154) v1).bind fun x4 =>
  (rdA 7 (V.A 156) v1).bind fun x5 =>
  gX10_sums_b45 v1 (x4 - x5) v1 154 7 V)
  else
  ((rdA 7 (V.A 154) v1).bind fun x2 =>
  (rdA 7 (V.A 156) v1).bind fun x3 =>
  gX10_sums_b45 v1 (x2 + x3) v1 154 7 V)
set_option maxHeartbeats 1000000 in
theorem smX10_sums {E : VE} {v1 : Int32} {V : VT}  : fX10_sums 137 v1 (hpV E V) = (gX10_sums v1 V).map (hpV E) := by
  unfold fX10_sums gX10_sums
  refine sb_some (s_isO rfl) ?_
  refine sb_some (s_gR rfl rfl) ?_
  refine sb_some (s_gR rfl rfl) ?_
  refine sb_bindE (s_aI rfl) (fun x1 => ?_)
  refine sb_ite ?_ ?_
  · refine sb_some (s_gR rfl rfl) ?_
    refine sb_bindE (s_aI rfl) (fun x4 => ?_)
    refine sb_some (s_gR rfl rfl) ?_
    refine sb_bindE (s_aI rfl) (fun x5 => ?_)
    exact smX10_sums_b45 rfl
  · refine sb_some (s_gR rfl rfl) ?_
    refine sb_bindE (s_aI rfl) (fun x2 => ?_)
    refine sb_some (s_gR rfl rfl) ?_
    refine sb_bindE (s_aI rfl) (fun x3 => ?_)
    exact smX10_sums_b45 rfl
def gX10_tests_b136 (v1 : Int32) (v2 : Int32) (V : VT) : Option (VT) :=
  (wrA V 150 7 v1 v2).bind fun V1 =>
  (wrA V1 153 7 v1 0).bind fun V2 =>
  (wrA V2 154 7 v1 0).bind fun V3 =>
  (wrA V3 155 7 v1 20).bind fun V4 =>
  some V4
set_option maxHeartbeats 1000000 in
theorem smX10_tests_b136 {E : VE} {v1 : Int32} {v2 : Int32} {V : VT}   : fX10_tests_b136 137 v1 v2 (hpV E V) = (gX10_tests_b136 v1 v2 V).map (hpV E) := by
  unfold fX10_tests_b136 gX10_tests_b136
  refine sb_some (s_gR rfl rfl) ?_
  refine sb_V (o' := wrA V 150 7 v1 v2) (s_sI rfl) (fun V1 => ?_)
  refine sb_some (s_gR rfl rfl) ?_
  refine sb_V (o' := wrA V1 153 7 v1 0) (s_sI rfl) (fun V2 => ?_)
  refine sb_some (s_gR rfl rfl) ?_
  refine sb_V (o' := wrA V2 154 7 v1 0) (s_sI rfl) (fun V3 => ?_)
  refine sb_some (s_gR rfl rfl) ?_
  refine sb_V (o' := wrA V3 155 7 v1 20) (s_sI rfl) (fun V4 => ?_)
  rfl
def gX10_tests_b135 (v1 : Int32) (s0 : Int32) (V : VT) : Option (VT) :=
  gX10_tests_b136 v1 s0 V
set_option maxHeartbeats 1000000 in
theorem smX10_tests_b135 {E : VE} {v1 : Int32} {s0 : Int32} {V : VT}   : fX10_tests_b135 137 v1 s0 (hpV E V) = (gX10_tests_b135 v1 s0 V).map (hpV E) := by
  unfold fX10_tests_b135 gX10_tests_b135
  exact smX10_tests_b136
def gX10_tests_b130 (v1 : Int32) (V : VT) : Option (VT) :=
  gX10_tests_b135 v1 1 V
set_option maxHeartbeats 1000000 in
theorem smX10_tests_b130 {E : VE} {v1 : Int32} {V : VT}  : fX10_tests_b130 137 v1 (hpV E V) = (gX10_tests_b130 v1 V).map (hpV E) := by
  unfold fX10_tests_b130 gX10_tests_b130
  exact smX10_tests_b135
def gX10_tests_b106 (v1 : Int32) (v2 : Int32) (V : VT) : Option (VT) :=
  (rdA 7 (V.A 151) v1).bind fun x1 =>
  if x1 = 27 then
  ((rdA 7 (V.A 150) v1).bind fun x2 =>
  if x2 = 0 then
  (if v2 = 0 then
  (gX10_tests_b135 v1 0 V)
  else
  (gX10_tests_b130 v1 V))
  else
  (gX10_tests_b130 v1 V))
  else
  (gX10_tests_b136 v1 v2 V)
set_option maxHeartbeats 1000000 in
theorem smX10_tests_b106 {E : VE} {v1 : Int32} {v2 : Int32} {V : VT}   : fX10_tests_b106 137 v1 v2 (hpV E V) = (gX10_tests_b106 v1 v2 V).map (hpV E) := by
  unfold fX10_tests_b106 gX10_tests_b106
  refine sb_some (s_gR rfl rfl) ?_
  refine sb_bindE (s_aI rfl) (fun x1 => ?_)
  refine sb_ite ?_ ?_
  · refine sb_some (s_gR rfl rfl) ?_
    refine sb_bindE (s_aI rfl) (fun x2 => ?_)
    refine sb_ite ?_ ?_
    · refine sb_ite ?_ ?_
      · exact smX10_tests_b135
      · exact smX10_tests_b130
    · exact smX10_tests_b130
  · exact smX10_tests_b136
def gX10_tests_b105 (v1 : Int32) (s0 : Int32) (V : VT) : Option (VT) :=
  gX10_tests_b106 v1 s0 V
set_option maxHeartbeats 1000000 in
theorem smX10_tests_b105 {E : VE} {v1 : Int32} {s0 : Int32} {V : VT}   : fX10_tests_b105 137 v1 s0 (hpV E V) = (gX10_tests_b105 v1 s0 V).map (hpV E) := by
  unfold fX10_tests_b105 gX10_tests_b105
  exact smX10_tests_b106
def gX10_tests_b104 (v1 : Int32) (V : VT) : Option (VT) :=
  gX10_tests_b105 v1 0 V
set_option maxHeartbeats 1000000 in
theorem smX10_tests_b104 {E : VE} {v1 : Int32} {V : VT}  : fX10_tests_b104 137 v1 (hpV E V) = (gX10_tests_b104 v1 V).map (hpV E) := by
  unfold fX10_tests_b104 gX10_tests_b104
  exact smX10_tests_b105
def gX10_tests_b76 (v1 : Int32) (v2 : Int32) (V : VT) : Option (VT) :=
  (rdA 7 (V.A 151) v1).bind fun x1 =>
  if x1 = 26 then
  ((rdA 7 (V.A 150) v1).bind fun x2 =>
  if x2 = 0 then
  (gX10_tests_b104 v1 V)
  else
  (if v2 = 0 then
  (gX10_tests_b104 v1 V)
  else
  (gX10_tests_b105 v1 1 V)))
  else
  (gX10_tests_b106 v1 v2 V)
set_option maxHeartbeats 1000000 in
theorem smX10_tests_b76 {E : VE} {v1 : Int32} {v2 : Int32} {V : VT}   : fX10_tests_b76 137 v1 v2 (hpV E V) = (gX10_tests_b76 v1 v2 V).map (hpV E) := by
  unfold fX10_tests_b76 gX10_tests_b76
  refine sb_some (s_gR rfl rfl) ?_
  refine sb_bindE (s_aI rfl) (fun x1 => ?_)
  refine sb_ite ?_ ?_
  · refine sb_some (s_gR rfl rfl) ?_
    refine sb_bindE (s_aI rfl) (fun x2 => ?_)
    refine sb_ite ?_ ?_
    · exact smX10_tests_b104
    · refine sb_ite ?_ ?_
      · exact smX10_tests_b104
      · exact smX10_tests_b105
  · exact smX10_tests_b106
def gX10_tests_b75 (v1 : Int32) (s0 : Int32) (V : VT) : Option (VT) :=
  gX10_tests_b76 v1 s0 V
set_option maxHeartbeats 1000000 in
theorem smX10_tests_b75 {E : VE} {v1 : Int32} {s0 : Int32} {V : VT}   : fX10_tests_b75 137 v1 s0 (hpV E V) = (gX10_tests_b75 v1 s0 V).map (hpV E) := by
  unfold fX10_tests_b75 gX10_tests_b75
  exact smX10_tests_b76
def gX10_tests_b44 (v1 : Int32) (v2 : Int32) (V : VT) : Option (VT) :=
  (rdA 7 (V.A 153) v1).bind fun x1 =>
  if x1 = 25 then
  ((rdA 7 (V.A 152) v1).bind fun x2 =>
  (rdA 7 (V.A 154) v1).bind fun x3 =>
  if x2 = x3 then
  (gX10_tests_b75 v1 1 V)
  else
  (gX10_tests_b75 v1 0 V))
  else
  (gX10_tests_b76 v1 v2 V)
set_option maxHeartbeats 1000000 in
theorem smX10_tests_b44 {E : VE} {v1 : Int32} {v2 : Int32} {V : VT}   : fX10_tests_b44 137 v1 v2 (hpV E V) = (gX10_tests_b44 v1 v2 V).map (hpV E) := by
  unfold fX10_tests_b44 gX10_tests_b44
  refine sb_some (s_gR rfl rfl) ?_
  refine sb_bindE (s_aI rfl) (fun x1 => ?_)
  refine sb_ite ?_ ?_
  · refine sb_some (s_gR rfl rfl) ?_
    refine sb_bindE (s_aI rfl) (fun x2 => ?_)
    refine sb_some (s_gR rfl rfl) ?_
    refine sb_bindE (s_aI rfl) (fun x3 => ?_)
    refine sb_ite ?_ ?_
    · exact smX10_tests_b75
    · exact smX10_tests_b75
  · exact smX10_tests_b76
def gX10_tests_b43 (v1 : Int32) (s0 : Int32) (V : VT) : Option (VT) :=
  gX10_tests_b44 v1 s0 V
set_option maxHeartbeats 1000000 in
theorem smX10_tests_b43 {E : VE} {v1 : Int32} {s0 : Int32} {V : VT}   : fX10_tests_b43 137 v1 s0 (hpV E V) = (gX10_tests_b43 v1 s0 V).map (hpV E) := by
  unfold fX10_tests_b43 gX10_tests_b43
  exact smX10_tests_b44
def gX10_tests (v1 : Int32) (V : VT) : Option (VT) :=
  (gX10_sums v1 V).bind fun V1 =>
  (rdA 7 (V1.A 154) v1).bind fun x2 =>
  (rdA 7 (V1.A 153) v1).bind fun x3 =>
  if x3 = 24 then
  ((rdA 7 (V1.A 152) v1).bind fun x4 =>
  (rdA 7 (V1.A 154) v1).bind fun x5 =>
  if x5 ≤ x4 then
  (gX10_tests_b43 v1 0 V1)
  else
  (gX10_tests_b43 v1 1 V1))
  else
  (gX10_tests_b44 v1 x2 V1)
set_option maxHeartbeats 1000000 in
theorem smX10_tests {E : VE} {v1 : Int32} {V : VT}  : fX10_tests 137 v1 (hpV E V) = (gX10_tests v1 V).map (hpV E) := by
  unfold fX10_tests gX10_tests
  refine sb_some (s_isO rfl) ?_
  refine sb_V (o' := gX10_sums v1 V) (smX10_sums) (fun V1 => ?_)
  refine sb_some (s_gR rfl rfl) ?_
  refine sb_bindE (s_aI rfl) (fun x2 => ?_)
  refine sb_some (s_gR rfl rfl) ?_
  refine sb_bindE (s_aI rfl) (fun x3 => ?_)
  refine sb_ite ?_ ?_
  · refine sb_some (s_gR rfl rfl) ?_
    refine sb_bindE (s_aI rfl) (fun x4 => ?_)
    refine sb_some (s_gR rfl rfl) ?_
    refine sb_bindE (s_aI rfl) (fun x5 => ?_)
    refine sb_ite ?_ ?_
    · exact smX10_tests_b43
    · exact smX10_tests_b43
  · exact smX10_tests_b44
def gX10_worked_b328 (n : Nat) (K14 : Int32 → Int32 → Int32 → VT → Option (Int32 × VT)) (v1 : Int32) (v2 : Int32) (v3 : Int32) (s0 : Int32) (s1 : Int32) (s2 : Nat) (ms2 : Nat) (V : VT) : Option (Int32 × VT) :=
  (wrA V s2 ms2 s1 s0).bind fun V1 =>
  K14 v1 v2 (v3 + 1) V1
set_option maxHeartbeats 1000000 in
theorem smX10_worked_b328 {E : VE} {n : Nat} {K14 : Int32 → Int32 → Int32 → VT → Option (Int32 × VT)} {k14 : Nat → Int32 → Int32 → Int32 → qH → Option (Int32 × qH)} {v1 : Int32} {v2 : Int32} {v3 : Int32} {s0 : Int32} {s1 : Int32} {s2 : Nat} {ms2 : Nat} {V : VT} (hK14 : ∀ (v1 : Int32)  (v2 : Int32)  (v3 : Int32)  (V : VT), k14 137 v1 v2 v3 (hpV E V) = (K14 v1 v2 v3 V).map (fun p => (p.1, hpV E p.2)))       (hs2 : arrAt s2 = some (.int, ms2)) : fX10_worked_b328 n k14 137 v1 v2 v3 s0 s1 s2 (hpV E V) = (gX10_worked_b328 n K14 v1 v2 v3 s0 s1 s2 ms2 V).map (fun p => (p.1, hpV E p.2)) := by
  unfold fX10_worked_b328 gX10_worked_b328
  refine sb_V (o' := wrA V s2 ms2 s1 s0) (s_sI hs2) (fun V1 => ?_)
  exact hK14 v1 v2 (v3 + 1) V1
def gX10_worked_b300 (n : Nat) (K14 : Int32 → Int32 → Int32 → VT → Option (Int32 × VT)) (v1 : Int32) (v2 : Int32) (v3 : Int32) (v5 : Int32) (V : VT) : Option (Int32 × VT) :=
  (rdA 7 (V.A 157) v2).bind fun x1 =>
  if x1 = 0 then
  (gX10_worked_b328 n K14 v1 v2 v3 v5 v2 156 7 V)
  else
  ((rdA 7 (V.A 156) v2).bind fun x2 =>
  gX10_worked_b328 n K14 v1 v2 v3 (x2 * v5) v2 156 7 V)
set_option maxHeartbeats 1000000 in
theorem smX10_worked_b300 {E : VE} {n : Nat} {K14 : Int32 → Int32 → Int32 → VT → Option (Int32 × VT)} {k14 : Nat → Int32 → Int32 → Int32 → qH → Option (Int32 × qH)} {v1 : Int32} {v2 : Int32} {v3 : Int32} {v5 : Int32} {V : VT} (hK14 : ∀ (v1 : Int32)  (v2 : Int32)  (v3 : Int32)  (V : VT), k14 137 v1 v2 v3 (hpV E V) = (K14 v1 v2 v3 V).map (fun p => (p.1, hpV E p.2)))     : fX10_worked_b300 n k14 137 v1 v2 v3 v5 (hpV E V) = (gX10_worked_b300 n K14 v1 v2 v3 v5 V).map (fun p => (p.1, hpV E p.2)) := by
  unfold fX10_worked_b300 gX10_worked_b300
  refine sb_some (s_gR rfl rfl) ?_
  refine sb_some (s_gR rfl rfl) ?_
  refine sb_bindE (s_aI rfl) (fun x1 => ?_)
  refine sb_ite ?_ ?_
  · exact smX10_worked_b328 hK14 rfl
  · refine sb_some (s_gR rfl rfl) ?_
    refine sb_bindE (s_aI rfl) (fun x2 => ?_)
    exact smX10_worked_b328 hK14 rfl
def gX10_worked_b268 (n : Nat) (K14 : Int32 → Int32 → Int32 → VT → Option (Int32 × VT)) : Nat → Int32 → Int32 → Int32 → Int32 → VT → Option (Int32 × VT)
  | 0, _, _, _, _, _ => none
  | w + 1, v1, v2, v3, v5, V =>
    if v2 ≤ 0 then
    (gX10_worked_b300 n K14 v1 v2 v3 v5 V)
    else
    ((rdA 7 (V.A 158) v2).bind fun x1 =>
    if x1 = 1 then
    (if v5 = 0 then
    (gX10_worked_b268 n K14 w v1 (v2 + (-1)) v3 1 V)
    else
    (gX10_worked_b268 n K14 w v1 (v2 + (-1)) v3 0 V))
    else
    (gX10_worked_b300 n K14 v1 v2 v3 v5 V))
set_option maxHeartbeats 1000000 in
theorem smX10_worked_b268 {E : VE} {n : Nat} {K14 : Int32 → Int32 → Int32 → VT → Option (Int32 × VT)} {k14 : Nat → Int32 → Int32 → Int32 → qH → Option (Int32 × qH)} (hK14 : ∀ (v1 : Int32)  (v2 : Int32)  (v3 : Int32)  (V : VT), k14 137 v1 v2 v3 (hpV E V) = (K14 v1 v2 v3 V).map (fun p => (p.1, hpV E p.2))) : ∀ (w : Nat) (v1 : Int32)  (v2 : Int32)  (v3 : Int32)  (v5 : Int32)  (V : VT), fX10_worked_b268 n k14 w 137 v1 v2 v3 v5 (hpV E V) = (gX10_worked_b268 n K14 w v1 v2 v3 v5 V).map (fun p => (p.1, hpV E p.2)) := by
  intro w
  induction w with
  | zero => intro v1 v2 v3 v5 V; rfl
  | succ w ih =>
    intro v1 v2 v3 v5 V
    unfold fX10_worked_b268 gX10_worked_b268
    refine sb_ite ?_ ?_
    · exact smX10_worked_b300 hK14
    · refine sb_some (s_gR rfl rfl) ?_
      refine sb_bindE (s_aI rfl) (fun x1 => ?_)
      refine sb_ite ?_ ?_
      · refine sb_ite ?_ ?_
        · exact ih v1 (v2 + (-1)) v3 1 V
        · exact ih v1 (v2 + (-1)) v3 0 V
      · exact smX10_worked_b300 hK14
def gX10_worked_b243 (n : Nat) (K14 : Int32 → Int32 → Int32 → VT → Option (Int32 × VT)) (v1 : Int32) (v2 : Int32) (v3 : Int32) (v4 : Int32) (s0 : Int32) (V : VT) : Option (Int32 × VT) :=
  if v4 = 29 then
  ((gX10_tests v2 V).bind fun V1 =>
  (rdA 7 (V1.A 150) v2).bind fun x2 =>
  gX10_worked_b268 n K14 n v1 (v2 + (-1)) v3 x2 V1)
  else
  (gX10_worked_b268 n K14 n v1 v2 v3 s0 V)
set_option maxHeartbeats 1000000 in
theorem smX10_worked_b243 {E : VE} {n : Nat} {K14 : Int32 → Int32 → Int32 → VT → Option (Int32 × VT)} {k14 : Nat → Int32 → Int32 → Int32 → qH → Option (Int32 × qH)} {v1 : Int32} {v2 : Int32} {v3 : Int32} {v4 : Int32} {s0 : Int32} {V : VT} (hK14 : ∀ (v1 : Int32)  (v2 : Int32)  (v3 : Int32)  (V : VT), k14 137 v1 v2 v3 (hpV E V) = (K14 v1 v2 v3 V).map (fun p => (p.1, hpV E p.2)))      : fX10_worked_b243 n k14 137 v1 v2 v3 v4 s0 (hpV E V) = (gX10_worked_b243 n K14 v1 v2 v3 v4 s0 V).map (fun p => (p.1, hpV E p.2)) := by
  unfold fX10_worked_b243 gX10_worked_b243
  refine sb_ite ?_ ?_
  · refine sb_V (o' := gX10_tests v2 V) (smX10_tests) (fun V1 => ?_)
    refine sb_some (s_gR rfl rfl) ?_
    refine sb_bindE (s_aI rfl) (fun x2 => ?_)
    exact smX10_worked_b268 hK14 _ v1 (v2 + (-1)) v3 x2 V1
  · exact smX10_worked_b268 hK14 _ v1 v2 v3 s0 V
def gX10_worked_b194 (n : Nat) (K14 : Int32 → Int32 → Int32 → VT → Option (Int32 × VT)) (v1 : Int32) (v2 : Int32) (v3 : Int32) (v4 : Int32) (V : VT) : Option (Int32 × VT) :=
  (gX10_tests v2 V).bind fun V1 =>
  (wrA V1 151 7 v2 v4).bind fun V2 =>
  K14 v1 v2 (v3 + 1) V2
set_option maxHeartbeats 1000000 in
theorem smX10_worked_b194 {E : VE} {n : Nat} {K14 : Int32 → Int32 → Int32 → VT → Option (Int32 × VT)} {k14 : Nat → Int32 → Int32 → Int32 → qH → Option (Int32 × qH)} {v1 : Int32} {v2 : Int32} {v3 : Int32} {v4 : Int32} {V : VT} (hK14 : ∀ (v1 : Int32)  (v2 : Int32)  (v3 : Int32)  (V : VT), k14 137 v1 v2 v3 (hpV E V) = (K14 v1 v2 v3 V).map (fun p => (p.1, hpV E p.2)))     : fX10_worked_b194 n k14 137 v1 v2 v3 v4 (hpV E V) = (gX10_worked_b194 n K14 v1 v2 v3 v4 V).map (fun p => (p.1, hpV E p.2)) := by
  unfold fX10_worked_b194 gX10_worked_b194
  refine sb_V (o' := gX10_tests v2 V) (smX10_tests) (fun V1 => ?_)
  refine sb_some (s_gR rfl rfl) ?_
  refine sb_V (o' := wrA V1 151 7 v2 v4) (s_sI rfl) (fun V2 => ?_)
  exact hK14 v1 v2 (v3 + 1) V2
def gX10_worked_b137 (n : Nat) (K14 : Int32 → Int32 → Int32 → VT → Option (Int32 × VT)) (v1 : Int32) (v2 : Int32) (v3 : Int32) (v4 : Int32) (V : VT) : Option (Int32 × VT) :=
  (gX10_sums v2 V).bind fun V1 =>
  (rdA 7 (V1.A 154) v2).bind fun x2 =>
  (wrA V1 152 7 v2 x2).bind fun V3 =>
  (wrA V3 153 7 v2 v4).bind fun V4 =>
  (wrA V4 154 7 v2 0).bind fun V5 =>
  (wrA V5 155 7 v2 20).bind fun V6 =>
  K14 v1 v2 (v3 + 1) V6
set_option maxHeartbeats 1000000 in
theorem smX10_worked_b137 {E : VE} {n : Nat} {K14 : Int32 → Int32 → Int32 → VT → Option (Int32 × VT)} {k14 : Nat → Int32 → Int32 → Int32 → qH → Option (Int32 × qH)} {v1 : Int32} {v2 : Int32} {v3 : Int32} {v4 : Int32} {V : VT} (hK14 : ∀ (v1 : Int32)  (v2 : Int32)  (v3 : Int32)  (V : VT), k14 137 v1 v2 v3 (hpV E V) = (K14 v1 v2 v3 V).map (fun p => (p.1, hpV E p.2)))     : fX10_worked_b137 n k14 137 v1 v2 v3 v4 (hpV E V) = (gX10_worked_b137 n K14 v1 v2 v3 v4 V).map (fun p => (p.1, hpV E p.2)) := by
  unfold fX10_worked_b137 gX10_worked_b137
  refine sb_V (o' := gX10_sums v2 V) (smX10_sums) (fun V1 => ?_)
  refine sb_some (s_gR rfl rfl) ?_
  refine sb_some (s_gR rfl rfl) ?_
  refine sb_bindE (s_aI rfl) (fun x2 => ?_)
  refine sb_V (o' := wrA V1 152 7 v2 x2) (s_sI rfl) (fun V3 => ?_)
  refine sb_some (s_gR rfl rfl) ?_
  refine sb_V (o' := wrA V3 153 7 v2 v4) (s_sI rfl) (fun V4 => ?_)
  refine sb_some (s_gR rfl rfl) ?_
  refine sb_V (o' := wrA V4 154 7 v2 0) (s_sI rfl) (fun V5 => ?_)
  refine sb_some (s_gR rfl rfl) ?_
  refine sb_V (o' := wrA V5 155 7 v2 20) (s_sI rfl) (fun V6 => ?_)
  exact hK14 v1 v2 (v3 + 1) V6
def gX10_worked_b89 (n : Nat) (K14 : Int32 → Int32 → Int32 → VT → Option (Int32 × VT)) (v1 : Int32) (v2 : Int32) (v3 : Int32) (v4 : Int32) (V : VT) : Option (Int32 × VT) :=
  (gX10_sums v2 V).bind fun V1 =>
  (wrA V1 155 7 v2 v4).bind fun V2 =>
  K14 v1 v2 (v3 + 1) V2
set_option maxHeartbeats 1000000 in
theorem smX10_worked_b89 {E : VE} {n : Nat} {K14 : Int32 → Int32 → Int32 → VT → Option (Int32 × VT)} {k14 : Nat → Int32 → Int32 → Int32 → qH → Option (Int32 × qH)} {v1 : Int32} {v2 : Int32} {v3 : Int32} {v4 : Int32} {V : VT} (hK14 : ∀ (v1 : Int32)  (v2 : Int32)  (v3 : Int32)  (V : VT), k14 137 v1 v2 v3 (hpV E V) = (K14 v1 v2 v3 V).map (fun p => (p.1, hpV E p.2)))     : fX10_worked_b89 n k14 137 v1 v2 v3 v4 (hpV E V) = (gX10_worked_b89 n K14 v1 v2 v3 v4 V).map (fun p => (p.1, hpV E p.2)) := by
  unfold fX10_worked_b89 gX10_worked_b89
  refine sb_V (o' := gX10_sums v2 V) (smX10_sums) (fun V1 => ?_)
  refine sb_some (s_gR rfl rfl) ?_
  refine sb_V (o' := wrA V1 155 7 v2 v4) (s_sI rfl) (fun V2 => ?_)
  exact hK14 v1 v2 (v3 + 1) V2
def gX10_worked_b66 (n : Nat) (K14 : Int32 → Int32 → Int32 → VT → Option (Int32 × VT)) (v1 : Int32) (v2 : Int32) (v3 : Int32) (s0 : Int32) (s1 : Int32) (s2 : Nat) (ms2 : Nat) (V : VT) : Option (Int32 × VT) :=
  (wrA V s2 ms2 s1 s0).bind fun V1 =>
  (gX10_opens v2 V1).bind fun V2 =>
  K14 v1 v2 (v3 + 1) V2
set_option maxHeartbeats 1000000 in
theorem smX10_worked_b66 {E : VE} {n : Nat} {K14 : Int32 → Int32 → Int32 → VT → Option (Int32 × VT)} {k14 : Nat → Int32 → Int32 → Int32 → qH → Option (Int32 × qH)} {v1 : Int32} {v2 : Int32} {v3 : Int32} {s0 : Int32} {s1 : Int32} {s2 : Nat} {ms2 : Nat} {V : VT} (hK14 : ∀ (v1 : Int32)  (v2 : Int32)  (v3 : Int32)  (V : VT), k14 137 v1 v2 v3 (hpV E V) = (K14 v1 v2 v3 V).map (fun p => (p.1, hpV E p.2)))       (hs2 : arrAt s2 = some (.int, ms2)) : fX10_worked_b66 n k14 137 v1 v2 v3 s0 s1 s2 (hpV E V) = (gX10_worked_b66 n K14 v1 v2 v3 s0 s1 s2 ms2 V).map (fun p => (p.1, hpV E p.2)) := by
  unfold fX10_worked_b66 gX10_worked_b66
  refine sb_V (o' := wrA V s2 ms2 s1 s0) (s_sI hs2) (fun V1 => ?_)
  refine sb_V (o' := gX10_opens v2 V1) (smX10_opens) (fun V2 => ?_)
  exact hK14 v1 v2 (v3 + 1) V2
def gX10_worked_b46 (n : Nat) (K14 : Int32 → Int32 → Int32 → VT → Option (Int32 × VT)) (v1 : Int32) (v2 : Int32) (v3 : Int32) (v4 : Int32) (V : VT) : Option (Int32 × VT) :=
  if v4 = 30 then
  (gX10_worked_b66 n K14 v1 (v2 + 1) v3 1 (v2 + 1) 158 7 V)
  else
  (gX10_worked_b66 n K14 v1 (v2 + 1) v3 0 (v2 + 1) 158 7 V)
set_option maxHeartbeats 1000000 in
theorem smX10_worked_b46 {E : VE} {n : Nat} {K14 : Int32 → Int32 → Int32 → VT → Option (Int32 × VT)} {k14 : Nat → Int32 → Int32 → Int32 → qH → Option (Int32 × qH)} {v1 : Int32} {v2 : Int32} {v3 : Int32} {v4 : Int32} {V : VT} (hK14 : ∀ (v1 : Int32)  (v2 : Int32)  (v3 : Int32)  (V : VT), k14 137 v1 v2 v3 (hpV E V) = (K14 v1 v2 v3 V).map (fun p => (p.1, hpV E p.2)))     : fX10_worked_b46 n k14 137 v1 v2 v3 v4 (hpV E V) = (gX10_worked_b46 n K14 v1 v2 v3 v4 V).map (fun p => (p.1, hpV E p.2)) := by
  unfold fX10_worked_b46 gX10_worked_b46
  refine sb_some (s_gR rfl rfl) ?_
  refine sb_ite ?_ ?_
  · exact smX10_worked_b66 hK14 rfl
  · exact smX10_worked_b66 hK14 rfl
def gX10_worked_b14 (n : Nat) : Nat → Int32 → Int32 → Int32 → VT → Option (Int32 × VT)
  | 0, _, _, _, _ => none
  | w + 1, v1, v2, v3, V =>
    (rdA 2 (V.A 146) v1).bind fun x1 =>
    if x1 ≤ v3 then
    ((gX10_tests 0 V).bind fun V2 =>
    some (V2.A 150 0, V2))
    else
    ((rdA 2000 (V.A 147) v3).bind fun x4 =>
    if x4 = 28 then
    (gX10_worked_b46 n (gX10_worked_b14 n w) v1 v2 v3 x4 V)
    else
    (if x4 = 30 then
    (gX10_worked_b46 n (gX10_worked_b14 n w) v1 v2 v3 x4 V)
    else
    (if x4 = 20 then
    (gX10_worked_b89 n (gX10_worked_b14 n w) v1 v2 v3 x4 V)
    else
    (if x4 = 21 then
    (gX10_worked_b89 n (gX10_worked_b14 n w) v1 v2 v3 x4 V)
    else
    (if x4 = 22 then
    ((wrA V 157 7 v2 x4).bind fun V6 =>
    gX10_worked_b14 n w v1 v2 (v3 + 1) V6)
    else
    (if x4 = 24 then
    (gX10_worked_b137 n (gX10_worked_b14 n w) v1 v2 v3 x4 V)
    else
    (if x4 = 25 then
    (gX10_worked_b137 n (gX10_worked_b14 n w) v1 v2 v3 x4 V)
    else
    (if x4 = 26 then
    (gX10_worked_b194 n (gX10_worked_b14 n w) v1 v2 v3 x4 V)
    else
    (if x4 = 27 then
    (gX10_worked_b194 n (gX10_worked_b14 n w) v1 v2 v3 x4 V)
    else
    (if x4 < 100 then
    (if 20 ≤ x4 then
    (gX10_worked_b243 n (gX10_worked_b14 n w) v1 v2 v3 x4 0 V)
    else
    ((rdA 20 (V.A 159) x4).bind fun x5 =>
    gX10_worked_b243 n (gX10_worked_b14 n w) v1 v2 v3 x4 x5 V))
    else
    (gX10_worked_b243 n (gX10_worked_b14 n w) v1 v2 v3 x4 (x4 - 100) V)))))))))))
set_option maxHeartbeats 1000000 in
theorem smX10_worked_b14 {E : VE} {n : Nat} : ∀ (w : Nat) (v1 : Int32)  (v2 : Int32)  (v3 : Int32)  (V : VT), fX10_worked_b14 n w 137 v1 v2 v3 (hpV E V) = (gX10_worked_b14 n w v1 v2 v3 V).map (fun p => (p.1, hpV E p.2)) := by
  intro w
  induction w with
  | zero => intro v1 v2 v3 V; rfl
  | succ w ih =>
    intro v1 v2 v3 V
    unfold fX10_worked_b14 gX10_worked_b14
    refine sb_some (s_gR rfl rfl) ?_
    refine sb_bindE (s_aI rfl) (fun x1 => ?_)
    refine sb_ite ?_ ?_
    · refine sb_V (o' := gX10_tests 0 V) (smX10_tests) (fun V2 => ?_)
      refine sb_some (s_gR rfl rfl) ?_
      refine sb_some ((s_aI rfl).trans (rdA_at (k := 0) (by decide) (by decide))) ?_
      rfl
    · refine sb_some (s_gR rfl rfl) ?_
      refine sb_bindE (s_aI rfl) (fun x4 => ?_)
      refine sb_ite ?_ ?_
      · exact smX10_worked_b46 ih
      · refine sb_ite ?_ ?_
        · exact smX10_worked_b46 ih
        · refine sb_ite ?_ ?_
          · exact smX10_worked_b89 ih
          · refine sb_ite ?_ ?_
            · exact smX10_worked_b89 ih
            · refine sb_ite ?_ ?_
              · refine sb_some (s_gR rfl rfl) ?_
                refine sb_V (o' := wrA V 157 7 v2 x4) (s_sI rfl) (fun V6 => ?_)
                exact ih v1 v2 (v3 + 1) V6
              · refine sb_ite ?_ ?_
                · exact smX10_worked_b137 ih
                · refine sb_ite ?_ ?_
                  · exact smX10_worked_b137 ih
                  · refine sb_ite ?_ ?_
                    · exact smX10_worked_b194 ih
                    · refine sb_ite ?_ ?_
                      · exact smX10_worked_b194 ih
                      · refine sb_ite ?_ ?_
                        · refine sb_ite ?_ ?_
                          · exact smX10_worked_b243 ih
                          · refine sb_some (s_gR rfl rfl) ?_
                            refine sb_bindE (s_aI rfl) (fun x5 => ?_)
                            exact smX10_worked_b243 ih
                        · exact smX10_worked_b243 ih
def gX10_worked (n : Nat) (v1 : Int32) (V : VT) : Option (Int32 × VT) :=
  (gX10_opens 0 V).bind fun V1 =>
  (rdA 2 (V1.A 145) v1).bind fun x2 =>
  gX10_worked_b14 n n v1 0 x2 V1
set_option maxHeartbeats 1000000 in
theorem smX10_worked {E : VE} {n : Nat} {v1 : Int32} {V : VT}  : fX10_worked n 137 v1 (hpV E V) = (gX10_worked n v1 V).map (fun p => (p.1, hpV E p.2)) := by
  unfold fX10_worked gX10_worked
  refine sb_some (s_isO rfl) ?_
  refine sb_V (o' := gX10_opens 0 V) (smX10_opens) (fun V1 => ?_)
  refine sb_some (s_gR rfl rfl) ?_
  refine sb_bindE (s_aI rfl) (fun x2 => ?_)
  exact smX10_worked_b14 _ v1 0 x2 V1
def gX10_takenBy (n : Nat) (v1 : Int32) (v2 : Int32) (v3 : Int32) (V : VT) : Option (Int32 × VT) :=
  if (V.A 146 0) = (V.A 145 0) then
  (some (V.A 139 1, V))
  else
  ((some (wA V 159 1 v2)).bind fun V3 =>
  (some (wA V3 159 2 v3)).bind fun V4 =>
  (rdA 14 (V4.A 142) v1).bind fun x5 =>
  (some (wA V4 159 3 ((100 - x5) + (V4.A 167 0)))).bind fun V7 =>
  (some (wA V7 159 4 (V7.A 139 1))).bind fun V9 =>
  (gX10_worked n 0 V9).bind fun p10 =>
  (gX10_between p10.1 0 20 p10.2).bind fun p11 =>
  some (p11.1, p11.2))
set_option maxHeartbeats 1000000 in
theorem smX10_takenBy {E : VE} {n : Nat} {v1 : Int32} {v2 : Int32} {v3 : Int32} {V : VT}    : fX10_takenBy n 137 v1 v2 v3 (hpV E V) = (gX10_takenBy n v1 v2 v3 V).map (fun p => (p.1, hpV E p.2)) := by
  unfold fX10_takenBy gX10_takenBy
  refine sb_some (s_isO rfl) ?_
  refine sb_some (s_gR rfl rfl) ?_
  refine sb_some ((s_aI rfl).trans (rdA_at (k := 0) (by decide) (by decide))) ?_
  refine sb_some (s_gR rfl rfl) ?_
  refine sb_some ((s_aI rfl).trans (rdA_at (k := 0) (by decide) (by decide))) ?_
  refine sb_ite ?_ ?_
  · refine sb_some (s_gR rfl rfl) ?_
    refine sb_some ((s_aI rfl).trans (rdA_at (k := 1) (by decide) (by decide))) ?_
    rfl
  · refine sb_some (s_gR rfl rfl) ?_
    refine sb_V (o' := some (wA V 159 1 v2)) ((s_sI rfl).trans (congrArg _ (wrA_at (k := 1) (by decide) (by decide)))) (fun V3 => ?_)
    refine sb_some (s_gR rfl rfl) ?_
    refine sb_V (o' := some (wA V3 159 2 v3)) ((s_sI rfl).trans (congrArg _ (wrA_at (k := 2) (by decide) (by decide)))) (fun V4 => ?_)
    refine sb_some (s_gR rfl rfl) ?_
    refine sb_some (s_gR rfl rfl) ?_
    refine sb_bindE (s_aI rfl) (fun x5 => ?_)
    refine sb_some (s_gR rfl rfl) ?_
    refine sb_some ((s_aI rfl).trans (rdA_at (k := 0) (by decide) (by decide))) ?_
    refine sb_V (o' := some (wA V4 159 3 ((100 - x5) + (V4.A 167 0)))) ((s_sI rfl).trans (congrArg _ (wrA_at (k := 3) (by decide) (by decide)))) (fun V7 => ?_)
    refine sb_some (s_gR rfl rfl) ?_
    refine sb_some (s_gR rfl rfl) ?_
    refine sb_some ((s_aI rfl).trans (rdA_at (k := 1) (by decide) (by decide))) ?_
    refine sb_V (o' := some (wA V7 159 4 (V7.A 139 1))) ((s_sI rfl).trans (congrArg _ (wrA_at (k := 4) (by decide) (by decide)))) (fun V9 => ?_)
    refine sb_P (o' := gX10_worked n 0 V9) (smX10_worked) (fun p10 => ?_)
    refine sb_P (o' := gX10_between p10.1 0 20 p10.2) (smX10_between) (fun p11 => ?_)
    rfl
def gX10_wantsOf_b61 (n : Nat) (v2 : Int32) (v3 : Int32) (V : VT) : Option (Int32 × VT) :=
  if 0 < v2 then
  (some ((-1), V))
  else
  (if v3 ≤ 40 then
  (some (v3, V))
  else
  (some ((-1), V)))
set_option maxHeartbeats 1000000 in
theorem smX10_wantsOf_b61 {E : VE} {n : Nat} {v2 : Int32} {v3 : Int32} {V : VT}   : fX10_wantsOf_b61 n v2 v3 (hpV E V) = (gX10_wantsOf_b61 n v2 v3 V).map (fun p => (p.1, hpV E p.2)) := by
  unfold fX10_wantsOf_b61 gX10_wantsOf_b61
  refine sb_ite ?_ ?_
  · rfl
  · refine sb_ite ?_ ?_
    · rfl
    · rfl
def gX10_wantsOf_b11 (n : Nat) : Nat → Int32 → Int32 → Int32 → VT → Option (Int32 × VT)
  | 0, _, _, _, _ => none
  | w + 1, v1, v2, v3, V =>
    if v2 ≤ 0 then
    (gX10_wantsOf_b61 n v2 v3 V)
    else
    (if 40 < v3 then
    (gX10_wantsOf_b61 n v2 v3 V)
    else
    ((rdA 14 (V.A 141) v1).bind fun x1 =>
    if x1 = 3 then
    (gX10_wantsOf_b61 n v2 v3 V)
    else
    ((rdA 16 (V.A 167) (9 + v1)).bind fun x2 =>
    (gX10_takenBy n v1 v2 (x2 + v3) V).bind fun p3 =>
    gX10_wantsOf_b11 n w v1 (if (0 : Int32) < (v2 - p3.1) then (v2 - p3.1) else (0 : Int32)) (v3 + 1) p3.2)))
set_option maxHeartbeats 1000000 in
theorem smX10_wantsOf_b11 {E : VE} {n : Nat} : ∀ (w : Nat) (v1 : Int32)  (v2 : Int32)  (v3 : Int32)  (V : VT), fX10_wantsOf_b11 n w 137 v1 v2 v3 (hpV E V) = (gX10_wantsOf_b11 n w v1 v2 v3 V).map (fun p => (p.1, hpV E p.2)) := by
  intro w
  induction w with
  | zero => intro v1 v2 v3 V; rfl
  | succ w ih =>
    intro v1 v2 v3 V
    unfold fX10_wantsOf_b11 gX10_wantsOf_b11
    refine sb_ite ?_ ?_
    · exact smX10_wantsOf_b61
    · refine sb_ite ?_ ?_
      · exact smX10_wantsOf_b61
      · refine sb_some (s_gR rfl rfl) ?_
        refine sb_bindE (s_aI rfl) (fun x1 => ?_)
        refine sb_ite ?_ ?_
        · exact smX10_wantsOf_b61
        · refine sb_some (s_gR rfl rfl) ?_
          refine sb_bindE (s_aI rfl) (fun x2 => ?_)
          refine sb_P (o' := gX10_takenBy n v1 v2 (x2 + v3) V) (smX10_takenBy) (fun p3 => ?_)
          exact ih v1 (if (0 : Int32) < (v2 - p3.1) then (v2 - p3.1) else (0 : Int32)) (v3 + 1) p3.2
def gX10_wantsOf (n : Nat) (v1 : Int32) (V : VT) : Option (Int32 × VT) :=
  (rdA 16 (V.A 167) (2 + v1)).bind fun x1 =>
  gX10_wantsOf_b11 n n v1 x1 0 V
set_option maxHeartbeats 1000000 in
theorem smX10_wantsOf {E : VE} {n : Nat} {v1 : Int32} {V : VT}  : fX10_wantsOf n 137 v1 (hpV E V) = (gX10_wantsOf n v1 V).map (fun p => (p.1, hpV E p.2)) := by
  unfold fX10_wantsOf gX10_wantsOf
  refine sb_some (s_isO rfl) ?_
  refine sb_some (s_gR rfl rfl) ?_
  refine sb_bindE (s_aI rfl) (fun x1 => ?_)
  exact smX10_wantsOf_b11 _ v1 x1 0 V
def gX10_costOf (n : Nat) (v1 : Int32) (V : VT) : Option (Int32 × VT) :=
  (gX10_wantsOf n v1 V).bind fun p1 =>
  if 0 ≤ p1.1 then
  ((gX10_priceOf v1 p1.2).bind fun p2 =>
  some (p1.1 * p2.1, p2.2))
  else
  (some (1000000, p1.2))
set_option maxHeartbeats 1000000 in
theorem smX10_costOf {E : VE} {n : Nat} {v1 : Int32} {V : VT}  : fX10_costOf n 137 v1 (hpV E V) = (gX10_costOf n v1 V).map (fun p => (p.1, hpV E p.2)) := by
  unfold fX10_costOf gX10_costOf
  refine sb_some (s_isO rfl) ?_
  refine sb_P (o' := gX10_wantsOf n v1 V) (smX10_wantsOf) (fun p1 => ?_)
  refine sb_ite ?_ ?_
  · refine sb_P (o' := gX10_priceOf v1 p1.2) (smX10_priceOf) (fun p2 => ?_)
    rfl
  · rfl
def gX10_laysCosts_b2 (n : Nat) : Nat → Int32 → VT → Option (VT)
  | 0, _, _ => none
  | w + 1, v1, V =>
    if (V.A 139 0) ≤ v1 then
    (some V)
    else
    ((gX10_costOf n v1 V).bind fun p2 =>
    (wrA p2.2 174 7 v1 p2.1).bind fun V3 =>
    gX10_laysCosts_b2 n w (v1 + 1) V3)
set_option maxHeartbeats 1000000 in
theorem smX10_laysCosts_b2 {E : VE} {n : Nat} : ∀ (w : Nat) (v1 : Int32)  (V : VT), fX10_laysCosts_b2 n w 137 v1 (hpV E V) = (gX10_laysCosts_b2 n w v1 V).map (hpV E) := by
  intro w
  induction w with
  | zero => intro v1 V; rfl
  | succ w ih =>
    intro v1 V
    unfold fX10_laysCosts_b2 gX10_laysCosts_b2
    refine sb_some (s_gR rfl rfl) ?_
    refine sb_some ((s_aI rfl).trans (rdA_at (k := 0) (by decide) (by decide))) ?_
    refine sb_ite ?_ ?_
    · rfl
    · refine sb_some (s_gR rfl rfl) ?_
      refine sb_P (o' := gX10_costOf n v1 V) (smX10_costOf) (fun p2 => ?_)
      refine sb_V (o' := wrA p2.2 174 7 v1 p2.1) (s_sI rfl) (fun V3 => ?_)
      exact ih (v1 + 1) V3
def gX10_laysCosts (n : Nat)  (V : VT) : Option (VT) :=
  gX10_laysCosts_b2 n n 0 V
set_option maxHeartbeats 1000000 in
theorem smX10_laysCosts {E : VE} {n : Nat}  {V : VT}  : fX10_laysCosts n 137 (hpV E V) = (gX10_laysCosts n  V).map (hpV E) := by
  unfold fX10_laysCosts gX10_laysCosts
  refine sb_some (s_isO rfl) ?_
  exact smX10_laysCosts_b2 _ 0 V
def gX10_meantNow_b4 (n : Nat) : Nat → Int32 → Int32 → VT → Option (Int32 × VT)
  | 0, _, _, _ => none
  | w + 1, v1, v2, V =>
    if (V.A 139 0) ≤ v2 then
    (some (v1, V))
    else
    ((rdA 16 (V.A 167) (2 + v2)).bind fun x2 =>
    if x2 = 0 then
    (gX10_meantNow_b4 n w (v1 ||| ((1 : Int32) <<< (v2 &&& 31))) (v2 + 1) V)
    else
    (gX10_meantNow_b4 n w (v1 ||| 0) (v2 + 1) V))
set_option maxHeartbeats 1000000 in
theorem smX10_meantNow_b4 {E : VE} {n : Nat} : ∀ (w : Nat) (v1 : Int32)  (v2 : Int32)  (V : VT), fX10_meantNow_b4 n w 137 v1 v2 (hpV E V) = (gX10_meantNow_b4 n w v1 v2 V).map (fun p => (p.1, hpV E p.2)) := by
  intro w
  induction w with
  | zero => intro v1 v2 V; rfl
  | succ w ih =>
    intro v1 v2 V
    unfold fX10_meantNow_b4 gX10_meantNow_b4
    refine sb_some (s_gR rfl rfl) ?_
    refine sb_some ((s_aI rfl).trans (rdA_at (k := 0) (by decide) (by decide))) ?_
    refine sb_ite ?_ ?_
    · rfl
    · refine sb_some (s_gR rfl rfl) ?_
      refine sb_bindE (s_aI rfl) (fun x2 => ?_)
      refine sb_ite ?_ ?_
      · exact ih (v1 ||| ((1 : Int32) <<< (v2 &&& 31))) (v2 + 1) V
      · exact ih (v1 ||| 0) (v2 + 1) V
def gX10_meantNow (n : Nat)  (V : VT) : Option (Int32 × VT) :=
  gX10_meantNow_b4 n n 0 0 V
set_option maxHeartbeats 1000000 in
theorem smX10_meantNow {E : VE} {n : Nat}  {V : VT}  : fX10_meantNow n 137 (hpV E V) = (gX10_meantNow n  V).map (fun p => (p.1, hpV E p.2)) := by
  unfold fX10_meantNow gX10_meantNow
  refine sb_some (s_isO rfl) ?_
  exact smX10_meantNow_b4 _ 0 0 V
