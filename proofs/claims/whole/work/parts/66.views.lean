/-! Functions over the views, and that the functions over the abstract heap are these (written by gen2.py). -/
def gX9_bit (v0 : Int32) (v1 : Int32) (V : VT) : Option (Int32 × VT) :=
  some ((v0 >>> (v1 &&& 31)) &&& 1, V)
set_option maxHeartbeats 1000000 in
theorem smX9_bit {E : VE} {v0 : Int32} {v1 : Int32} {V : VT}   : fX9_bit v0 v1 (hpV E V) = (gX9_bit v0 v1 V).map (fun p => (p.1, hpV E p.2)) := by
  unfold fX9_bit gX9_bit
  rfl
def gX4_readLed_b67 (n : Nat)  (V : VT) : Option (VT) :=
  (gX6_fail 3 V).bind fun V1 =>
  some V1
set_option maxHeartbeats 1000000 in
theorem smX4_readLed_b67 {E : VE} {n : Nat}  {V : VT}  : fX4_readLed_b67 n 5 (hpV E V) = (gX4_readLed_b67 n  V).map (hpV E) := by
  unfold fX4_readLed_b67 gX4_readLed_b67
  refine sb_some (s_gR rfl rfl) ?_
  refine sb_V (o' := gX6_fail 3 V) (smX6_fail) (fun V1 => ?_)
  rfl
def gX4_readLed (n : Nat) (v1 : Nat) (V : VT) : Option (VT) :=
  (gX6_advance n V).bind fun V1 =>
  (gX4_matterHere n v1 V1).bind fun p2 =>
  if p2.1 = ((-1)) then
  (some p2.2)
  else
  ((gX6_advance n p2.2).bind fun V3 =>
  (gX4_matterHere n v1 V3).bind fun p4 =>
  if p4.1 = ((-1)) then
  (some p4.2)
  else
  ((rdA 7 (p4.2.A ((v1 + 3))) p4.1).bind fun x5 =>
  (rdA 7 (p4.2.A ((v1 + 3))) p2.1).bind fun x6 =>
  if x5 ≤ x6 then
  (gX4_readLed_b67 n p4.2)
  else
  ((rdA 7 (p4.2.A ((v1 + 5))) p2.1).bind fun x7 =>
  (gX9_bit x7 p4.1 p4.2).bind fun p8 =>
  if p8.1 = 1 then
  (gX4_readLed_b67 n p8.2)
  else
  ((rdA 7 (p8.2.A ((v1 + 5))) p2.1).bind fun x9 =>
  (wrA p8.2 ((v1 + 5)) 7 p2.1 (x9 ||| ((1 : Int32) <<< (p4.1 &&& 31)))).bind fun V10 =>
  (gX6_advance n V10).bind fun V11 =>
  some V11))))
set_option maxHeartbeats 1000000 in
theorem smX4_readLed {E : VE} {n : Nat} {v1 : Nat} {V : VT} (h1 : clsAt v1 = some 5) : fX4_readLed n 5 v1 (hpV E V) = (gX4_readLed n v1 V).map (hpV E) := by
  unfold fX4_readLed gX4_readLed
  refine sb_some (s_isO rfl) ?_
  refine sb_some (s_gR rfl rfl) ?_
  refine sb_V (o' := gX6_advance n V) (smX6_advance) (fun V1 => ?_)
  refine sb_P (o' := gX4_matterHere n v1 V1) (smX4_matterHere h1) (fun p2 => ?_)
  refine sb_ite ?_ ?_
  · rfl
  · refine sb_some (s_gR rfl rfl) ?_
    refine sb_V (o' := gX6_advance n p2.2) (smX6_advance) (fun V3 => ?_)
    refine sb_P (o' := gX4_matterHere n v1 V3) (smX4_matterHere h1) (fun p4 => ?_)
    refine sb_ite ?_ ?_
    · rfl
    · refine sb_some (s_gR h1 rfl) ?_
      refine sb_bindE (s_aI (ch5_3 h1)) (fun x5 => ?_)
      refine sb_some (s_gR h1 rfl) ?_
      refine sb_bindE (s_aI (ch5_3 h1)) (fun x6 => ?_)
      refine sb_ite ?_ ?_
      · exact smX4_readLed_b67
      · refine sb_some (s_gR h1 rfl) ?_
        refine sb_bindE (s_aI (ch5_5 h1)) (fun x7 => ?_)
        refine sb_P (o' := gX9_bit x7 p4.1 p4.2) (smX9_bit) (fun p8 => ?_)
        refine sb_ite ?_ ?_
        · exact smX4_readLed_b67
        · refine sb_some (s_gR h1 rfl) ?_
          refine sb_bindE (s_aI (ch5_5 h1)) (fun x9 => ?_)
          refine sb_V (o' := wrA p8.2 ((v1 + 5)) 7 p2.1 (x9 ||| ((1 : Int32) <<< (p4.1 &&& 31)))) (s_sI (ch5_5 h1)) (fun V10 => ?_)
          refine sb_some (s_gR rfl rfl) ?_
          refine sb_V (o' := gX6_advance n V10) (smX6_advance) (fun V11 => ?_)
          rfl
def gX6_keyHere  (V : VT) : Option (Int32 × VT) :=
  (gX6_isType 2 V).bind fun p1 =>
  if p1.1 = 0 then
  (some (22, p1.2))
  else
  (some (p1.2.F 3 7, p1.2))
set_option maxHeartbeats 1000000 in
theorem smX6_keyHere {E : VE}  {V : VT}  : fX6_keyHere 3 (hpV E V) = (gX6_keyHere  V).map (fun p => (p.1, hpV E p.2)) := by
  unfold fX6_keyHere gX6_keyHere
  refine sb_some (s_isO rfl) ?_
  refine sb_P (o' := gX6_isType 2 V) (smX6_isType) (fun p1 => ?_)
  refine sb_ite ?_ ?_
  · rfl
  · refine sb_some (s_gI rfl rfl) ?_
    rfl
def gX9_within (v0 : Int32) (v1 : Int32) (v2 : Int32) (V : VT) : Option (Int32 × VT) :=
  if v0 < v1 then
  (some (0, V))
  else
  (if v2 < v0 then
  (some (0, V))
  else
  (some (1, V)))
set_option maxHeartbeats 1000000 in
theorem smX9_within {E : VE} {v0 : Int32} {v1 : Int32} {v2 : Int32} {V : VT}    : fX9_within v0 v1 v2 (hpV E V) = (gX9_within v0 v1 v2 V).map (fun p => (p.1, hpV E p.2)) := by
  unfold fX9_within gX9_within
  refine sb_ite ?_ ?_
  · rfl
  · refine sb_ite ?_ ?_
    · rfl
    · rfl
def gX4_takeKind (n : Nat)  (V : VT) : Option (Int32 × VT) :=
  (gX6_keyHere V).bind fun p1 =>
  (gX9_within (p1.1 - 11) 0 3 p1.2).bind fun p2 =>
  if p2.1 = 0 then
  ((gX6_fail 1 p2.2).bind fun V4 =>
  some (0, V4))
  else
  ((gX6_advance n p2.2).bind fun V3 =>
  some (p1.1 - 11, V3))
set_option maxHeartbeats 1000000 in
theorem smX4_takeKind {E : VE} {n : Nat}  {V : VT}  : fX4_takeKind n 5 (hpV E V) = (gX4_takeKind n  V).map (fun p => (p.1, hpV E p.2)) := by
  unfold fX4_takeKind gX4_takeKind
  refine sb_some (s_isO rfl) ?_
  refine sb_some (s_gR rfl rfl) ?_
  refine sb_P (o' := gX6_keyHere V) (smX6_keyHere) (fun p1 => ?_)
  refine sb_P (o' := gX9_within (p1.1 - 11) 0 3 p1.2) (smX9_within) (fun p2 => ?_)
  refine sb_ite ?_ ?_
  · refine sb_some (s_gR rfl rfl) ?_
    refine sb_V (o' := gX6_fail 1 p2.2) (smX6_fail) (fun V4 => ?_)
    rfl
  · refine sb_some (s_gR rfl rfl) ?_
    refine sb_V (o' := gX6_advance n p2.2) (smX6_advance) (fun V3 => ?_)
    rfl
def gX4_takeNewName (n : Nat) (v1 : Nat) (V : VT) : Option (Int64 × VT) :=
  (gX6_isName V).bind fun p1 =>
  if p1.1 = 0 then
  ((gX6_fail 1 p1.2).bind fun V5 =>
  some (0, V5))
  else
  ((gX5_find n v1 (p1.2.G 3 6) p1.2).bind fun p2 =>
  if p2.1 = ((-1)) then
  ((gX6_advance n p2.2).bind fun V3 =>
  some (p1.2.G 3 6, V3))
  else
  ((gX6_fail 3 p2.2).bind fun V4 =>
  some (0, V4)))
set_option maxHeartbeats 1000000 in
theorem smX4_takeNewName {E : VE} {n : Nat} {v1 : Nat} {V : VT} (h1 : clsAt v1 = some 5) : fX4_takeNewName n 5 v1 (hpV E V) = (gX4_takeNewName n v1 V).map (fun p => (p.1, hpV E p.2)) := by
  unfold fX4_takeNewName gX4_takeNewName
  refine sb_some (s_isO rfl) ?_
  refine sb_some (s_gR rfl rfl) ?_
  refine sb_P (o' := gX6_isName V) (smX6_isName) (fun p1 => ?_)
  refine sb_ite ?_ ?_
  · refine sb_some (s_gR rfl rfl) ?_
    refine sb_V (o' := gX6_fail 1 p1.2) (smX6_fail) (fun V5 => ?_)
    rfl
  · refine sb_some (s_gR rfl rfl) ?_
    refine sb_some (s_gL rfl rfl) ?_
    refine sb_P (o' := gX5_find n v1 (p1.2.G 3 6) p1.2) (smX5_find h1) (fun p2 => ?_)
    refine sb_ite ?_ ?_
    · refine sb_some (s_gR rfl rfl) ?_
      refine sb_V (o' := gX6_advance n p2.2) (smX6_advance) (fun V3 => ?_)
      rfl
    · refine sb_some (s_gR rfl rfl) ?_
      refine sb_V (o' := gX6_fail 3 p2.2) (smX6_fail) (fun V4 => ?_)
      rfl
def gX6_isKey (v1 : Int32) (V : VT) : Option (Int32 × VT) :=
  (gX6_isType 2 V).bind fun p1 =>
  if p1.1 = 0 then
  (some (0, p1.2))
  else
  (if (p1.2.F 3 7) = v1 then
  (some (1, p1.2))
  else
  (some (0, p1.2)))
set_option maxHeartbeats 1000000 in
theorem smX6_isKey {E : VE} {v1 : Int32} {V : VT}  : fX6_isKey 3 v1 (hpV E V) = (gX6_isKey v1 V).map (fun p => (p.1, hpV E p.2)) := by
  unfold fX6_isKey gX6_isKey
  refine sb_some (s_isO rfl) ?_
  refine sb_P (o' := gX6_isType 2 V) (smX6_isType) (fun p1 => ?_)
  refine sb_ite ?_ ?_
  · rfl
  · refine sb_some (s_gI rfl rfl) ?_
    refine sb_ite ?_ ?_
    · rfl
    · rfl
def gX6_takeKey (n : Nat) (v1 : Int32) (V : VT) : Option (VT) :=
  (gX6_isKey v1 V).bind fun p1 =>
  if p1.1 = 0 then
  ((gX6_fail 1 p1.2).bind fun V2 =>
  some V2)
  else
  ((gX6_advance n p1.2).bind fun V3 =>
  some V3)
set_option maxHeartbeats 1000000 in
theorem smX6_takeKey {E : VE} {n : Nat} {v1 : Int32} {V : VT}  : fX6_takeKey n 3 v1 (hpV E V) = (gX6_takeKey n v1 V).map (hpV E) := by
  unfold fX6_takeKey gX6_takeKey
  refine sb_some (s_isO rfl) ?_
  refine sb_P (o' := gX6_isKey v1 V) (smX6_isKey) (fun p1 => ?_)
  refine sb_ite ?_ ?_
  · refine sb_V (o' := gX6_fail 1 p1.2) (smX6_fail) (fun V2 => ?_)
    rfl
  · refine sb_V (o' := gX6_advance n p1.2) (smX6_advance) (fun V3 => ?_)
    rfl
def gX6_takeNumber (n : Nat) (v1 : Int32) (v2 : Int32) (V : VT) : Option (Int32 × VT) :=
  (gX6_isType 3 V).bind fun p1 =>
  if p1.1 = 0 then
  ((gX6_fail 1 p1.2).bind fun V5 =>
  some (v1, V5))
  else
  ((gX9_within (p1.2.F 3 5) v1 v2 p1.2).bind fun p2 =>
  if p2.1 = 0 then
  ((gX6_fail 4 p2.2).bind fun V4 =>
  some (v1, V4))
  else
  ((gX6_advance n p2.2).bind fun V3 =>
  some (p1.2.F 3 5, V3)))
set_option maxHeartbeats 1000000 in
theorem smX6_takeNumber {E : VE} {n : Nat} {v1 : Int32} {v2 : Int32} {V : VT}   : fX6_takeNumber n 3 v1 v2 (hpV E V) = (gX6_takeNumber n v1 v2 V).map (fun p => (p.1, hpV E p.2)) := by
  unfold fX6_takeNumber gX6_takeNumber
  refine sb_some (s_isO rfl) ?_
  refine sb_P (o' := gX6_isType 3 V) (smX6_isType) (fun p1 => ?_)
  refine sb_ite ?_ ?_
  · refine sb_V (o' := gX6_fail 1 p1.2) (smX6_fail) (fun V5 => ?_)
    rfl
  · refine sb_some (s_gI rfl rfl) ?_
    refine sb_P (o' := gX9_within (p1.2.F 3 5) v1 v2 p1.2) (smX9_within) (fun p2 => ?_)
    refine sb_ite ?_ ?_
    · refine sb_V (o' := gX6_fail 4 p2.2) (smX6_fail) (fun V4 => ?_)
      rfl
    · refine sb_V (o' := gX6_advance n p2.2) (smX6_advance) (fun V3 => ?_)
      rfl
def gX4_readMatter (n : Nat) (v1 : Nat) (V : VT) : Option (VT) :=
  if (V.F v1 6) < 7 then
  ((gX6_advance n V).bind fun V1 =>
  (gX4_takeNewName n v1 V1).bind fun p2 =>
  (wrL p2.2 ((v1 + 1)) 7 (V.F v1 6) p2.1).bind fun V3 =>
  (gX4_takeKind n V3).bind fun p4 =>
  (wrA p4.2 ((v1 + 2)) 7 (V.F v1 6) p4.1).bind fun V5 =>
  (gX6_takeKey n 1 V5).bind fun V6 =>
  (gX6_takeNumber n 0 99 V6).bind fun p7 =>
  (wrA p7.2 ((v1 + 3)) 7 (V.F v1 6) p7.1).bind fun V8 =>
  (gX6_takeKey n 2 V8).bind fun V9 =>
  (gX6_takeNumber n 0 40 V9).bind fun p10 =>
  (wrA p10.2 ((v1 + 4)) 7 (V.F v1 6) p10.1).bind fun V11 =>
  (wrA V11 ((v1 + 5)) 7 (V.F v1 6) 0).bind fun V12 =>
  (some (wF V12 v1 6 ((V.F v1 6) + 1))).bind fun V13 =>
  some V13)
  else
  ((gX6_fail 5 V).bind fun V14 =>
  some V14)
set_option maxHeartbeats 1000000 in
theorem smX4_readMatter {E : VE} {n : Nat} {v1 : Nat} {V : VT} (h1 : clsAt v1 = some 5) : fX4_readMatter n 5 v1 (hpV E V) = (gX4_readMatter n v1 V).map (hpV E) := by
  unfold fX4_readMatter gX4_readMatter
  refine sb_some (s_isO rfl) ?_
  refine sb_some (s_gI h1 rfl) ?_
  refine sb_ite ?_ ?_
  · refine sb_some (s_gR rfl rfl) ?_
    refine sb_V (o' := gX6_advance n V) (smX6_advance) (fun V1 => ?_)
    refine sb_some (s_gR h1 rfl) ?_
    refine sb_P (o' := gX4_takeNewName n v1 V1) (smX4_takeNewName h1) (fun p2 => ?_)
    refine sb_V (o' := wrL p2.2 ((v1 + 1)) 7 (V.F v1 6) p2.1) (s_sL (ch5_1 h1)) (fun V3 => ?_)
    refine sb_some (s_gR h1 rfl) ?_
    refine sb_P (o' := gX4_takeKind n V3) (smX4_takeKind) (fun p4 => ?_)
    refine sb_V (o' := wrA p4.2 ((v1 + 2)) 7 (V.F v1 6) p4.1) (s_sI (ch5_2 h1)) (fun V5 => ?_)
    refine sb_some (s_gR rfl rfl) ?_
    refine sb_V (o' := gX6_takeKey n 1 V5) (smX6_takeKey) (fun V6 => ?_)
    refine sb_some (s_gR h1 rfl) ?_
    refine sb_some (s_gR rfl rfl) ?_
    refine sb_P (o' := gX6_takeNumber n 0 99 V6) (smX6_takeNumber) (fun p7 => ?_)
    refine sb_V (o' := wrA p7.2 ((v1 + 3)) 7 (V.F v1 6) p7.1) (s_sI (ch5_3 h1)) (fun V8 => ?_)
    refine sb_some (s_gR rfl rfl) ?_
    refine sb_V (o' := gX6_takeKey n 2 V8) (smX6_takeKey) (fun V9 => ?_)
    refine sb_some (s_gR h1 rfl) ?_
    refine sb_some (s_gR rfl rfl) ?_
    refine sb_P (o' := gX6_takeNumber n 0 40 V9) (smX6_takeNumber) (fun p10 => ?_)
    refine sb_V (o' := wrA p10.2 ((v1 + 4)) 7 (V.F v1 6) p10.1) (s_sI (ch5_4 h1)) (fun V11 => ?_)
    refine sb_some (s_gR h1 rfl) ?_
    refine sb_V (o' := wrA V11 ((v1 + 5)) 7 (V.F v1 6) 0) (s_sI (ch5_5 h1)) (fun V12 => ?_)
    refine sb_V (o' := some (wF V12 v1 6 ((V.F v1 6) + 1))) (w5_6 h1) (fun V13 => ?_)
    rfl
  · refine sb_some (s_gR rfl rfl) ?_
    refine sb_V (o' := gX6_fail 5 V) (smX6_fail) (fun V14 => ?_)
    rfl
def gX6_takeSign (n : Nat) (v1 : Int32) (V : VT) : Option (VT) :=
  (gX6_isType v1 V).bind fun p1 =>
  if p1.1 = 0 then
  ((gX6_fail 1 p1.2).bind fun V2 =>
  some V2)
  else
  ((gX6_advance n p1.2).bind fun V3 =>
  some V3)
set_option maxHeartbeats 1000000 in
theorem smX6_takeSign {E : VE} {n : Nat} {v1 : Int32} {V : VT}  : fX6_takeSign n 3 v1 (hpV E V) = (gX6_takeSign n v1 V).map (hpV E) := by
  unfold fX6_takeSign gX6_takeSign
  refine sb_some (s_isO rfl) ?_
  refine sb_P (o' := gX6_isType v1 V) (smX6_isType) (fun p1 => ?_)
  refine sb_ite ?_ ?_
  · refine sb_V (o' := gX6_fail 1 p1.2) (smX6_fail) (fun V2 => ?_)
    rfl
  · refine sb_V (o' := gX6_advance n p1.2) (smX6_advance) (fun V3 => ?_)
    rfl
def gX4_readPart_b183 (RX4_readE : Nat → Int32 → VT → Option (VT)) (RX4_readPart : Nat → Int32 → VT → Option (VT)) (n : Nat) (s0 : Int32) (s1 : Nat) (V : VT) : Option (VT) :=
  (gX1_add s1 s0 V).bind fun V1 =>
  (gX6_advance n V1).bind fun V2 =>
  some V2
set_option maxHeartbeats 1000000 in
theorem smX4_readPart_b183 {E : VE} {RX4_readE : Nat → Int32 → VT → Option (VT)} {rX4_readE : Nat → Nat → Int32 → qH → Option (qH)} {RX4_readPart : Nat → Int32 → VT → Option (VT)} {rX4_readPart : Nat → Nat → Int32 → qH → Option (qH)} {n : Nat} {s0 : Int32} {s1 : Nat} {V : VT} (hRX4_readE : ∀ {v1 : Nat} (h1 : clsAt v1 = some 1) {v2 : Int32} {V : VT}, rX4_readE 5 v1 v2 (hpV E V) = (RX4_readE v1 v2 V).map (hpV E)) (hRX4_readPart : ∀ {v1 : Nat} (h1 : clsAt v1 = some 1) {v2 : Int32} {V : VT}, rX4_readPart 5 v1 v2 (hpV E V) = (RX4_readPart v1 v2 V).map (hpV E))  (hs1 : clsAt s1 = some 1) : fX4_readPart_b183 rX4_readE rX4_readPart n 5 s0 s1 (hpV E V) = (gX4_readPart_b183 RX4_readE RX4_readPart n s0 s1 V).map (hpV E) := by
  unfold fX4_readPart_b183 gX4_readPart_b183
  refine sb_V (o' := gX1_add s1 s0 V) (smX1_add hs1) (fun V1 => ?_)
  refine sb_some (s_gR rfl rfl) ?_
  refine sb_V (o' := gX6_advance n V1) (smX6_advance) (fun V2 => ?_)
  rfl
def gX4_readPart_b65 (RX4_readE : Nat → Int32 → VT → Option (VT)) (RX4_readPart : Nat → Int32 → VT → Option (VT)) (n : Nat) (v1 : Nat) (v2 : Int32) (v3 : Int32) (V : VT) : Option (VT) :=
  if v2 < 5 then
  ((gX6_isType 40 V).bind fun p1 =>
  if p1.1 = 0 then
  ((gX6_isKey 15 p1.2).bind fun p2 =>
  if p2.1 = 0 then
  (if v3 = 0 then
  (gX4_readPart_b183 RX4_readE RX4_readPart n (p2.2.F 3 5) v1 p2.2)
  else
  (gX4_readPart_b183 RX4_readE RX4_readPart n (10000 + (p2.2.F 3 7)) v1 p2.2))
  else
  ((gX6_advance n p2.2).bind fun V3 =>
  (RX4_readPart v1 (v2 + 1) V3).bind fun V4 =>
  (gX1_add v1 10015 V4).bind fun V5 =>
  some V5))
  else
  ((gX6_advance n p1.2).bind fun V6 =>
  (RX4_readE v1 (v2 + 1) V6).bind fun V7 =>
  (gX6_takeSign n 41 V7).bind fun V8 =>
  some V8))
  else
  ((gX6_fail 5 V).bind fun V9 =>
  some V9)
set_option maxHeartbeats 1000000 in
theorem smX4_readPart_b65 {E : VE} {RX4_readE : Nat → Int32 → VT → Option (VT)} {rX4_readE : Nat → Nat → Int32 → qH → Option (qH)} {RX4_readPart : Nat → Int32 → VT → Option (VT)} {rX4_readPart : Nat → Nat → Int32 → qH → Option (qH)} {n : Nat} {v1 : Nat} {v2 : Int32} {v3 : Int32} {V : VT} (hRX4_readE : ∀ {v1 : Nat} (h1 : clsAt v1 = some 1) {v2 : Int32} {V : VT}, rX4_readE 5 v1 v2 (hpV E V) = (RX4_readE v1 v2 V).map (hpV E)) (hRX4_readPart : ∀ {v1 : Nat} (h1 : clsAt v1 = some 1) {v2 : Int32} {V : VT}, rX4_readPart 5 v1 v2 (hpV E V) = (RX4_readPart v1 v2 V).map (hpV E)) (hv1 : clsAt v1 = some 1)   : fX4_readPart_b65 rX4_readE rX4_readPart n 5 v1 v2 v3 (hpV E V) = (gX4_readPart_b65 RX4_readE RX4_readPart n v1 v2 v3 V).map (hpV E) := by
  unfold fX4_readPart_b65 gX4_readPart_b65
  refine sb_ite ?_ ?_
  · refine sb_some (s_gR rfl rfl) ?_
    refine sb_P (o' := gX6_isType 40 V) (smX6_isType) (fun p1 => ?_)
    refine sb_ite ?_ ?_
    · refine sb_some (s_gR rfl rfl) ?_
      refine sb_P (o' := gX6_isKey 15 p1.2) (smX6_isKey) (fun p2 => ?_)
      refine sb_ite ?_ ?_
      · refine sb_ite ?_ ?_
        · refine sb_some (s_gR rfl rfl) ?_
          refine sb_some (s_gI rfl rfl) ?_
          exact smX4_readPart_b183 hRX4_readE hRX4_readPart hv1
        · refine sb_some (s_gR rfl rfl) ?_
          refine sb_some (s_gI rfl rfl) ?_
          exact smX4_readPart_b183 hRX4_readE hRX4_readPart hv1
      · refine sb_some (s_gR rfl rfl) ?_
        refine sb_V (o' := gX6_advance n p2.2) (smX6_advance) (fun V3 => ?_)
        refine sb_V (o' := RX4_readPart v1 (v2 + 1) V3) (hRX4_readPart hv1) (fun V4 => ?_)
        refine sb_V (o' := gX1_add v1 10015 V4) (smX1_add hv1) (fun V5 => ?_)
        rfl
    · refine sb_some (s_gR rfl rfl) ?_
      refine sb_V (o' := gX6_advance n p1.2) (smX6_advance) (fun V6 => ?_)
      refine sb_V (o' := RX4_readE v1 (v2 + 1) V6) (hRX4_readE hv1) (fun V7 => ?_)
      refine sb_some (s_gR rfl rfl) ?_
      refine sb_V (o' := gX6_takeSign n 41 V7) (smX6_takeSign) (fun V8 => ?_)
      rfl
  · refine sb_some (s_gR rfl rfl) ?_
    refine sb_V (o' := gX6_fail 5 V) (smX6_fail) (fun V9 => ?_)
    rfl
def gX4_readPart_g (RX4_readE : Nat → Int32 → VT → Option (VT)) (RX4_readPart : Nat → Int32 → VT → Option (VT)) (n : Nat) (v1 : Nat) (v2 : Int32) (V : VT) : Option (VT) :=
  (gX6_keyHere V).bind fun p1 =>
  (gX9_within p1.1 18 21 p1.2).bind fun p2 =>
  if p2.1 = 0 then
  ((gX6_isType 3 p2.2).bind fun p3 =>
  if p3.1 = 0 then
  ((gX6_isKey 15 p3.2).bind fun p4 =>
  if p4.1 = 0 then
  ((gX6_isType 40 p4.2).bind fun p5 =>
  if p5.1 = 0 then
  ((gX6_fail 1 p5.2).bind fun V6 =>
  some V6)
  else
  (gX4_readPart_b65 RX4_readE RX4_readPart n v1 v2 p2.1 p5.2))
  else
  (gX4_readPart_b65 RX4_readE RX4_readPart n v1 v2 p2.1 p4.2))
  else
  (gX4_readPart_b65 RX4_readE RX4_readPart n v1 v2 p2.1 p3.2))
  else
  (gX4_readPart_b65 RX4_readE RX4_readPart n v1 v2 p2.1 p2.2)
set_option maxHeartbeats 1000000 in
theorem smX4_readPart_g {E : VE} {RX4_readE : Nat → Int32 → VT → Option (VT)} {rX4_readE : Nat → Nat → Int32 → qH → Option (qH)} {RX4_readPart : Nat → Int32 → VT → Option (VT)} {rX4_readPart : Nat → Nat → Int32 → qH → Option (qH)} {n : Nat} {v1 : Nat} {v2 : Int32} {V : VT} (hRX4_readE : ∀ {v1 : Nat} (h1 : clsAt v1 = some 1) {v2 : Int32} {V : VT}, rX4_readE 5 v1 v2 (hpV E V) = (RX4_readE v1 v2 V).map (hpV E)) (hRX4_readPart : ∀ {v1 : Nat} (h1 : clsAt v1 = some 1) {v2 : Int32} {V : VT}, rX4_readPart 5 v1 v2 (hpV E V) = (RX4_readPart v1 v2 V).map (hpV E)) (h1 : clsAt v1 = some 1)  : fX4_readPart_g rX4_readE rX4_readPart n 5 v1 v2 (hpV E V) = (gX4_readPart_g RX4_readE RX4_readPart n v1 v2 V).map (hpV E) := by
  unfold fX4_readPart_g gX4_readPart_g
  refine sb_some (s_isO rfl) ?_
  refine sb_some (s_gR rfl rfl) ?_
  refine sb_P (o' := gX6_keyHere V) (smX6_keyHere) (fun p1 => ?_)
  refine sb_P (o' := gX9_within p1.1 18 21 p1.2) (smX9_within) (fun p2 => ?_)
  refine sb_ite ?_ ?_
  · refine sb_some (s_gR rfl rfl) ?_
    refine sb_P (o' := gX6_isType 3 p2.2) (smX6_isType) (fun p3 => ?_)
    refine sb_ite ?_ ?_
    · refine sb_some (s_gR rfl rfl) ?_
      refine sb_P (o' := gX6_isKey 15 p3.2) (smX6_isKey) (fun p4 => ?_)
      refine sb_ite ?_ ?_
      · refine sb_some (s_gR rfl rfl) ?_
        refine sb_P (o' := gX6_isType 40 p4.2) (smX6_isType) (fun p5 => ?_)
        refine sb_ite ?_ ?_
        · refine sb_some (s_gR rfl rfl) ?_
          refine sb_V (o' := gX6_fail 1 p5.2) (smX6_fail) (fun V6 => ?_)
          rfl
        · exact smX4_readPart_b65 hRX4_readE hRX4_readPart h1
      · exact smX4_readPart_b65 hRX4_readE hRX4_readPart h1
    · exact smX4_readPart_b65 hRX4_readE hRX4_readPart h1
  · exact smX4_readPart_b65 hRX4_readE hRX4_readPart h1
def gX4_readProduct_b8 (RX4_readPart : Nat → Int32 → VT → Option (VT)) (n : Nat) : Nat → Nat → Int32 → Int32 → VT → Option (VT)
  | 0, _, _, _, _ => none
  | w + 1, v1, v2, v3, V =>
    if 1000 ≤ v3 then
    (some V)
    else
    ((gX6_isType 42 V).bind fun p1 =>
    if p1.1 = 0 then
    (some p1.2)
    else
    ((gX6_advance n p1.2).bind fun V2 =>
    (RX4_readPart v1 v2 V2).bind fun V3 =>
    (gX1_add v1 10042 V3).bind fun V4 =>
    gX4_readProduct_b8 RX4_readPart n w v1 v2 (v3 + 1) V4))
set_option maxHeartbeats 1000000 in
theorem smX4_readProduct_b8 {E : VE} {RX4_readPart : Nat → Int32 → VT → Option (VT)} {rX4_readPart : Nat → Nat → Int32 → qH → Option (qH)} {n : Nat} (hRX4_readPart : ∀ {v1 : Nat} (h1 : clsAt v1 = some 1) {v2 : Int32} {V : VT}, rX4_readPart 5 v1 v2 (hpV E V) = (RX4_readPart v1 v2 V).map (hpV E)) : ∀ (w : Nat) (v1 : Nat) (hv1 : clsAt v1 = some 1) (v2 : Int32)  (v3 : Int32)  (V : VT), fX4_readProduct_b8 rX4_readPart n w 5 v1 v2 v3 (hpV E V) = (gX4_readProduct_b8 RX4_readPart n w v1 v2 v3 V).map (hpV E) := by
  intro w
  induction w with
  | zero => intro v1 hv1 v2 v3 V; rfl
  | succ w ih =>
    intro v1 hv1 v2 v3 V
    unfold fX4_readProduct_b8 gX4_readProduct_b8
    refine sb_ite ?_ ?_
    · rfl
    · refine sb_some (s_gR rfl rfl) ?_
      refine sb_P (o' := gX6_isType 42 V) (smX6_isType) (fun p1 => ?_)
      refine sb_ite ?_ ?_
      · rfl
      · refine sb_some (s_gR rfl rfl) ?_
        refine sb_V (o' := gX6_advance n p1.2) (smX6_advance) (fun V2 => ?_)
        refine sb_V (o' := RX4_readPart v1 v2 V2) (hRX4_readPart hv1) (fun V3 => ?_)
        refine sb_V (o' := gX1_add v1 10042 V3) (smX1_add hv1) (fun V4 => ?_)
        exact ih v1 hv1 v2 (v3 + 1) V4
def gX4_readProduct_g (RX4_readPart : Nat → Int32 → VT → Option (VT)) (n : Nat) (v1 : Nat) (v2 : Int32) (V : VT) : Option (VT) :=
  (RX4_readPart v1 v2 V).bind fun V1 =>
  gX4_readProduct_b8 RX4_readPart n n v1 v2 0 V1
set_option maxHeartbeats 1000000 in
theorem smX4_readProduct_g {E : VE} {RX4_readPart : Nat → Int32 → VT → Option (VT)} {rX4_readPart : Nat → Nat → Int32 → qH → Option (qH)} {n : Nat} {v1 : Nat} {v2 : Int32} {V : VT} (hRX4_readPart : ∀ {v1 : Nat} (h1 : clsAt v1 = some 1) {v2 : Int32} {V : VT}, rX4_readPart 5 v1 v2 (hpV E V) = (RX4_readPart v1 v2 V).map (hpV E)) (h1 : clsAt v1 = some 1)  : fX4_readProduct_g rX4_readPart n 5 v1 v2 (hpV E V) = (gX4_readProduct_g RX4_readPart n v1 v2 V).map (hpV E) := by
  unfold fX4_readProduct_g gX4_readProduct_g
  refine sb_some (s_isO rfl) ?_
  refine sb_V (o' := RX4_readPart v1 v2 V) (hRX4_readPart h1) (fun V1 => ?_)
  exact smX4_readProduct_b8 hRX4_readPart _ v1 h1 v2 0 V1
def gX4_readSum_b39 (RX4_readProduct : Nat → Int32 → VT → Option (VT)) (n : Nat) (K8 : Nat → Int32 → Int32 → VT → Option (VT)) (v1 : Nat) (v2 : Int32) (v3 : Int32) (V : VT) : Option (VT) :=
  (gX6_advance n V).bind fun V1 =>
  (RX4_readProduct v1 v2 V1).bind fun V2 =>
  (gX1_add v1 (10000 + (V.F 3 4)) V2).bind fun V3 =>
  K8 v1 v2 (v3 + 1) V3
set_option maxHeartbeats 1000000 in
theorem smX4_readSum_b39 {E : VE} {RX4_readProduct : Nat → Int32 → VT → Option (VT)} {rX4_readProduct : Nat → Nat → Int32 → qH → Option (qH)} {n : Nat} {K8 : Nat → Int32 → Int32 → VT → Option (VT)} {k8 : Nat → Nat → Int32 → Int32 → qH → Option (qH)} {v1 : Nat} {v2 : Int32} {v3 : Int32} {V : VT} (hRX4_readProduct : ∀ {v1 : Nat} (h1 : clsAt v1 = some 1) {v2 : Int32} {V : VT}, rX4_readProduct 5 v1 v2 (hpV E V) = (RX4_readProduct v1 v2 V).map (hpV E)) (hK8 : ∀ (v1 : Nat) (hv1 : clsAt v1 = some 1) (v2 : Int32)  (v3 : Int32)  (V : VT), k8 5 v1 v2 v3 (hpV E V) = (K8 v1 v2 v3 V).map (hpV E)) (hv1 : clsAt v1 = some 1)   : fX4_readSum_b39 rX4_readProduct n k8 5 v1 v2 v3 (hpV E V) = (gX4_readSum_b39 RX4_readProduct n K8 v1 v2 v3 V).map (hpV E) := by
  unfold fX4_readSum_b39 gX4_readSum_b39
  refine sb_some (s_gR rfl rfl) ?_
  refine sb_some (s_gI rfl rfl) ?_
  refine sb_some (s_gR rfl rfl) ?_
  refine sb_V (o' := gX6_advance n V) (smX6_advance) (fun V1 => ?_)
  refine sb_V (o' := RX4_readProduct v1 v2 V1) (hRX4_readProduct hv1) (fun V2 => ?_)
  refine sb_V (o' := gX1_add v1 (10000 + (V.F 3 4)) V2) (smX1_add hv1) (fun V3 => ?_)
  exact hK8 v1 hv1 v2 (v3 + 1) V3
def gX4_readSum_b8 (RX4_readProduct : Nat → Int32 → VT → Option (VT)) (n : Nat) : Nat → Nat → Int32 → Int32 → VT → Option (VT)
  | 0, _, _, _, _ => none
  | w + 1, v1, v2, v3, V =>
    if 1000 ≤ v3 then
    (some V)
    else
    ((gX6_isType 43 V).bind fun p1 =>
    if p1.1 = 0 then
    ((gX6_isType 45 p1.2).bind fun p2 =>
    if p2.1 = 0 then
    (some p2.2)
    else
    (gX4_readSum_b39 RX4_readProduct n (gX4_readSum_b8 RX4_readProduct n w) v1 v2 v3 p2.2))
    else
    (gX4_readSum_b39 RX4_readProduct n (gX4_readSum_b8 RX4_readProduct n w) v1 v2 v3 p1.2))
set_option maxHeartbeats 1000000 in
theorem smX4_readSum_b8 {E : VE} {RX4_readProduct : Nat → Int32 → VT → Option (VT)} {rX4_readProduct : Nat → Nat → Int32 → qH → Option (qH)} {n : Nat} (hRX4_readProduct : ∀ {v1 : Nat} (h1 : clsAt v1 = some 1) {v2 : Int32} {V : VT}, rX4_readProduct 5 v1 v2 (hpV E V) = (RX4_readProduct v1 v2 V).map (hpV E)) : ∀ (w : Nat) (v1 : Nat) (hv1 : clsAt v1 = some 1) (v2 : Int32)  (v3 : Int32)  (V : VT), fX4_readSum_b8 rX4_readProduct n w 5 v1 v2 v3 (hpV E V) = (gX4_readSum_b8 RX4_readProduct n w v1 v2 v3 V).map (hpV E) := by
  intro w
  induction w with
  | zero => intro v1 hv1 v2 v3 V; rfl
  | succ w ih =>
    intro v1 hv1 v2 v3 V
    unfold fX4_readSum_b8 gX4_readSum_b8
    refine sb_ite ?_ ?_
    · rfl
    · refine sb_some (s_gR rfl rfl) ?_
      refine sb_P (o' := gX6_isType 43 V) (smX6_isType) (fun p1 => ?_)
      refine sb_ite ?_ ?_
      · refine sb_some (s_gR rfl rfl) ?_
        refine sb_P (o' := gX6_isType 45 p1.2) (smX6_isType) (fun p2 => ?_)
        refine sb_ite ?_ ?_
        · rfl
        · exact smX4_readSum_b39 hRX4_readProduct ih hv1
      · exact smX4_readSum_b39 hRX4_readProduct ih hv1
def gX4_readSum_g (RX4_readProduct : Nat → Int32 → VT → Option (VT)) (n : Nat) (v1 : Nat) (v2 : Int32) (V : VT) : Option (VT) :=
  (RX4_readProduct v1 v2 V).bind fun V1 =>
  gX4_readSum_b8 RX4_readProduct n n v1 v2 0 V1
set_option maxHeartbeats 1000000 in
theorem smX4_readSum_g {E : VE} {RX4_readProduct : Nat → Int32 → VT → Option (VT)} {rX4_readProduct : Nat → Nat → Int32 → qH → Option (qH)} {n : Nat} {v1 : Nat} {v2 : Int32} {V : VT} (hRX4_readProduct : ∀ {v1 : Nat} (h1 : clsAt v1 = some 1) {v2 : Int32} {V : VT}, rX4_readProduct 5 v1 v2 (hpV E V) = (RX4_readProduct v1 v2 V).map (hpV E)) (h1 : clsAt v1 = some 1)  : fX4_readSum_g rX4_readProduct n 5 v1 v2 (hpV E V) = (gX4_readSum_g RX4_readProduct n v1 v2 V).map (hpV E) := by
  unfold fX4_readSum_g gX4_readSum_g
  refine sb_some (s_isO rfl) ?_
  refine sb_V (o' := RX4_readProduct v1 v2 V) (hRX4_readProduct h1) (fun V1 => ?_)
  exact smX4_readSum_b8 hRX4_readProduct _ v1 h1 v2 0 V1
def gX4_readTest_b30 (RX4_readSum : Nat → Int32 → VT → Option (VT)) (n : Nat) (v1 : Nat) (v2 : Int32) (V : VT) : Option (VT) :=
  (gX6_advance n V).bind fun V1 =>
  (RX4_readSum v1 v2 V1).bind fun V2 =>
  (gX1_add v1 (10000 + (V.F 3 4)) V2).bind fun V3 =>
  some V3
set_option maxHeartbeats 1000000 in
theorem smX4_readTest_b30 {E : VE} {RX4_readSum : Nat → Int32 → VT → Option (VT)} {rX4_readSum : Nat → Nat → Int32 → qH → Option (qH)} {n : Nat} {v1 : Nat} {v2 : Int32} {V : VT} (hRX4_readSum : ∀ {v1 : Nat} (h1 : clsAt v1 = some 1) {v2 : Int32} {V : VT}, rX4_readSum 5 v1 v2 (hpV E V) = (RX4_readSum v1 v2 V).map (hpV E)) (hv1 : clsAt v1 = some 1)  : fX4_readTest_b30 rX4_readSum n 5 v1 v2 (hpV E V) = (gX4_readTest_b30 RX4_readSum n v1 v2 V).map (hpV E) := by
  unfold fX4_readTest_b30 gX4_readTest_b30
  refine sb_some (s_gR rfl rfl) ?_
  refine sb_some (s_gI rfl rfl) ?_
  refine sb_some (s_gR rfl rfl) ?_
  refine sb_V (o' := gX6_advance n V) (smX6_advance) (fun V1 => ?_)
  refine sb_V (o' := RX4_readSum v1 v2 V1) (hRX4_readSum hv1) (fun V2 => ?_)
  refine sb_V (o' := gX1_add v1 (10000 + (V.F 3 4)) V2) (smX1_add hv1) (fun V3 => ?_)
  rfl
def gX4_readTest_g (RX4_readSum : Nat → Int32 → VT → Option (VT)) (n : Nat) (v1 : Nat) (v2 : Int32) (V : VT) : Option (VT) :=
  (RX4_readSum v1 v2 V).bind fun V1 =>
  (gX6_isType 60 V1).bind fun p2 =>
  if p2.1 = 0 then
  ((gX6_isType 61 p2.2).bind fun p3 =>
  if p3.1 = 0 then
  (some p3.2)
  else
  (gX4_readTest_b30 RX4_readSum n v1 v2 p3.2))
  else
  (gX4_readTest_b30 RX4_readSum n v1 v2 p2.2)
set_option maxHeartbeats 1000000 in
theorem smX4_readTest_g {E : VE} {RX4_readSum : Nat → Int32 → VT → Option (VT)} {rX4_readSum : Nat → Nat → Int32 → qH → Option (qH)} {n : Nat} {v1 : Nat} {v2 : Int32} {V : VT} (hRX4_readSum : ∀ {v1 : Nat} (h1 : clsAt v1 = some 1) {v2 : Int32} {V : VT}, rX4_readSum 5 v1 v2 (hpV E V) = (RX4_readSum v1 v2 V).map (hpV E)) (h1 : clsAt v1 = some 1)  : fX4_readTest_g rX4_readSum n 5 v1 v2 (hpV E V) = (gX4_readTest_g RX4_readSum n v1 v2 V).map (hpV E) := by
  unfold fX4_readTest_g gX4_readTest_g
  refine sb_some (s_isO rfl) ?_
  refine sb_V (o' := RX4_readSum v1 v2 V) (hRX4_readSum h1) (fun V1 => ?_)
  refine sb_some (s_gR rfl rfl) ?_
  refine sb_P (o' := gX6_isType 60 V1) (smX6_isType) (fun p2 => ?_)
  refine sb_ite ?_ ?_
  · refine sb_some (s_gR rfl rfl) ?_
    refine sb_P (o' := gX6_isType 61 p2.2) (smX6_isType) (fun p3 => ?_)
    refine sb_ite ?_ ?_
    · rfl
    · exact smX4_readTest_b30 hRX4_readSum h1
  · exact smX4_readTest_b30 hRX4_readSum h1
def gX4_readE_b39 (RX4_readTest : Nat → Int32 → VT → Option (VT)) (n : Nat) (K8 : Nat → Int32 → Int32 → VT → Option (VT)) (v1 : Nat) (v2 : Int32) (v3 : Int32) (V : VT) : Option (VT) :=
  (gX6_advance n V).bind fun V1 =>
  (RX4_readTest v1 v2 V1).bind fun V2 =>
  (gX1_add v1 (10000 + (V.F 3 7)) V2).bind fun V3 =>
  K8 v1 v2 (v3 + 1) V3
set_option maxHeartbeats 1000000 in
theorem smX4_readE_b39 {E : VE} {RX4_readTest : Nat → Int32 → VT → Option (VT)} {rX4_readTest : Nat → Nat → Int32 → qH → Option (qH)} {n : Nat} {K8 : Nat → Int32 → Int32 → VT → Option (VT)} {k8 : Nat → Nat → Int32 → Int32 → qH → Option (qH)} {v1 : Nat} {v2 : Int32} {v3 : Int32} {V : VT} (hRX4_readTest : ∀ {v1 : Nat} (h1 : clsAt v1 = some 1) {v2 : Int32} {V : VT}, rX4_readTest 5 v1 v2 (hpV E V) = (RX4_readTest v1 v2 V).map (hpV E)) (hK8 : ∀ (v1 : Nat) (hv1 : clsAt v1 = some 1) (v2 : Int32)  (v3 : Int32)  (V : VT), k8 5 v1 v2 v3 (hpV E V) = (K8 v1 v2 v3 V).map (hpV E)) (hv1 : clsAt v1 = some 1)   : fX4_readE_b39 rX4_readTest n k8 5 v1 v2 v3 (hpV E V) = (gX4_readE_b39 RX4_readTest n K8 v1 v2 v3 V).map (hpV E) := by
  unfold fX4_readE_b39 gX4_readE_b39
  refine sb_some (s_gR rfl rfl) ?_
  refine sb_some (s_gI rfl rfl) ?_
  refine sb_some (s_gR rfl rfl) ?_
  refine sb_V (o' := gX6_advance n V) (smX6_advance) (fun V1 => ?_)
  refine sb_V (o' := RX4_readTest v1 v2 V1) (hRX4_readTest hv1) (fun V2 => ?_)
  refine sb_V (o' := gX1_add v1 (10000 + (V.F 3 7)) V2) (smX1_add hv1) (fun V3 => ?_)
  exact hK8 v1 hv1 v2 (v3 + 1) V3
def gX4_readE_b8 (RX4_readTest : Nat → Int32 → VT → Option (VT)) (n : Nat) : Nat → Nat → Int32 → Int32 → VT → Option (VT)
  | 0, _, _, _, _ => none
  | w + 1, v1, v2, v3, V =>
    if 1000 ≤ v3 then
    (some V)
    else
    ((gX6_isKey 16 V).bind fun p1 =>
    if p1.1 = 0 then
    ((gX6_isKey 17 p1.2).bind fun p2 =>
    if p2.1 = 0 then
    (some p2.2)
    else
    (gX4_readE_b39 RX4_readTest n (gX4_readE_b8 RX4_readTest n w) v1 v2 v3 p2.2))
    else
    (gX4_readE_b39 RX4_readTest n (gX4_readE_b8 RX4_readTest n w) v1 v2 v3 p1.2))
set_option maxHeartbeats 1000000 in
theorem smX4_readE_b8 {E : VE} {RX4_readTest : Nat → Int32 → VT → Option (VT)} {rX4_readTest : Nat → Nat → Int32 → qH → Option (qH)} {n : Nat} (hRX4_readTest : ∀ {v1 : Nat} (h1 : clsAt v1 = some 1) {v2 : Int32} {V : VT}, rX4_readTest 5 v1 v2 (hpV E V) = (RX4_readTest v1 v2 V).map (hpV E)) : ∀ (w : Nat) (v1 : Nat) (hv1 : clsAt v1 = some 1) (v2 : Int32)  (v3 : Int32)  (V : VT), fX4_readE_b8 rX4_readTest n w 5 v1 v2 v3 (hpV E V) = (gX4_readE_b8 RX4_readTest n w v1 v2 v3 V).map (hpV E) := by
  intro w
  induction w with
  | zero => intro v1 hv1 v2 v3 V; rfl
  | succ w ih =>
    intro v1 hv1 v2 v3 V
    unfold fX4_readE_b8 gX4_readE_b8
    refine sb_ite ?_ ?_
    · rfl
    · refine sb_some (s_gR rfl rfl) ?_
      refine sb_P (o' := gX6_isKey 16 V) (smX6_isKey) (fun p1 => ?_)
      refine sb_ite ?_ ?_
      · refine sb_some (s_gR rfl rfl) ?_
        refine sb_P (o' := gX6_isKey 17 p1.2) (smX6_isKey) (fun p2 => ?_)
        refine sb_ite ?_ ?_
        · rfl
        · exact smX4_readE_b39 hRX4_readTest ih hv1
      · exact smX4_readE_b39 hRX4_readTest ih hv1
def gX4_readE_g (RX4_readTest : Nat → Int32 → VT → Option (VT)) (n : Nat) (v1 : Nat) (v2 : Int32) (V : VT) : Option (VT) :=
  (RX4_readTest v1 v2 V).bind fun V1 =>
  gX4_readE_b8 RX4_readTest n n v1 v2 0 V1
set_option maxHeartbeats 1000000 in
theorem smX4_readE_g {E : VE} {RX4_readTest : Nat → Int32 → VT → Option (VT)} {rX4_readTest : Nat → Nat → Int32 → qH → Option (qH)} {n : Nat} {v1 : Nat} {v2 : Int32} {V : VT} (hRX4_readTest : ∀ {v1 : Nat} (h1 : clsAt v1 = some 1) {v2 : Int32} {V : VT}, rX4_readTest 5 v1 v2 (hpV E V) = (RX4_readTest v1 v2 V).map (hpV E)) (h1 : clsAt v1 = some 1)  : fX4_readE_g rX4_readTest n 5 v1 v2 (hpV E V) = (gX4_readE_g RX4_readTest n v1 v2 V).map (hpV E) := by
  unfold fX4_readE_g gX4_readE_g
  refine sb_some (s_isO rfl) ?_
  refine sb_V (o' := RX4_readTest v1 v2 V) (hRX4_readTest h1) (fun V1 => ?_)
  exact smX4_readE_b8 hRX4_readTest _ v1 h1 v2 0 V1
def gX4_prod (P : Nat → Int32 → VT → Option VT) (n : Nat) : Nat → Int32 → VT → Option VT := gX4_readProduct_g P n
def gX4_sum (P : Nat → Int32 → VT → Option VT) (n : Nat) : Nat → Int32 → VT → Option VT := gX4_readSum_g (gX4_prod P n) n
def gX4_test (P : Nat → Int32 → VT → Option VT) (n : Nat) : Nat → Int32 → VT → Option VT := gX4_readTest_g (gX4_sum P n) n
def gX4_e (P : Nat → Int32 → VT → Option VT) (n : Nat) : Nat → Int32 → VT → Option VT := gX4_readE_g (gX4_test P n) n
def gX4_part (n : Nat) : Nat → Nat → Int32 → VT → Option VT
  | 0, _, _, _ => none
  | k + 1, v1, v2, V => gX4_readPart_g (gX4_e (gX4_part n k) n) (gX4_part n k) n v1 v2 V
theorem smX4_chain {E : VE} {n : Nat} {P : Nat → Int32 → VT → Option VT} {p : Nat → Nat → Int32 → qH → Option qH} (hP : (∀ {v1 : Nat} (h1 : clsAt v1 = some 1) {v2 : Int32} {V : VT}, p 5 v1 v2 (hpV E V) = (P v1 v2 V).map (hpV E))) : (∀ {v1 : Nat} (h1 : clsAt v1 = some 1) {v2 : Int32} {V : VT}, fX4_e p n 5 v1 v2 (hpV E V) = (gX4_e P n v1 v2 V).map (hpV E)) := by
  have h1 : (∀ {v1 : Nat} (h1 : clsAt v1 = some 1) {v2 : Int32} {V : VT}, fX4_prod p n 5 v1 v2 (hpV E V) = (gX4_prod P n v1 v2 V).map (hpV E)) := fun h1 => smX4_readProduct_g hP h1
  have h2 : (∀ {v1 : Nat} (h1 : clsAt v1 = some 1) {v2 : Int32} {V : VT}, fX4_sum p n 5 v1 v2 (hpV E V) = (gX4_sum P n v1 v2 V).map (hpV E)) := fun h => smX4_readSum_g h1 h
  have h3 : (∀ {v1 : Nat} (h1 : clsAt v1 = some 1) {v2 : Int32} {V : VT}, fX4_test p n 5 v1 v2 (hpV E V) = (gX4_test P n v1 v2 V).map (hpV E)) := fun h => smX4_readTest_g h2 h
  intro v1 hc v2 V
  exact smX4_readE_g h3 hc
theorem smX4_part {E : VE} {n : Nat} : ∀ k : Nat, (∀ {v1 : Nat} (h1 : clsAt v1 = some 1) {v2 : Int32} {V : VT}, fX4_part n k 5 v1 v2 (hpV E V) = (gX4_part n k v1 v2 V).map (hpV E)) := by
  intro k
  induction k with
  | zero => intro v1 h1 v2 V; rfl
  | succ k ih =>
    intro v1 h1 v2 V
    unfold fX4_part gX4_part
    exact smX4_readPart_g (smX4_chain ih) ih h1
def gX4_readE (n : Nat) : Nat → Int32 → VT → Option VT := gX4_e (gX4_part n 7) n
theorem smX4_readE {E : VE} {n : Nat} {v1 : Nat} {v2 : Int32} {V : VT} (h1 : clsAt v1 = some 1) : fX4_readE n 5 v1 v2 (hpV E V) = (gX4_readE n v1 v2 V).map (hpV E) := smX4_chain (smX4_part 7) h1
def gX4_readSetting (n : Nat) (v1 : Nat) (v2 : Int32) (V : VT) : Option (VT) :=
  (gX9_bit (V.F v1 10) v2 V).bind fun p1 =>
  if p1.1 = 1 then
  ((gX6_fail 3 p1.2).bind fun V12 =>
  some V12)
  else
  ((some (wF p1.2 v1 10 ((p1.2.F v1 10) ||| ((1 : Int32) <<< (v2 &&& 31))))).bind fun V2 =>
  (gX6_advance n V2).bind fun V3 =>
  if v2 = 4 then
  ((gX6_takeNumber n 1 9 V3).bind fun p4 =>
  (some (wF p4.2 v1 7 p4.1)).bind fun V5 =>
  some V5)
  else
  (if v2 = 5 then
  ((gX6_takeNumber n 0 200 V3).bind fun p6 =>
  (some (wF p6.2 v1 8 p6.1)).bind fun V7 =>
  some V7)
  else
  (if v2 = 6 then
  ((gX6_takeNumber n 0 20 V3).bind fun p8 =>
  (some (wF p8.2 v1 9 p8.1)).bind fun V9 =>
  some V9)
  else
  ((gX1_clear ((v1 + 6)) V3).bind fun V10 =>
  (gX4_readE n ((v1 + 6)) 0 V10).bind fun V11 =>
  some V11))))
set_option maxHeartbeats 1000000 in
theorem smX4_readSetting {E : VE} {n : Nat} {v1 : Nat} {v2 : Int32} {V : VT} (h1 : clsAt v1 = some 5)  : fX4_readSetting n 5 v1 v2 (hpV E V) = (gX4_readSetting n v1 v2 V).map (hpV E) := by
  unfold fX4_readSetting gX4_readSetting
  refine sb_some (s_isO rfl) ?_
  refine sb_some (s_gI h1 rfl) ?_
  refine sb_P (o' := gX9_bit (V.F v1 10) v2 V) (smX9_bit) (fun p1 => ?_)
  refine sb_ite ?_ ?_
  · refine sb_some (s_gR rfl rfl) ?_
    refine sb_V (o' := gX6_fail 3 p1.2) (smX6_fail) (fun V12 => ?_)
    rfl
  · refine sb_some (s_gI h1 rfl) ?_
    refine sb_V (o' := some (wF p1.2 v1 10 ((p1.2.F v1 10) ||| ((1 : Int32) <<< (v2 &&& 31))))) (w5_10 h1) (fun V2 => ?_)
    refine sb_some (s_gR rfl rfl) ?_
    refine sb_V (o' := gX6_advance n V2) (smX6_advance) (fun V3 => ?_)
    refine sb_ite ?_ ?_
    · refine sb_some (s_gR rfl rfl) ?_
      refine sb_P (o' := gX6_takeNumber n 1 9 V3) (smX6_takeNumber) (fun p4 => ?_)
      refine sb_V (o' := some (wF p4.2 v1 7 p4.1)) (w5_7 h1) (fun V5 => ?_)
      rfl
    · refine sb_ite ?_ ?_
      · refine sb_some (s_gR rfl rfl) ?_
        refine sb_P (o' := gX6_takeNumber n 0 200 V3) (smX6_takeNumber) (fun p6 => ?_)
        refine sb_V (o' := some (wF p6.2 v1 8 p6.1)) (w5_8 h1) (fun V7 => ?_)
        rfl
      · refine sb_ite ?_ ?_
        · refine sb_some (s_gR rfl rfl) ?_
          refine sb_P (o' := gX6_takeNumber n 0 20 V3) (smX6_takeNumber) (fun p8 => ?_)
          refine sb_V (o' := some (wF p8.2 v1 9 p8.1)) (w5_9 h1) (fun V9 => ?_)
          rfl
        · refine sb_some (s_gR h1 rfl) ?_
          refine sb_V (o' := gX1_clear ((v1 + 6)) V3) (smX1_clear (ch5o_6 h1)) (fun V10 => ?_)
          refine sb_some (s_gR h1 rfl) ?_
          refine sb_V (o' := gX4_readE n ((v1 + 6)) 0 V10) (smX4_readE (ch5o_6 h1)) (fun V11 => ?_)
          rfl
def gX5_clear (v0 : Nat) (V : VT) : Option (VT) :=
  (some (wF V v0 6 0)).bind fun V1 =>
  (some (wF V1 v0 7 3)).bind fun V2 =>
  (some (wF V2 v0 8 50)).bind fun V3 =>
  (some (wF V3 v0 9 4)).bind fun V4 =>
  (some (wF V4 v0 10 0)).bind fun V5 =>
  (gX1_clear ((v0 + 6)) V5).bind fun V6 =>
  (gX1_add ((v0 + 6)) 10021 V6).bind fun V7 =>
  some V7
set_option maxHeartbeats 1000000 in
theorem smX5_clear {E : VE} {v0 : Nat} {V : VT} (h0 : clsAt v0 = some 5) : fX5_clear v0 (hpV E V) = (gX5_clear v0 V).map (hpV E) := by
  unfold fX5_clear gX5_clear
  refine sb_some (s_isO h0) ?_
  refine sb_V (o' := some (wF V v0 6 0)) (w5_6 h0) (fun V1 => ?_)
  refine sb_V (o' := some (wF V1 v0 7 3)) (w5_7 h0) (fun V2 => ?_)
  refine sb_V (o' := some (wF V2 v0 8 50)) (w5_8 h0) (fun V3 => ?_)
  refine sb_V (o' := some (wF V3 v0 9 4)) (w5_9 h0) (fun V4 => ?_)
  refine sb_V (o' := some (wF V4 v0 10 0)) (w5_10 h0) (fun V5 => ?_)
  refine sb_some (s_gR h0 rfl) ?_
  refine sb_V (o' := gX1_clear ((v0 + 6)) V5) (smX1_clear (ch5o_6 h0)) (fun V6 => ?_)
  refine sb_some (s_gR h0 rfl) ?_
  refine sb_V (o' := gX1_add ((v0 + 6)) 10021 V6) (smX1_add (ch5o_6 h0)) (fun V7 => ?_)
  rfl
def gX6_close  (V : VT) : Option (Int32 × VT) :=
  (some (wF V 3 1 0)).bind fun V1 =>
  some (V1.F 3 8, V1)
set_option maxHeartbeats 1000000 in
theorem smX6_close {E : VE}  {V : VT}  : fX6_close 3 (hpV E V) = (gX6_close  V).map (fun p => (p.1, hpV E p.2)) := by
  unfold fX6_close gX6_close
  refine sb_some (s_isO rfl) ?_
  refine sb_V (o' := some (wF V 3 1 0)) (w6_1 rfl) (fun V1 => ?_)
  refine sb_some (s_gI rfl rfl) ?_
  rfl
def gX6_open (n : Nat)  (V : VT) : Option (VT) :=
  (some (wF V 3 2 0)).bind fun V1 =>
  (some (wF V1 3 8 0)).bind fun V2 =>
  (gX6_advance n V2).bind fun V3 =>
  some V3
set_option maxHeartbeats 1000000 in
theorem smX6_open {E : VE} {n : Nat}  {V : VT}  : fX6_open n 3 (hpV E V) = (gX6_open n  V).map (hpV E) := by
  unfold fX6_open gX6_open
  refine sb_some (s_isO rfl) ?_
  refine sb_V (o' := some (wF V 3 2 0)) (w6_2 rfl) (fun V1 => ?_)
  refine sb_V (o' := some (wF V1 3 8 0)) (w6_8 rfl) (fun V2 => ?_)
  refine sb_V (o' := gX6_advance n V2) (smX6_advance) (fun V3 => ?_)
  rfl
def gX4_readPast_b146 (n : Nat)  (V : VT) : Option (Int32 × VT) :=
  (gX6_close V).bind fun p1 =>
  some (p1.1, p1.2)
set_option maxHeartbeats 1000000 in
theorem smX4_readPast_b146 {E : VE} {n : Nat}  {V : VT}  : fX4_readPast_b146 n 5 (hpV E V) = (gX4_readPast_b146 n  V).map (fun p => (p.1, hpV E p.2)) := by
  unfold fX4_readPast_b146 gX4_readPast_b146
  refine sb_some (s_gR rfl rfl) ?_
  refine sb_P (o' := gX6_close V) (smX6_close) (fun p1 => ?_)
  rfl
def gX4_readPast_b131 (n : Nat) (K13 : Nat → Int32 → VT → Option (Int32 × VT)) (v1 : Nat) (v2 : Int32) (V : VT) : Option (Int32 × VT) :=
  (gX6_takeSign n 59 V).bind fun V1 =>
  K13 v1 (v2 + 1) V1
set_option maxHeartbeats 1000000 in
theorem smX4_readPast_b131 {E : VE} {n : Nat} {K13 : Nat → Int32 → VT → Option (Int32 × VT)} {k13 : Nat → Nat → Int32 → qH → Option (Int32 × qH)} {v1 : Nat} {v2 : Int32} {V : VT} (hK13 : ∀ (v1 : Nat) (hv1 : clsAt v1 = some 5) (v2 : Int32)  (V : VT), k13 5 v1 v2 (hpV E V) = (K13 v1 v2 V).map (fun p => (p.1, hpV E p.2))) (hv1 : clsAt v1 = some 5)  : fX4_readPast_b131 n k13 5 v1 v2 (hpV E V) = (gX4_readPast_b131 n K13 v1 v2 V).map (fun p => (p.1, hpV E p.2)) := by
  unfold fX4_readPast_b131 gX4_readPast_b131
  refine sb_some (s_gR rfl rfl) ?_
  refine sb_V (o' := gX6_takeSign n 59 V) (smX6_takeSign) (fun V1 => ?_)
  exact hK13 v1 hv1 (v2 + 1) V1
def gX4_readPast_b123 (n : Nat) (K13 : Nat → Int32 → VT → Option (Int32 × VT)) (v1 : Nat) (v2 : Int32) (V : VT) : Option (Int32 × VT) :=
  (gX6_fail 1 V).bind fun V1 =>
  gX4_readPast_b131 n K13 v1 v2 V1
set_option maxHeartbeats 1000000 in
theorem smX4_readPast_b123 {E : VE} {n : Nat} {K13 : Nat → Int32 → VT → Option (Int32 × VT)} {k13 : Nat → Nat → Int32 → qH → Option (Int32 × qH)} {v1 : Nat} {v2 : Int32} {V : VT} (hK13 : ∀ (v1 : Nat) (hv1 : clsAt v1 = some 5) (v2 : Int32)  (V : VT), k13 5 v1 v2 (hpV E V) = (K13 v1 v2 V).map (fun p => (p.1, hpV E p.2))) (hv1 : clsAt v1 = some 5)  : fX4_readPast_b123 n k13 5 v1 v2 (hpV E V) = (gX4_readPast_b123 n K13 v1 v2 V).map (fun p => (p.1, hpV E p.2)) := by
  unfold fX4_readPast_b123 gX4_readPast_b123
  refine sb_some (s_gR rfl rfl) ?_
  refine sb_V (o' := gX6_fail 1 V) (smX6_fail) (fun V1 => ?_)
  exact smX4_readPast_b131 hK13 hv1
def gX4_readPast_b108 (n : Nat) (K13 : Nat → Int32 → VT → Option (Int32 × VT)) (v1 : Nat) (v2 : Int32) (V : VT) : Option (Int32 × VT) :=
  (gX6_keyHere V).bind fun p1 =>
  (gX4_readSetting n v1 p1.1 p1.2).bind fun V2 =>
  gX4_readPast_b131 n K13 v1 v2 V2
set_option maxHeartbeats 1000000 in
theorem smX4_readPast_b108 {E : VE} {n : Nat} {K13 : Nat → Int32 → VT → Option (Int32 × VT)} {k13 : Nat → Nat → Int32 → qH → Option (Int32 × qH)} {v1 : Nat} {v2 : Int32} {V : VT} (hK13 : ∀ (v1 : Nat) (hv1 : clsAt v1 = some 5) (v2 : Int32)  (V : VT), k13 5 v1 v2 (hpV E V) = (K13 v1 v2 V).map (fun p => (p.1, hpV E p.2))) (hv1 : clsAt v1 = some 5)  : fX4_readPast_b108 n k13 5 v1 v2 (hpV E V) = (gX4_readPast_b108 n K13 v1 v2 V).map (fun p => (p.1, hpV E p.2)) := by
  unfold fX4_readPast_b108 gX4_readPast_b108
  refine sb_some (s_gR rfl rfl) ?_
  refine sb_P (o' := gX6_keyHere V) (smX6_keyHere) (fun p1 => ?_)
  refine sb_V (o' := gX4_readSetting n v1 p1.1 p1.2) (smX4_readSetting hv1) (fun V2 => ?_)
  exact smX4_readPast_b131 hK13 hv1
def gX4_readPast_b13 (n : Nat) : Nat → Nat → Int32 → VT → Option (Int32 × VT)
  | 0, _, _, _ => none
  | w + 1, v1, v2, V =>
    if 1000 < v2 then
    (gX4_readPast_b146 n V)
    else
    (if (V.F 3 8) = 0 then
    (if (V.F 3 4) = 0 then
    (gX4_readPast_b146 n V)
    else
    ((gX6_keyHere V).bind fun p1 =>
    if p1.1 = 0 then
    ((gX4_readMatter n v1 p1.2).bind fun V2 =>
    gX4_readPast_b131 n (gX4_readPast_b13 n w) v1 v2 V2)
    else
    (if p1.1 = 1 then
    (gX4_readPast_b123 n (gX4_readPast_b13 n w) v1 v2 p1.2)
    else
    (if p1.1 = 2 then
    (gX4_readPast_b123 n (gX4_readPast_b13 n w) v1 v2 p1.2)
    else
    (if p1.1 = 3 then
    ((gX4_readLed n v1 p1.2).bind fun V3 =>
    gX4_readPast_b131 n (gX4_readPast_b13 n w) v1 v2 V3)
    else
    (if p1.1 = 4 then
    (gX4_readPast_b108 n (gX4_readPast_b13 n w) v1 v2 p1.2)
    else
    (if p1.1 = 5 then
    (gX4_readPast_b108 n (gX4_readPast_b13 n w) v1 v2 p1.2)
    else
    (if p1.1 = 6 then
    (gX4_readPast_b108 n (gX4_readPast_b13 n w) v1 v2 p1.2)
    else
    (if p1.1 = 7 then
    (gX4_readPast_b108 n (gX4_readPast_b13 n w) v1 v2 p1.2)
    else
    (gX4_readPast_b123 n (gX4_readPast_b13 n w) v1 v2 p1.2))))))))))
    else
    (gX4_readPast_b146 n V))
set_option maxHeartbeats 1000000 in
theorem smX4_readPast_b13 {E : VE} {n : Nat} : ∀ (w : Nat) (v1 : Nat) (hv1 : clsAt v1 = some 5) (v2 : Int32)  (V : VT), fX4_readPast_b13 n w 5 v1 v2 (hpV E V) = (gX4_readPast_b13 n w v1 v2 V).map (fun p => (p.1, hpV E p.2)) := by
  intro w
  induction w with
  | zero => intro v1 hv1 v2 V; rfl
  | succ w ih =>
    intro v1 hv1 v2 V
    unfold fX4_readPast_b13 gX4_readPast_b13
    refine sb_ite ?_ ?_
    · exact smX4_readPast_b146
    · refine sb_some (s_gR rfl rfl) ?_
      refine sb_some (s_gI rfl rfl) ?_
      refine sb_ite ?_ ?_
      · refine sb_some (s_gR rfl rfl) ?_
        refine sb_some (s_gI rfl rfl) ?_
        refine sb_ite ?_ ?_
        · exact smX4_readPast_b146
        · refine sb_some (s_gR rfl rfl) ?_
          refine sb_P (o' := gX6_keyHere V) (smX6_keyHere) (fun p1 => ?_)
          refine sb_ite ?_ ?_
          · refine sb_V (o' := gX4_readMatter n v1 p1.2) (smX4_readMatter hv1) (fun V2 => ?_)
            exact smX4_readPast_b131 ih hv1
          · refine sb_ite ?_ ?_
            · exact smX4_readPast_b123 ih hv1
            · refine sb_ite ?_ ?_
              · exact smX4_readPast_b123 ih hv1
              · refine sb_ite ?_ ?_
                · refine sb_V (o' := gX4_readLed n v1 p1.2) (smX4_readLed hv1) (fun V3 => ?_)
                  exact smX4_readPast_b131 ih hv1
                · refine sb_ite ?_ ?_
                  · exact smX4_readPast_b108 ih hv1
                  · refine sb_ite ?_ ?_
                    · exact smX4_readPast_b108 ih hv1
                    · refine sb_ite ?_ ?_
                      · exact smX4_readPast_b108 ih hv1
                      · refine sb_ite ?_ ?_
                        · exact smX4_readPast_b108 ih hv1
                        · exact smX4_readPast_b123 ih hv1
      · exact smX4_readPast_b146
def gX4_readPast (n : Nat) (v1 : Nat) (V : VT) : Option (Int32 × VT) :=
  (gX5_clear v1 V).bind fun V1 =>
  (gX6_open n V1).bind fun V2 =>
  gX4_readPast_b13 n n v1 0 V2
set_option maxHeartbeats 1000000 in
theorem smX4_readPast {E : VE} {n : Nat} {v1 : Nat} {V : VT} (h1 : clsAt v1 = some 5) : fX4_readPast n 5 v1 (hpV E V) = (gX4_readPast n v1 V).map (fun p => (p.1, hpV E p.2)) := by
  unfold fX4_readPast gX4_readPast
  refine sb_some (s_isO rfl) ?_
  refine sb_V (o' := gX5_clear v1 V) (smX5_clear h1) (fun V1 => ?_)
  refine sb_some (s_gR rfl rfl) ?_
  refine sb_V (o' := gX6_open n V1) (smX6_open) (fun V2 => ?_)
  exact smX4_readPast_b13 _ v1 h1 0 V2
def gX4_readRoundLine (n : Nat) (v1 : Nat) (v2 : Nat) (V : VT) : Option (VT) :=
  (gX6_keyHere V).bind fun p1 =>
  (gX9_within p1.1 8 10 p1.2).bind fun p2 =>
  if p2.1 = 0 then
  ((gX6_fail 1 p2.2).bind fun V9 =>
  some V9)
  else
  (if (p2.2.F v1 2) < 40 then
  ((gX6_advance n p2.2).bind fun V3 =>
  if p1.1 = 10 then
  ((gX2_add v1 p1.1 ((-1)) V3).bind fun V7 =>
  some V7)
  else
  ((gX4_matterHere n v2 V3).bind fun p4 =>
  if p4.1 = ((-1)) then
  (some p4.2)
  else
  ((gX2_add v1 p1.1 p4.1 p4.2).bind fun V5 =>
  (gX6_advance n V5).bind fun V6 =>
  some V6)))
  else
  ((gX6_fail 5 p2.2).bind fun V8 =>
  some V8))
set_option maxHeartbeats 1000000 in
theorem smX4_readRoundLine {E : VE} {n : Nat} {v1 : Nat} {v2 : Nat} {V : VT} (h1 : clsAt v1 = some 2) (h2 : clsAt v2 = some 5) : fX4_readRoundLine n 5 v1 v2 (hpV E V) = (gX4_readRoundLine n v1 v2 V).map (hpV E) := by
  unfold fX4_readRoundLine gX4_readRoundLine
  refine sb_some (s_isO rfl) ?_
  refine sb_some (s_gR rfl rfl) ?_
  refine sb_P (o' := gX6_keyHere V) (smX6_keyHere) (fun p1 => ?_)
  refine sb_P (o' := gX9_within p1.1 8 10 p1.2) (smX9_within) (fun p2 => ?_)
  refine sb_ite ?_ ?_
  · refine sb_some (s_gR rfl rfl) ?_
    refine sb_V (o' := gX6_fail 1 p2.2) (smX6_fail) (fun V9 => ?_)
    rfl
  · refine sb_some (s_gI h1 rfl) ?_
    refine sb_ite ?_ ?_
    · refine sb_some (s_gR rfl rfl) ?_
      refine sb_V (o' := gX6_advance n p2.2) (smX6_advance) (fun V3 => ?_)
      refine sb_ite ?_ ?_
      · refine sb_V (o' := gX2_add v1 p1.1 ((-1)) V3) (smX2_add h1) (fun V7 => ?_)
        rfl
      · refine sb_P (o' := gX4_matterHere n v2 V3) (smX4_matterHere h2) (fun p4 => ?_)
        refine sb_ite ?_ ?_
        · rfl
        · refine sb_V (o' := gX2_add v1 p1.1 p4.1 p4.2) (smX2_add h1) (fun V5 => ?_)
          refine sb_some (s_gR rfl rfl) ?_
          refine sb_V (o' := gX6_advance n V5) (smX6_advance) (fun V6 => ?_)
          rfl
    · refine sb_some (s_gR rfl rfl) ?_
      refine sb_V (o' := gX6_fail 5 p2.2) (smX6_fail) (fun V8 => ?_)
      rfl
def gX4_readRound_b61 (n : Nat)  (V : VT) : Option (Int32 × VT) :=
  (gX6_close V).bind fun p1 =>
  some (p1.1, p1.2)
set_option maxHeartbeats 1000000 in
theorem smX4_readRound_b61 {E : VE} {n : Nat}  {V : VT}  : fX4_readRound_b61 n 5 (hpV E V) = (gX4_readRound_b61 n  V).map (fun p => (p.1, hpV E p.2)) := by
  unfold fX4_readRound_b61 gX4_readRound_b61
  refine sb_some (s_gR rfl rfl) ?_
  refine sb_P (o' := gX6_close V) (smX6_close) (fun p1 => ?_)
  rfl
def gX4_readRound_b13 (n : Nat) : Nat → Nat → Nat → Int32 → VT → Option (Int32 × VT)
  | 0, _, _, _, _ => none
  | w + 1, v1, v2, v3, V =>
    if 1000 < v3 then
    (gX4_readRound_b61 n V)
    else
    (if (V.F 3 8) = 0 then
    (if (V.F 3 4) = 0 then
    (gX4_readRound_b61 n V)
    else
    ((gX4_readRoundLine n v1 v2 V).bind fun V1 =>
    (gX6_takeSign n 59 V1).bind fun V2 =>
    gX4_readRound_b13 n w v1 v2 (v3 + 1) V2))
    else
    (gX4_readRound_b61 n V))
set_option maxHeartbeats 1000000 in
theorem smX4_readRound_b13 {E : VE} {n : Nat} : ∀ (w : Nat) (v1 : Nat) (hv1 : clsAt v1 = some 2) (v2 : Nat) (hv2 : clsAt v2 = some 5) (v3 : Int32)  (V : VT), fX4_readRound_b13 n w 5 v1 v2 v3 (hpV E V) = (gX4_readRound_b13 n w v1 v2 v3 V).map (fun p => (p.1, hpV E p.2)) := by
  intro w
  induction w with
  | zero => intro v1 hv1 v2 hv2 v3 V; rfl
  | succ w ih =>
    intro v1 hv1 v2 hv2 v3 V
    unfold fX4_readRound_b13 gX4_readRound_b13
    refine sb_ite ?_ ?_
    · exact smX4_readRound_b61
    · refine sb_some (s_gR rfl rfl) ?_
      refine sb_some (s_gI rfl rfl) ?_
      refine sb_ite ?_ ?_
      · refine sb_some (s_gR rfl rfl) ?_
        refine sb_some (s_gI rfl rfl) ?_
        refine sb_ite ?_ ?_
        · exact smX4_readRound_b61
        · refine sb_V (o' := gX4_readRoundLine n v1 v2 V) (smX4_readRoundLine hv1 hv2) (fun V1 => ?_)
          refine sb_some (s_gR rfl rfl) ?_
          refine sb_V (o' := gX6_takeSign n 59 V1) (smX6_takeSign) (fun V2 => ?_)
          exact ih v1 hv1 v2 hv2 (v3 + 1) V2
      · exact smX4_readRound_b61
def gX4_readRound (n : Nat) (v1 : Nat) (v2 : Nat) (V : VT) : Option (Int32 × VT) :=
  (gX2_clear v1 V).bind fun V1 =>
  (gX6_open n V1).bind fun V2 =>
  gX4_readRound_b13 n n v1 v2 0 V2
set_option maxHeartbeats 1000000 in
theorem smX4_readRound {E : VE} {n : Nat} {v1 : Nat} {v2 : Nat} {V : VT} (h1 : clsAt v1 = some 2) (h2 : clsAt v2 = some 5) : fX4_readRound n 5 v1 v2 (hpV E V) = (gX4_readRound n v1 v2 V).map (fun p => (p.1, hpV E p.2)) := by
  unfold fX4_readRound gX4_readRound
  refine sb_some (s_isO rfl) ?_
  refine sb_V (o' := gX2_clear v1 V) (smX2_clear h1) (fun V1 => ?_)
  refine sb_some (s_gR rfl rfl) ?_
  refine sb_V (o' := gX6_open n V1) (smX6_open) (fun V2 => ?_)
  exact smX4_readRound_b13 _ v1 h1 v2 h2 0 V2
def gX5_rightBy_b15 (n : Nat) (K4 : Nat → Int32 → Int32 → VT → Option (Int32 × VT)) : Nat → Nat → Int32 → Int32 → Int32 → VT → Option (Int32 × VT)
  | 0, _, _, _, _, _ => none
  | w + 1, v0, v2, v3, v4, V =>
    if (V.F v0 6) ≤ v4 then
    (K4 v0 v2 (v3 + 1) V)
    else
    ((rdA 7 (V.A ((v0 + 5))) v4).bind fun x1 =>
    if (x1 &&& v2) = 0 then
    (gX5_rightBy_b15 n K4 w v0 v2 v3 (v4 + 1) V)
    else
    (gX5_rightBy_b15 n K4 w v0 (v2 ||| ((1 : Int32) <<< (v4 &&& 31))) v3 (v4 + 1) V))
set_option maxHeartbeats 1000000 in
theorem smX5_rightBy_b15 {E : VE} {n : Nat} {K4 : Nat → Int32 → Int32 → VT → Option (Int32 × VT)} {k4 : Nat → Int32 → Int32 → qH → Option (Int32 × qH)} (hK4 : ∀ (v0 : Nat) (hv0 : clsAt v0 = some 5) (v2 : Int32)  (v3 : Int32)  (V : VT), k4 v0 v2 v3 (hpV E V) = (K4 v0 v2 v3 V).map (fun p => (p.1, hpV E p.2))) : ∀ (w : Nat) (v0 : Nat) (hv0 : clsAt v0 = some 5) (v2 : Int32)  (v3 : Int32)  (v4 : Int32)  (V : VT), fX5_rightBy_b15 n k4 w v0 v2 v3 v4 (hpV E V) = (gX5_rightBy_b15 n K4 w v0 v2 v3 v4 V).map (fun p => (p.1, hpV E p.2)) := by
  intro w
  induction w with
  | zero => intro v0 hv0 v2 v3 v4 V; rfl
  | succ w ih =>
    intro v0 hv0 v2 v3 v4 V
    unfold fX5_rightBy_b15 gX5_rightBy_b15
    refine sb_some (s_gI hv0 rfl) ?_
    refine sb_ite ?_ ?_
    · exact hK4 v0 hv0 v2 (v3 + 1) V
    · refine sb_some (s_gR hv0 rfl) ?_
      refine sb_bindE (s_aI (ch5_5 hv0)) (fun x1 => ?_)
      refine sb_ite ?_ ?_
      · exact ih v0 hv0 v2 v3 (v4 + 1) V
      · exact ih v0 hv0 (v2 ||| ((1 : Int32) <<< (v4 &&& 31))) v3 (v4 + 1) V
def gX5_rightBy_b4 (n : Nat) : Nat → Nat → Int32 → Int32 → VT → Option (Int32 × VT)
  | 0, _, _, _, _ => none
  | w + 1, v0, v2, v3, V =>
    if (V.F v0 6) ≤ v3 then
    (some (v2, V))
    else
    (gX5_rightBy_b15 n (gX5_rightBy_b4 n w) n v0 v2 v3 0 V)
set_option maxHeartbeats 1000000 in
theorem smX5_rightBy_b4 {E : VE} {n : Nat} : ∀ (w : Nat) (v0 : Nat) (hv0 : clsAt v0 = some 5) (v2 : Int32)  (v3 : Int32)  (V : VT), fX5_rightBy_b4 n w v0 v2 v3 (hpV E V) = (gX5_rightBy_b4 n w v0 v2 v3 V).map (fun p => (p.1, hpV E p.2)) := by
  intro w
  induction w with
  | zero => intro v0 hv0 v2 v3 V; rfl
  | succ w ih =>
    intro v0 hv0 v2 v3 V
    unfold fX5_rightBy_b4 gX5_rightBy_b4
    refine sb_some (s_gI hv0 rfl) ?_
    refine sb_ite ?_ ?_
    · rfl
    · exact smX5_rightBy_b15 ih _ v0 hv0 v2 v3 0 V
def gX5_rightBy (n : Nat) (v0 : Nat) (v1 : Int32) (V : VT) : Option (Int32 × VT) :=
  gX5_rightBy_b4 n n v0 v1 0 V
set_option maxHeartbeats 1000000 in
theorem smX5_rightBy {E : VE} {n : Nat} {v0 : Nat} {v1 : Int32} {V : VT} (h0 : clsAt v0 = some 5)  : fX5_rightBy n v0 v1 (hpV E V) = (gX5_rightBy n v0 v1 V).map (fun p => (p.1, hpV E p.2)) := by
  unfold fX5_rightBy gX5_rightBy
  refine sb_some (s_isO h0) ?_
  exact smX5_rightBy_b4 _ v0 h0 v1 0 V
def gX5_causeBits (n : Nat) (v0 : Nat) (v1 : Int32) (V : VT) : Option (Int32 × VT) :=
  (gX5_rightBy n v0 ((1 : Int32) <<< (v1 &&& 31)) V).bind fun p1 =>
  some (p1.1 &&& (((1 : Int32) <<< (v1 &&& 31)) ^^^ ((-1))), p1.2)
set_option maxHeartbeats 1000000 in
theorem smX5_causeBits {E : VE} {n : Nat} {v0 : Nat} {v1 : Int32} {V : VT} (h0 : clsAt v0 = some 5)  : fX5_causeBits n v0 v1 (hpV E V) = (gX5_causeBits n v0 v1 V).map (fun p => (p.1, hpV E p.2)) := by
  unfold fX5_causeBits gX5_causeBits
  refine sb_some (s_isO h0) ?_
  refine sb_P (o' := gX5_rightBy n v0 ((1 : Int32) <<< (v1 &&& 31)) V) (smX5_rightBy h0) (fun p1 => ?_)
  rfl
def gX5_coatsAfterCoat (v0 : Nat) (v1 : Int32) (v2 : Int32) (V : VT) : Option (Int32 × VT) :=
  (rdA 7 (V.A ((v0 + 2))) v1).bind fun x1 =>
  if x1 = 3 then
  (some (v2, V))
  else
  (some (v2 + 1, V))
set_option maxHeartbeats 1000000 in
theorem smX5_coatsAfterCoat {E : VE} {v0 : Nat} {v1 : Int32} {v2 : Int32} {V : VT} (h0 : clsAt v0 = some 5)   : fX5_coatsAfterCoat v0 v1 v2 (hpV E V) = (gX5_coatsAfterCoat v0 v1 v2 V).map (fun p => (p.1, hpV E p.2)) := by
  unfold fX5_coatsAfterCoat gX5_coatsAfterCoat
  refine sb_some (s_isO h0) ?_
  refine sb_some (s_gR h0 rfl) ?_
  refine sb_bindE (s_aI (ch5_2 h0)) (fun x1 => ?_)
  refine sb_ite ?_ ?_
  · rfl
  · rfl
def gX5_elderBits_b4 (n : Nat) : Nat → Nat → Int32 → Int32 → Int32 → VT → Option (Int32 × VT)
  | 0, _, _, _, _, _ => none
  | w + 1, v0, v1, v2, v3, V =>
    if (V.F v0 6) ≤ v3 then
    (some (v2, V))
    else
    ((rdA 7 (V.A ((v0 + 3))) v3).bind fun x1 =>
    (rdA 7 (V.A ((v0 + 3))) v1).bind fun x2 =>
    if x2 ≤ x1 then
    (gX5_elderBits_b4 n w v0 v1 v2 (v3 + 1) V)
    else
    (gX5_elderBits_b4 n w v0 v1 (v2 ||| ((1 : Int32) <<< (v3 &&& 31))) (v3 + 1) V))
set_option maxHeartbeats 1000000 in
theorem smX5_elderBits_b4 {E : VE} {n : Nat} : ∀ (w : Nat) (v0 : Nat) (hv0 : clsAt v0 = some 5) (v1 : Int32)  (v2 : Int32)  (v3 : Int32)  (V : VT), fX5_elderBits_b4 n w v0 v1 v2 v3 (hpV E V) = (gX5_elderBits_b4 n w v0 v1 v2 v3 V).map (fun p => (p.1, hpV E p.2)) := by
  intro w
  induction w with
  | zero => intro v0 hv0 v1 v2 v3 V; rfl
  | succ w ih =>
    intro v0 hv0 v1 v2 v3 V
    unfold fX5_elderBits_b4 gX5_elderBits_b4
    refine sb_some (s_gI hv0 rfl) ?_
    refine sb_ite ?_ ?_
    · rfl
    · refine sb_some (s_gR hv0 rfl) ?_
      refine sb_bindE (s_aI (ch5_3 hv0)) (fun x1 => ?_)
      refine sb_some (s_gR hv0 rfl) ?_
      refine sb_bindE (s_aI (ch5_3 hv0)) (fun x2 => ?_)
      refine sb_ite ?_ ?_
      · exact ih v0 hv0 v1 v2 (v3 + 1) V
      · exact ih v0 hv0 v1 (v2 ||| ((1 : Int32) <<< (v3 &&& 31))) (v3 + 1) V
def gX5_elderBits (n : Nat) (v0 : Nat) (v1 : Int32) (V : VT) : Option (Int32 × VT) :=
  gX5_elderBits_b4 n n v0 v1 0 0 V
set_option maxHeartbeats 1000000 in
theorem smX5_elderBits {E : VE} {n : Nat} {v0 : Nat} {v1 : Int32} {V : VT} (h0 : clsAt v0 = some 5)  : fX5_elderBits n v0 v1 (hpV E V) = (gX5_elderBits n v0 v1 V).map (fun p => (p.1, hpV E p.2)) := by
  unfold fX5_elderBits gX5_elderBits
  refine sb_some (s_isO h0) ?_
  exact smX5_elderBits_b4 _ v0 h0 v1 0 0 V
def gX5_everyone (v0 : Nat) (V : VT) : Option (Int32 × VT) :=
  some (((1 : Int32) <<< ((V.F v0 6) &&& 31)) - 1, V)
set_option maxHeartbeats 1000000 in
theorem smX5_everyone {E : VE} {v0 : Nat} {V : VT} (h0 : clsAt v0 = some 5) : fX5_everyone v0 (hpV E V) = (gX5_everyone v0 V).map (fun p => (p.1, hpV E p.2)) := by
  unfold fX5_everyone gX5_everyone
  refine sb_some (s_isO h0) ?_
  refine sb_some (s_gI h0 rfl) ?_
  rfl
def gX5_fruitBits_b20 (n : Nat) (K9 : Nat → Int32 → Int32 → VT → Option (Int32 × VT)) : Nat → Nat → Int32 → Int32 → Int32 → VT → Option (Int32 × VT)
  | 0, _, _, _, _, _ => none
  | w + 1, v0, v2, v3, v4, V =>
    if (V.F v0 6) ≤ v4 then
    (K9 v0 v2 (v3 + 1) V)
    else
    ((gX9_bit v2 v4 V).bind fun p1 =>
    if p1.1 = 1 then
    ((rdA 7 (p1.2.A ((v0 + 5))) v4).bind fun x2 =>
    gX5_fruitBits_b20 n K9 w v0 (v2 ||| x2) v3 (v4 + 1) p1.2)
    else
    (gX5_fruitBits_b20 n K9 w v0 v2 v3 (v4 + 1) p1.2))
set_option maxHeartbeats 1000000 in
theorem smX5_fruitBits_b20 {E : VE} {n : Nat} {K9 : Nat → Int32 → Int32 → VT → Option (Int32 × VT)} {k9 : Nat → Int32 → Int32 → qH → Option (Int32 × qH)} (hK9 : ∀ (v0 : Nat) (hv0 : clsAt v0 = some 5) (v2 : Int32)  (v3 : Int32)  (V : VT), k9 v0 v2 v3 (hpV E V) = (K9 v0 v2 v3 V).map (fun p => (p.1, hpV E p.2))) : ∀ (w : Nat) (v0 : Nat) (hv0 : clsAt v0 = some 5) (v2 : Int32)  (v3 : Int32)  (v4 : Int32)  (V : VT), fX5_fruitBits_b20 n k9 w v0 v2 v3 v4 (hpV E V) = (gX5_fruitBits_b20 n K9 w v0 v2 v3 v4 V).map (fun p => (p.1, hpV E p.2)) := by
  intro w
  induction w with
  | zero => intro v0 hv0 v2 v3 v4 V; rfl
  | succ w ih =>
    intro v0 hv0 v2 v3 v4 V
    unfold fX5_fruitBits_b20 gX5_fruitBits_b20
    refine sb_some (s_gI hv0 rfl) ?_
    refine sb_ite ?_ ?_
    · exact hK9 v0 hv0 v2 (v3 + 1) V
    · refine sb_P (o' := gX9_bit v2 v4 V) (smX9_bit) (fun p1 => ?_)
      refine sb_ite ?_ ?_
      · refine sb_some (s_gR hv0 rfl) ?_
        refine sb_bindE (s_aI (ch5_5 hv0)) (fun x2 => ?_)
        exact ih v0 hv0 (v2 ||| x2) v3 (v4 + 1) p1.2
      · exact ih v0 hv0 v2 v3 (v4 + 1) p1.2
def gX5_fruitBits_b9 (n : Nat) : Nat → Nat → Int32 → Int32 → VT → Option (Int32 × VT)
  | 0, _, _, _, _ => none
  | w + 1, v0, v2, v3, V =>
    if (V.F v0 6) ≤ v3 then
    (some (v2, V))
    else
    (gX5_fruitBits_b20 n (gX5_fruitBits_b9 n w) n v0 v2 v3 0 V)
set_option maxHeartbeats 1000000 in
theorem smX5_fruitBits_b9 {E : VE} {n : Nat} : ∀ (w : Nat) (v0 : Nat) (hv0 : clsAt v0 = some 5) (v2 : Int32)  (v3 : Int32)  (V : VT), fX5_fruitBits_b9 n w v0 v2 v3 (hpV E V) = (gX5_fruitBits_b9 n w v0 v2 v3 V).map (fun p => (p.1, hpV E p.2)) := by
  intro w
  induction w with
  | zero => intro v0 hv0 v2 v3 V; rfl
  | succ w ih =>
    intro v0 hv0 v2 v3 V
    unfold fX5_fruitBits_b9 gX5_fruitBits_b9
    refine sb_some (s_gI hv0 rfl) ?_
    refine sb_ite ?_ ?_
    · rfl
    · exact smX5_fruitBits_b20 ih _ v0 hv0 v2 v3 0 V
def gX5_fruitBits (n : Nat) (v0 : Nat) (v1 : Int32) (V : VT) : Option (Int32 × VT) :=
  (rdA 7 (V.A ((v0 + 5))) v1).bind fun x1 =>
  gX5_fruitBits_b9 n n v0 x1 0 V
set_option maxHeartbeats 1000000 in
theorem smX5_fruitBits {E : VE} {n : Nat} {v0 : Nat} {v1 : Int32} {V : VT} (h0 : clsAt v0 = some 5)  : fX5_fruitBits n v0 v1 (hpV E V) = (gX5_fruitBits n v0 v1 V).map (fun p => (p.1, hpV E p.2)) := by
  unfold fX5_fruitBits gX5_fruitBits
  refine sb_some (s_isO h0) ?_
  refine sb_some (s_gR h0 rfl) ?_
  refine sb_bindE (s_aI (ch5_5 h0)) (fun x1 => ?_)
  exact smX5_fruitBits_b9 _ v0 h0 x1 0 V
def gX5_nextBirth_b37 (n : Nat) (K4 : Nat → Int32 → Int32 → Int32 → VT → Option (Int32 × VT)) (v0 : Nat) (v1 : Int32) (v3 : Int32) (V : VT) : Option (Int32 × VT) :=
  (rdA 7 (V.A ((v0 + 3))) v3).bind fun x1 =>
  K4 v0 v1 x1 (v3 + 1) V
set_option maxHeartbeats 1000000 in
theorem smX5_nextBirth_b37 {E : VE} {n : Nat} {K4 : Nat → Int32 → Int32 → Int32 → VT → Option (Int32 × VT)} {k4 : Nat → Int32 → Int32 → Int32 → qH → Option (Int32 × qH)} {v0 : Nat} {v1 : Int32} {v3 : Int32} {V : VT} (hK4 : ∀ (v0 : Nat) (hv0 : clsAt v0 = some 5) (v1 : Int32)  (v2 : Int32)  (v3 : Int32)  (V : VT), k4 v0 v1 v2 v3 (hpV E V) = (K4 v0 v1 v2 v3 V).map (fun p => (p.1, hpV E p.2))) (hv0 : clsAt v0 = some 5)   : fX5_nextBirth_b37 n k4 v0 v1 v3 (hpV E V) = (gX5_nextBirth_b37 n K4 v0 v1 v3 V).map (fun p => (p.1, hpV E p.2)) := by
  unfold fX5_nextBirth_b37 gX5_nextBirth_b37
  refine sb_some (s_gR hv0 rfl) ?_
  refine sb_bindE (s_aI (ch5_3 hv0)) (fun x1 => ?_)
  exact hK4 v0 hv0 v1 x1 (v3 + 1) V
def gX5_nextBirth_b4 (n : Nat) : Nat → Nat → Int32 → Int32 → Int32 → VT → Option (Int32 × VT)
  | 0, _, _, _, _, _ => none
  | w + 1, v0, v1, v2, v3, V =>
    if (V.F v0 6) ≤ v3 then
    (some (v2, V))
    else
    ((rdA 7 (V.A ((v0 + 3))) v3).bind fun x1 =>
    if x1 ≤ v1 then
    (gX5_nextBirth_b4 n w v0 v1 v2 (v3 + 1) V)
    else
    (if v2 = v1 then
    (gX5_nextBirth_b37 n (gX5_nextBirth_b4 n w) v0 v1 v3 V)
    else
    ((rdA 7 (V.A ((v0 + 3))) v3).bind fun x2 =>
    if v2 ≤ x2 then
    (gX5_nextBirth_b4 n w v0 v1 v2 (v3 + 1) V)
    else
    (gX5_nextBirth_b37 n (gX5_nextBirth_b4 n w) v0 v1 v3 V))))
set_option maxHeartbeats 1000000 in
theorem smX5_nextBirth_b4 {E : VE} {n : Nat} : ∀ (w : Nat) (v0 : Nat) (hv0 : clsAt v0 = some 5) (v1 : Int32)  (v2 : Int32)  (v3 : Int32)  (V : VT), fX5_nextBirth_b4 n w v0 v1 v2 v3 (hpV E V) = (gX5_nextBirth_b4 n w v0 v1 v2 v3 V).map (fun p => (p.1, hpV E p.2)) := by
  intro w
  induction w with
  | zero => intro v0 hv0 v1 v2 v3 V; rfl
  | succ w ih =>
    intro v0 hv0 v1 v2 v3 V
    unfold fX5_nextBirth_b4 gX5_nextBirth_b4
    refine sb_some (s_gI hv0 rfl) ?_
    refine sb_ite ?_ ?_
    · rfl
    · refine sb_some (s_gR hv0 rfl) ?_
      refine sb_bindE (s_aI (ch5_3 hv0)) (fun x1 => ?_)
      refine sb_ite ?_ ?_
      · exact ih v0 hv0 v1 v2 (v3 + 1) V
      · refine sb_ite ?_ ?_
        · exact smX5_nextBirth_b37 ih hv0
        · refine sb_some (s_gR hv0 rfl) ?_
          refine sb_bindE (s_aI (ch5_3 hv0)) (fun x2 => ?_)
          refine sb_ite ?_ ?_
          · exact ih v0 hv0 v1 v2 (v3 + 1) V
          · exact smX5_nextBirth_b37 ih hv0
def gX5_nextBirth (n : Nat) (v0 : Nat) (v1 : Int32) (V : VT) : Option (Int32 × VT) :=
  gX5_nextBirth_b4 n n v0 v1 v1 0 V
set_option maxHeartbeats 1000000 in
theorem smX5_nextBirth {E : VE} {n : Nat} {v0 : Nat} {v1 : Int32} {V : VT} (h0 : clsAt v0 = some 5)  : fX5_nextBirth n v0 v1 (hpV E V) = (gX5_nextBirth n v0 v1 V).map (fun p => (p.1, hpV E p.2)) := by
  unfold fX5_nextBirth gX5_nextBirth
  refine sb_some (s_isO h0) ?_
  exact smX5_nextBirth_b4 _ v0 h0 v1 v1 0 V
def gX5_potAfterYear (v0 : Nat) (v1 : Int32) (V : VT) : Option (Int32 × VT) :=
  some (if (v1 + (V.F v0 9)) < (200 : Int32) then (v1 + (V.F v0 9)) else (200 : Int32), V)
set_option maxHeartbeats 1000000 in
theorem smX5_potAfterYear {E : VE} {v0 : Nat} {v1 : Int32} {V : VT} (h0 : clsAt v0 = some 5)  : fX5_potAfterYear v0 v1 (hpV E V) = (gX5_potAfterYear v0 v1 V).map (fun p => (p.1, hpV E p.2)) := by
  unfold fX5_potAfterYear gX5_potAfterYear
  refine sb_some (s_isO h0) ?_
  refine sb_some (s_gI h0 rfl) ?_
  rfl
def gX5_price (v0 : Nat) (v1 : Int32) (V : VT) : Option (Int32 × VT) :=
  (rdA 7 (V.A ((v0 + 2))) v1).bind fun x1 =>
  if x1 = 1 then
  (some (2 * (V.F v0 7), V))
  else
  (some (V.F v0 7, V))
set_option maxHeartbeats 1000000 in
theorem smX5_price {E : VE} {v0 : Nat} {v1 : Int32} {V : VT} (h0 : clsAt v0 = some 5)  : fX5_price v0 v1 (hpV E V) = (gX5_price v0 v1 V).map (fun p => (p.1, hpV E p.2)) := by
  unfold fX5_price gX5_price
  refine sb_some (s_isO h0) ?_
  refine sb_some (s_gR h0 rfl) ?_
  refine sb_bindE (s_aI (ch5_2 h0)) (fun x1 => ?_)
  refine sb_ite ?_ ?_
  · refine sb_some (s_gI h0 rfl) ?_
    rfl
  · refine sb_some (s_gI h0 rfl) ?_
    rfl
def gX5_rootBits_b4 (n : Nat) : Nat → Nat → Int32 → Int32 → VT → Option (Int32 × VT)
  | 0, _, _, _, _ => none
  | w + 1, v0, v1, v2, V =>
    if (V.F v0 6) ≤ v2 then
    ((gX5_everyone v0 V).bind fun p1 =>
    some (p1.1 &&& (v1 ^^^ ((-1))), p1.2))
    else
    ((rdA 7 (V.A ((v0 + 5))) v2).bind fun x2 =>
    gX5_rootBits_b4 n w v0 (v1 ||| x2) (v2 + 1) V)
set_option maxHeartbeats 1000000 in
theorem smX5_rootBits_b4 {E : VE} {n : Nat} : ∀ (w : Nat) (v0 : Nat) (hv0 : clsAt v0 = some 5) (v1 : Int32)  (v2 : Int32)  (V : VT), fX5_rootBits_b4 n w v0 v1 v2 (hpV E V) = (gX5_rootBits_b4 n w v0 v1 v2 V).map (fun p => (p.1, hpV E p.2)) := by
  intro w
  induction w with
  | zero => intro v0 hv0 v1 v2 V; rfl
  | succ w ih =>
    intro v0 hv0 v1 v2 V
    unfold fX5_rootBits_b4 gX5_rootBits_b4
    refine sb_some (s_gI hv0 rfl) ?_
    refine sb_ite ?_ ?_
    · refine sb_P (o' := gX5_everyone v0 V) (smX5_everyone hv0) (fun p1 => ?_)
      rfl
    · refine sb_some (s_gR hv0 rfl) ?_
      refine sb_bindE (s_aI (ch5_5 hv0)) (fun x2 => ?_)
      exact ih v0 hv0 (v1 ||| x2) (v2 + 1) V
def gX5_rootBits (n : Nat) (v0 : Nat) (V : VT) : Option (Int32 × VT) :=
  gX5_rootBits_b4 n n v0 0 0 V
set_option maxHeartbeats 1000000 in
theorem smX5_rootBits {E : VE} {n : Nat} {v0 : Nat} {V : VT} (h0 : clsAt v0 = some 5) : fX5_rootBits n v0 (hpV E V) = (gX5_rootBits n v0 V).map (fun p => (p.1, hpV E p.2)) := by
  unfold fX5_rootBits gX5_rootBits
  refine sb_some (s_isO h0) ?_
  exact smX5_rootBits_b4 _ v0 h0 0 0 V
