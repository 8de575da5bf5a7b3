/-! Functions over the views, and that the functions over the abstract heap are these (written by gen2.py). -/
def gX10_rightBy_b4 (n : Nat) : Nat → Int32 → Int32 → Int32 → VT → Option (Int32 × VT)
  | 0, _, _, _, _ => none
  | w + 1, v1, v2, v3, V =>
    if (V.A 139 0) ≤ v3 then
    (some (v2, V))
    else
    ((rdA 7 (V.A 173) v3).bind fun x2 =>
    if (x2 &&& v1) = 0 then
    (gX10_rightBy_b4 n w v1 (v2 ||| 0) (v3 + 1) V)
    else
    (gX10_rightBy_b4 n w v1 (v2 ||| ((1 : Int32) <<< (v3 &&& 31))) (v3 + 1) V))
set_option maxHeartbeats 1000000 in
theorem smX10_rightBy_b4 {E : VE} {n : Nat} : ∀ (w : Nat) (v1 : Int32)  (v2 : Int32)  (v3 : Int32)  (V : VT), fX10_rightBy_b4 n w 137 v1 v2 v3 (hpV E V) = (gX10_rightBy_b4 n w v1 v2 v3 V).map (fun p => (p.1, hpV E p.2)) := by
  intro w
  induction w with
  | zero => intro v1 v2 v3 V; rfl
  | succ w ih =>
    intro v1 v2 v3 V
    unfold fX10_rightBy_b4 gX10_rightBy_b4
    refine sb_some (s_gR rfl rfl) ?_
    refine sb_some ((s_aI rfl).trans (rdA_at (k := 0) (by decide) (by decide))) ?_
    refine sb_ite ?_ ?_
    · rfl
    · refine sb_some (s_gR rfl rfl) ?_
      refine sb_bindE (s_aI rfl) (fun x2 => ?_)
      refine sb_ite ?_ ?_
      · exact ih v1 (v2 ||| 0) (v3 + 1) V
      · exact ih v1 (v2 ||| ((1 : Int32) <<< (v3 &&& 31))) (v3 + 1) V
def gX10_rightBy (n : Nat) (v1 : Int32) (V : VT) : Option (Int32 × VT) :=
  gX10_rightBy_b4 n n v1 v1 0 V
set_option maxHeartbeats 1000000 in
theorem smX10_rightBy {E : VE} {n : Nat} {v1 : Int32} {V : VT}  : fX10_rightBy n 137 v1 (hpV E V) = (gX10_rightBy n v1 V).map (fun p => (p.1, hpV E p.2)) := by
  unfold fX10_rightBy gX10_rightBy
  refine sb_some (s_isO rfl) ?_
  exact smX10_rightBy_b4 _ v1 v1 0 V
def gX10_rightAll_b15 (n : Nat) : Nat → Int32 → Int32 → Int32 → VT → Option (Int32 × VT)
  | 0, _, _, _, _ => none
  | w + 1, v1, v2, v3, V =>
    (gX10_every V).bind fun p1 =>
    if p1.1 < v3 then
    (if v2 = 1000000 then
    (some ((-1), p1.2))
    else
    (some (v2, p1.2)))
    else
    ((gX10_rightBy n (v3 ||| v1) p1.2).bind fun p2 =>
    (gX10_every p2.2).bind fun p3 =>
    if p2.1 = p3.1 then
    ((gX10_costsOf n v3 p3.2).bind fun p4 =>
    gX10_rightAll_b15 n w v1 (if p4.1 < v2 then p4.1 else v2) (v3 + 1) p4.2)
    else
    (gX10_rightAll_b15 n w v1 v2 (v3 + 1) p3.2))
set_option maxHeartbeats 1000000 in
theorem smX10_rightAll_b15 {E : VE} {n : Nat} : ∀ (w : Nat) (v1 : Int32)  (v2 : Int32)  (v3 : Int32)  (V : VT), fX10_rightAll_b15 n w 137 v1 v2 v3 (hpV E V) = (gX10_rightAll_b15 n w v1 v2 v3 V).map (fun p => (p.1, hpV E p.2)) := by
  intro w
  induction w with
  | zero => intro v1 v2 v3 V; rfl
  | succ w ih =>
    intro v1 v2 v3 V
    unfold fX10_rightAll_b15 gX10_rightAll_b15
    refine sb_P (o' := gX10_every V) (smX10_every) (fun p1 => ?_)
    refine sb_ite ?_ ?_
    · refine sb_ite ?_ ?_
      · rfl
      · rfl
    · refine sb_P (o' := gX10_rightBy n (v3 ||| v1) p1.2) (smX10_rightBy) (fun p2 => ?_)
      refine sb_P (o' := gX10_every p2.2) (smX10_every) (fun p3 => ?_)
      refine sb_ite ?_ ?_
      · refine sb_P (o' := gX10_costsOf n v3 p3.2) (smX10_costsOf) (fun p4 => ?_)
        exact ih v1 (if p4.1 < v2 then p4.1 else v2) (v3 + 1) p4.2
      · exact ih v1 v2 (v3 + 1) p3.2
def gX10_rightAll (n : Nat)  (V : VT) : Option (Int32 × VT) :=
  (gX10_laysCosts n V).bind fun V1 =>
  (gX10_meantNow n V1).bind fun p2 =>
  gX10_rightAll_b15 n n p2.1 1000000 0 p2.2
set_option maxHeartbeats 1000000 in
theorem smX10_rightAll {E : VE} {n : Nat}  {V : VT}  : fX10_rightAll n 137 (hpV E V) = (gX10_rightAll n  V).map (fun p => (p.1, hpV E p.2)) := by
  unfold fX10_rightAll gX10_rightAll
  refine sb_some (s_isO rfl) ?_
  refine sb_V (o' := gX10_laysCosts n V) (smX10_laysCosts) (fun V1 => ?_)
  refine sb_P (o' := gX10_meantNow n V1) (smX10_meantNow) (fun p2 => ?_)
  exact smX10_rightAll_b15 _ p2.1 1000000 0 p2.2
def gX10_all (n : Nat)  (V : VT) : Option (Int32 × VT) :=
  (some (wF V 137 0 0)).bind fun V1 =>
  (gX10_rightAll n V1).bind fun p2 =>
  some (p2.1, p2.2)
set_option maxHeartbeats 1000000 in
theorem smX10_all {E : VE} {n : Nat}  {V : VT}  : fX10_all n 137 (hpV E V) = (gX10_all n  V).map (fun p => (p.1, hpV E p.2)) := by
  unfold fX10_all gX10_all
  refine sb_some (s_isO rfl) ?_
  refine sb_V (o' := some (wF V 137 0 0)) (w10_0 rfl) (fun V1 => ?_)
  refine sb_P (o' := gX10_rightAll n V1) (smX10_rightAll) (fun p2 => ?_)
  rfl
def gX10_allOf_b4 (n : Nat) : Nat → Int32 → Int32 → Int32 → VT → Option (Int32 × VT)
  | 0, _, _, _, _ => none
  | w + 1, v1, v2, v3, V =>
    if 7 ≤ v3 then
    (some (v2, V))
    else
    ((rdA 16 (V.A 167) (v1 + v3)).bind fun x1 =>
    gX10_allOf_b4 n w v1 (v2 + x1) (v3 + 1) V)
set_option maxHeartbeats 1000000 in
theorem smX10_allOf_b4 {E : VE} {n : Nat} : ∀ (w : Nat) (v1 : Int32)  (v2 : Int32)  (v3 : Int32)  (V : VT), fX10_allOf_b4 n w 137 v1 v2 v3 (hpV E V) = (gX10_allOf_b4 n w v1 v2 v3 V).map (fun p => (p.1, hpV E p.2)) := by
  intro w
  induction w with
  | zero => intro v1 v2 v3 V; rfl
  | succ w ih =>
    intro v1 v2 v3 V
    unfold fX10_allOf_b4 gX10_allOf_b4
    refine sb_ite ?_ ?_
    · rfl
    · refine sb_some (s_gR rfl rfl) ?_
      refine sb_bindE (s_aI rfl) (fun x1 => ?_)
      exact ih v1 (v2 + x1) (v3 + 1) V
def gX10_allOf (n : Nat) (v1 : Int32) (V : VT) : Option (Int32 × VT) :=
  gX10_allOf_b4 n n v1 0 0 V
set_option maxHeartbeats 1000000 in
theorem smX10_allOf {E : VE} {n : Nat} {v1 : Int32} {V : VT}  : fX10_allOf n 137 v1 (hpV E V) = (gX10_allOf n v1 V).map (fun p => (p.1, hpV E p.2)) := by
  unfold fX10_allOf gX10_allOf
  refine sb_some (s_isO rfl) ?_
  exact smX10_allOf_b4 _ v1 0 0 V
def gX10_bare_b9 (n : Nat) : Nat → Int32 → Int32 → VT → Option (Int32 × VT)
  | 0, _, _, _ => none
  | w + 1, v1, v2, V =>
    if (V.A 139 0) ≤ v2 then
    (some (v1, V))
    else
    ((rdA 14 (V.A 141) v2).bind fun x2 =>
    if x2 = 3 then
    ((rdA 16 (V.A 167) (2 + v2)).bind fun x3 =>
    if x3 ≤ 0 then
    (gX10_bare_b9 n w (v1 ||| 0) (v2 + 1) V)
    else
    (gX10_bare_b9 n w (v1 ||| ((1 : Int32) <<< (v2 &&& 31))) (v2 + 1) V))
    else
    (gX10_bare_b9 n w (v1 ||| 0) (v2 + 1) V))
set_option maxHeartbeats 1000000 in
theorem smX10_bare_b9 {E : VE} {n : Nat} : ∀ (w : Nat) (v1 : Int32)  (v2 : Int32)  (V : VT), fX10_bare_b9 n w 137 v1 v2 (hpV E V) = (gX10_bare_b9 n w v1 v2 V).map (fun p => (p.1, hpV E p.2)) := by
  intro w
  induction w with
  | zero => intro v1 v2 V; rfl
  | succ w ih =>
    intro v1 v2 V
    unfold fX10_bare_b9 gX10_bare_b9
    refine sb_some (s_gR rfl rfl) ?_
    refine sb_some ((s_aI rfl).trans (rdA_at (k := 0) (by decide) (by decide))) ?_
    refine sb_ite ?_ ?_
    · rfl
    · refine sb_some (s_gR rfl rfl) ?_
      refine sb_bindE (s_aI rfl) (fun x2 => ?_)
      refine sb_ite ?_ ?_
      · refine sb_some (s_gR rfl rfl) ?_
        refine sb_bindE (s_aI rfl) (fun x3 => ?_)
        refine sb_ite ?_ ?_
        · exact ih (v1 ||| 0) (v2 + 1) V
        · exact ih (v1 ||| ((1 : Int32) <<< (v2 &&& 31))) (v2 + 1) V
      · exact ih (v1 ||| 0) (v2 + 1) V
def gX10_bare (n : Nat)  (V : VT) : Option (Int32 × VT) :=
  (some (wF V 137 0 0)).bind fun V1 =>
  gX10_bare_b9 n n 0 0 V1
set_option maxHeartbeats 1000000 in
theorem smX10_bare {E : VE} {n : Nat}  {V : VT}  : fX10_bare n 137 (hpV E V) = (gX10_bare n  V).map (fun p => (p.1, hpV E p.2)) := by
  unfold fX10_bare gX10_bare
  refine sb_some (s_isO rfl) ?_
  refine sb_V (o' := some (wF V 137 0 0)) (w10_0 rfl) (fun V1 => ?_)
  exact smX10_bare_b9 _ 0 0 V1
def gX10_signAt (v1 : Int32) (V : VT) : Option (Int32 × VT) :=
  if (V.F 137 3) ≤ v1 then
  (some (0, V))
  else
  ((rdA 1000 (V.A 138) v1).bind fun x1 =>
  some (x1, V))
set_option maxHeartbeats 1000000 in
theorem smX10_signAt {E : VE} {v1 : Int32} {V : VT}  : fX10_signAt 137 v1 (hpV E V) = (gX10_signAt v1 V).map (fun p => (p.1, hpV E p.2)) := by
  unfold fX10_signAt gX10_signAt
  refine sb_some (s_isO rfl) ?_
  refine sb_some (s_gI rfl rfl) ?_
  refine sb_ite ?_ ?_
  · rfl
  · refine sb_some (s_gR rfl rfl) ?_
    refine sb_bindE (s_aI rfl) (fun x1 => ?_)
    rfl
def gX10_nextToken_b368 (n : Nat) (s0 : Int32) (V : VT) : Option (VT) :=
  (some (wF V 137 6 s0)).bind fun V1 =>
  some V1
set_option maxHeartbeats 1000000 in
theorem smX10_nextToken_b368 {E : VE} {n : Nat} {s0 : Int32} {V : VT}  : fX10_nextToken_b368 n s0 137 (hpV E V) = (gX10_nextToken_b368 n s0 V).map (hpV E) := by
  unfold fX10_nextToken_b368 gX10_nextToken_b368
  refine sb_V (o' := some (wF V 137 6 s0)) (w10_6 rfl) (fun V1 => ?_)
  rfl
def gX10_nextToken_b367 (n : Nat)  (V : VT) : Option (VT) :=
  gX10_nextToken_b368 n 4 V
set_option maxHeartbeats 1000000 in
theorem smX10_nextToken_b367 {E : VE} {n : Nat}  {V : VT}  : fX10_nextToken_b367 n 137 (hpV E V) = (gX10_nextToken_b367 n  V).map (hpV E) := by
  unfold fX10_nextToken_b367 gX10_nextToken_b367
  exact smX10_nextToken_b368
def gX10_nextToken_b363 (n : Nat)  (V : VT) : Option (VT) :=
  gX10_nextToken_b368 n 3 V
set_option maxHeartbeats 1000000 in
theorem smX10_nextToken_b363 {E : VE} {n : Nat}  {V : VT}  : fX10_nextToken_b363 n 137 (hpV E V) = (gX10_nextToken_b363 n  V).map (hpV E) := by
  unfold fX10_nextToken_b363 gX10_nextToken_b363
  exact smX10_nextToken_b368
def gX10_nextToken_b345 (n : Nat) (v1 : Int32) (V : VT) : Option (VT) :=
  if v1 = 45 then
  (gX10_nextToken_b363 n V)
  else
  (if v1 < 59 then
  (gX10_nextToken_b367 n V)
  else
  (if 61 < v1 then
  (gX10_nextToken_b367 n V)
  else
  (gX10_nextToken_b363 n V)))
set_option maxHeartbeats 1000000 in
theorem smX10_nextToken_b345 {E : VE} {n : Nat} {v1 : Int32} {V : VT}  : fX10_nextToken_b345 n v1 137 (hpV E V) = (gX10_nextToken_b345 n v1 V).map (hpV E) := by
  unfold fX10_nextToken_b345 gX10_nextToken_b345
  refine sb_ite ?_ ?_
  · exact smX10_nextToken_b363
  · refine sb_ite ?_ ?_
    · exact smX10_nextToken_b367
    · refine sb_ite ?_ ?_
      · exact smX10_nextToken_b367
      · exact smX10_nextToken_b363
def gX10_nextToken_b322 (n : Nat) (v1 : Int32) (V : VT) : Option (VT) :=
  (some (wF V 137 4 ((V.F 137 4) + 1))).bind fun V1 =>
  if v1 < 40 then
  (gX10_nextToken_b345 n v1 V1)
  else
  (if v1 ≤ 43 then
  (gX10_nextToken_b363 n V1)
  else
  (gX10_nextToken_b345 n v1 V1))
set_option maxHeartbeats 1000000 in
theorem smX10_nextToken_b322 {E : VE} {n : Nat} {v1 : Int32} {V : VT}  : fX10_nextToken_b322 n 137 v1 (hpV E V) = (gX10_nextToken_b322 n v1 V).map (hpV E) := by
  unfold fX10_nextToken_b322 gX10_nextToken_b322
  refine sb_some (s_gI rfl rfl) ?_
  refine sb_V (o' := some (wF V 137 4 ((V.F 137 4) + 1))) (w10_4 rfl) (fun V1 => ?_)
  refine sb_ite ?_ ?_
  · exact smX10_nextToken_b345
  · refine sb_ite ?_ ?_
    · exact smX10_nextToken_b363
    · exact smX10_nextToken_b345
def gX10_nextToken_b318 (n : Nat) (s0 : Int32) (V : VT) : Option (VT) :=
  (some (wF V 137 6 s0)).bind fun V1 =>
  some V1
set_option maxHeartbeats 1000000 in
theorem smX10_nextToken_b318 {E : VE} {n : Nat} {s0 : Int32} {V : VT}  : fX10_nextToken_b318 n s0 137 (hpV E V) = (gX10_nextToken_b318 n s0 V).map (hpV E) := by
  unfold fX10_nextToken_b318 gX10_nextToken_b318
  refine sb_V (o' := some (wF V 137 6 s0)) (w10_6 rfl) (fun V1 => ?_)
  rfl
def gX10_nextToken_b299 (n : Nat)  (V : VT) : Option (VT) :=
  if ((V.F 137 4) - (V.F 137 5)) ≤ 4 then
  (gX10_nextToken_b318 n 2 V)
  else
  (gX10_nextToken_b318 n 4 V)
set_option maxHeartbeats 1000000 in
theorem smX10_nextToken_b299 {E : VE} {n : Nat}  {V : VT}  : fX10_nextToken_b299 n 137 (hpV E V) = (gX10_nextToken_b299 n  V).map (hpV E) := by
  unfold fX10_nextToken_b299 gX10_nextToken_b299
  refine sb_some (s_gI rfl rfl) ?_
  refine sb_some (s_gI rfl rfl) ?_
  refine sb_ite ?_ ?_
  · exact smX10_nextToken_b318
  · exact smX10_nextToken_b318
def gX10_nextToken_b286 (n : Nat) (K224 : VT → Option (VT))  (V : VT) : Option (VT) :=
  (some (wF V 137 4 ((V.F 137 4) + 1))).bind fun V1 =>
  K224 V1
set_option maxHeartbeats 1000000 in
theorem smX10_nextToken_b286 {E : VE} {n : Nat} {K224 : VT → Option (VT)} {k224 : Nat → qH → Option (qH)}  {V : VT} (hK224 : ∀ (V : VT), k224 137 (hpV E V) = (K224  V).map (hpV E))  : fX10_nextToken_b286 n k224 137 (hpV E V) = (gX10_nextToken_b286 n K224  V).map (hpV E) := by
  unfold fX10_nextToken_b286 gX10_nextToken_b286
  refine sb_some (s_gI rfl rfl) ?_
  refine sb_V (o' := some (wF V 137 4 ((V.F 137 4) + 1))) (w10_4 rfl) (fun V1 => ?_)
  exact hK224 V1
def gX10_nextToken_b224 (n : Nat) : Nat → VT → Option (VT)
  | 0, _ => none
  | w + 1, V =>
    (gX10_signAt (V.F 137 4) V).bind fun p1 =>
    if p1.1 < 48 then
    (gX10_nextToken_b299 n p1.2)
    else
    ((gX10_signAt (p1.2.F 137 4) p1.2).bind fun p2 =>
    if 57 < p2.1 then
    (gX10_nextToken_b299 n p2.2)
    else
    (if 4 ≤ ((p2.2.F 137 4) - (p2.2.F 137 5)) then
    (gX10_nextToken_b286 n (gX10_nextToken_b224 n w) p2.2)
    else
    ((gX10_signAt (p2.2.F 137 4) p2.2).bind fun p3 =>
    (some (wF p3.2 137 8 ((((p2.2.F 137 8) * 10) + p3.1) - 48))).bind fun V4 =>
    gX10_nextToken_b286 n (gX10_nextToken_b224 n w) V4)))
set_option maxHeartbeats 1000000 in
theorem smX10_nextToken_b224 {E : VE} {n : Nat} : ∀ (w : Nat) (V : VT), fX10_nextToken_b224 n w 137 (hpV E V) = (gX10_nextToken_b224 n w  V).map (hpV E) := by
  intro w
  induction w with
  | zero => intro  V; rfl
  | succ w ih =>
    intro  V
    unfold fX10_nextToken_b224 gX10_nextToken_b224
    refine sb_some (s_gI rfl rfl) ?_
    refine sb_P (o' := gX10_signAt (V.F 137 4) V) (smX10_signAt) (fun p1 => ?_)
    refine sb_ite ?_ ?_
    · exact smX10_nextToken_b299
    · refine sb_some (s_gI rfl rfl) ?_
      refine sb_P (o' := gX10_signAt (p1.2.F 137 4) p1.2) (smX10_signAt) (fun p2 => ?_)
      refine sb_ite ?_ ?_
      · exact smX10_nextToken_b299
      · refine sb_some (s_gI rfl rfl) ?_
        refine sb_some (s_gI rfl rfl) ?_
        refine sb_ite ?_ ?_
        · exact smX10_nextToken_b286 ih
        · refine sb_some (s_gI rfl rfl) ?_
          refine sb_some (s_gI rfl rfl) ?_
          refine sb_P (o' := gX10_signAt (p2.2.F 137 4) p2.2) (smX10_signAt) (fun p3 => ?_)
          refine sb_V (o' := some (wF p3.2 137 8 ((((p2.2.F 137 8) * 10) + p3.1) - 48))) (w10_8 rfl) (fun V4 => ?_)
          exact smX10_nextToken_b286 ih
def gX10_nextToken_b212 (n : Nat) (v1 : Int32) (V : VT) : Option (VT) :=
  if v1 < 48 then
  (gX10_nextToken_b322 n v1 V)
  else
  (if 57 < v1 then
  (gX10_nextToken_b322 n v1 V)
  else
  (gX10_nextToken_b224 n n V))
set_option maxHeartbeats 1000000 in
theorem smX10_nextToken_b212 {E : VE} {n : Nat} {v1 : Int32} {V : VT}  : fX10_nextToken_b212 n 137 v1 (hpV E V) = (gX10_nextToken_b212 n v1 V).map (hpV E) := by
  unfold fX10_nextToken_b212 gX10_nextToken_b212
  refine sb_ite ?_ ?_
  · exact smX10_nextToken_b322
  · refine sb_ite ?_ ?_
    · exact smX10_nextToken_b322
    · exact smX10_nextToken_b224 _ V
def gX10_nextToken_b208 (n : Nat) (s0 : Int32) (V : VT) : Option (VT) :=
  (some (wF V 137 6 s0)).bind fun V1 =>
  some V1
set_option maxHeartbeats 1000000 in
theorem smX10_nextToken_b208 {E : VE} {n : Nat} {s0 : Int32} {V : VT}  : fX10_nextToken_b208 n s0 137 (hpV E V) = (gX10_nextToken_b208 n s0 V).map (hpV E) := by
  unfold fX10_nextToken_b208 gX10_nextToken_b208
  refine sb_V (o' := some (wF V 137 6 s0)) (w10_6 rfl) (fun V1 => ?_)
  rfl
def gX10_nextToken_b188 (n : Nat)  (V : VT) : Option (VT) :=
  if ((V.F 137 4) - (V.F 137 5)) ≤ 8 then
  (gX10_nextToken_b208 n 1 V)
  else
  (gX10_nextToken_b208 n 4 V)
set_option maxHeartbeats 1000000 in
theorem smX10_nextToken_b188 {E : VE} {n : Nat}  {V : VT}  : fX10_nextToken_b188 n 137 (hpV E V) = (gX10_nextToken_b188 n  V).map (hpV E) := by
  unfold fX10_nextToken_b188 gX10_nextToken_b188
  refine sb_some (s_gI rfl rfl) ?_
  refine sb_some (s_gI rfl rfl) ?_
  refine sb_ite ?_ ?_
  · exact smX10_nextToken_b208
  · exact smX10_nextToken_b208
def gX10_nextToken_b175 (n : Nat) (K109 : VT → Option (VT))  (V : VT) : Option (VT) :=
  (some (wF V 137 4 ((V.F 137 4) + 1))).bind fun V1 =>
  K109 V1
set_option maxHeartbeats 1000000 in
theorem smX10_nextToken_b175 {E : VE} {n : Nat} {K109 : VT → Option (VT)} {k109 : Nat → qH → Option (qH)}  {V : VT} (hK109 : ∀ (V : VT), k109 137 (hpV E V) = (K109  V).map (hpV E))  : fX10_nextToken_b175 n k109 137 (hpV E V) = (gX10_nextToken_b175 n K109  V).map (hpV E) := by
  unfold fX10_nextToken_b175 gX10_nextToken_b175
  refine sb_some (s_gI rfl rfl) ?_
  refine sb_V (o' := some (wF V 137 4 ((V.F 137 4) + 1))) (w10_4 rfl) (fun V1 => ?_)
  exact hK109 V1
def gX10_nextToken_b109 (n : Nat) : Nat → VT → Option (VT)
  | 0, _ => none
  | w + 1, V =>
    (gX10_signAt (V.F 137 4) V).bind fun p1 =>
    if p1.1 < 97 then
    (gX10_nextToken_b188 n p1.2)
    else
    ((gX10_signAt (p1.2.F 137 4) p1.2).bind fun p2 =>
    if 122 < p2.1 then
    (gX10_nextToken_b188 n p2.2)
    else
    (if 8 ≤ ((p2.2.F 137 4) - (p2.2.F 137 5)) then
    (gX10_nextToken_b175 n (gX10_nextToken_b109 n w) p2.2)
    else
    ((gX10_signAt (p2.2.F 137 4) p2.2).bind fun p3 =>
    (some (wG p3.2 137 7 ((((p2.2.G 137 7) * 27) + p3.1.toInt64) - 96))).bind fun V4 =>
    gX10_nextToken_b175 n (gX10_nextToken_b109 n w) V4)))
set_option maxHeartbeats 1000000 in
theorem smX10_nextToken_b109 {E : VE} {n : Nat} : ∀ (w : Nat) (V : VT), fX10_nextToken_b109 n w 137 (hpV E V) = (gX10_nextToken_b109 n w  V).map (hpV E) := by
  intro w
  induction w with
  | zero => intro  V; rfl
  | succ w ih =>
    intro  V
    unfold fX10_nextToken_b109 gX10_nextToken_b109
    refine sb_some (s_gI rfl rfl) ?_
    refine sb_P (o' := gX10_signAt (V.F 137 4) V) (smX10_signAt) (fun p1 => ?_)
    refine sb_ite ?_ ?_
    · exact smX10_nextToken_b188
    · refine sb_some (s_gI rfl rfl) ?_
      refine sb_P (o' := gX10_signAt (p1.2.F 137 4) p1.2) (smX10_signAt) (fun p2 => ?_)
      refine sb_ite ?_ ?_
      · exact smX10_nextToken_b188
      · refine sb_some (s_gI rfl rfl) ?_
        refine sb_some (s_gI rfl rfl) ?_
        refine sb_ite ?_ ?_
        · exact smX10_nextToken_b175 ih
        · refine sb_some (s_gL rfl rfl) ?_
          refine sb_some (s_gI rfl rfl) ?_
          refine sb_P (o' := gX10_signAt (p2.2.F 137 4) p2.2) (smX10_signAt) (fun p3 => ?_)
          refine sb_V (o' := some (wG p3.2 137 7 ((((p2.2.G 137 7) * 27) + p3.1.toInt64) - 96))) (w10_7 rfl) (fun V4 => ?_)
          exact smX10_nextToken_b175 ih
def gX10_nextToken_b52 (n : Nat)  (V : VT) : Option (VT) :=
  (some (wF V 137 5 (V.F 137 4))).bind fun V1 =>
  (some (wG V1 137 7 0)).bind fun V2 =>
  (some (wF V2 137 8 0)).bind fun V3 =>
  if (V3.F 137 4) = (V3.F 137 3) then
  ((some (wF V3 137 6 0)).bind fun V5 =>
  some V5)
  else
  ((rdA 1000 (V3.A 138) (V3.F 137 4)).bind fun x4 =>
  if x4 < 97 then
  (gX10_nextToken_b212 n x4 V3)
  else
  (if 122 < x4 then
  (gX10_nextToken_b212 n x4 V3)
  else
  (gX10_nextToken_b109 n n V3)))
set_option maxHeartbeats 1000000 in
theorem smX10_nextToken_b52 {E : VE} {n : Nat}  {V : VT}  : fX10_nextToken_b52 n 137 (hpV E V) = (gX10_nextToken_b52 n  V).map (hpV E) := by
  unfold fX10_nextToken_b52 gX10_nextToken_b52
  refine sb_some (s_gI rfl rfl) ?_
  refine sb_V (o' := some (wF V 137 5 (V.F 137 4))) (w10_5 rfl) (fun V1 => ?_)
  refine sb_V (o' := some (wG V1 137 7 0)) (w10_7 rfl) (fun V2 => ?_)
  refine sb_V (o' := some (wF V2 137 8 0)) (w10_8 rfl) (fun V3 => ?_)
  refine sb_some (s_gI rfl rfl) ?_
  refine sb_some (s_gI rfl rfl) ?_
  refine sb_ite ?_ ?_
  · refine sb_V (o' := some (wF V3 137 6 0)) (w10_6 rfl) (fun V5 => ?_)
    rfl
  · refine sb_some (s_gR rfl rfl) ?_
    refine sb_some (s_gI rfl rfl) ?_
    refine sb_bindE (s_aI rfl) (fun x4 => ?_)
    refine sb_ite ?_ ?_
    · exact smX10_nextToken_b212
    · refine sb_ite ?_ ?_
      · exact smX10_nextToken_b212
      · exact smX10_nextToken_b109 _ V3
def gX10_nextToken_b39 (n : Nat) (K0 : VT → Option (VT))  (V : VT) : Option (VT) :=
  (some (wF V 137 4 ((V.F 137 4) + 1))).bind fun V1 =>
  K0 V1
set_option maxHeartbeats 1000000 in
theorem smX10_nextToken_b39 {E : VE} {n : Nat} {K0 : VT → Option (VT)} {k0 : Nat → qH → Option (qH)}  {V : VT} (hK0 : ∀ (V : VT), k0 137 (hpV E V) = (K0  V).map (hpV E))  : fX10_nextToken_b39 n k0 137 (hpV E V) = (gX10_nextToken_b39 n K0  V).map (hpV E) := by
  unfold fX10_nextToken_b39 gX10_nextToken_b39
  refine sb_some (s_gI rfl rfl) ?_
  refine sb_V (o' := some (wF V 137 4 ((V.F 137 4) + 1))) (w10_4 rfl) (fun V1 => ?_)
  exact hK0 V1
def gX10_nextToken_b0 (n : Nat) : Nat → VT → Option (VT)
  | 0, _ => none
  | w + 1, V =>
    if (V.F 137 3) ≤ (V.F 137 4) then
    (gX10_nextToken_b52 n V)
    else
    ((rdA 1000 (V.A 138) (V.F 137 4)).bind fun x1 =>
    if x1 = 32 then
    (gX10_nextToken_b39 n (gX10_nextToken_b0 n w) V)
    else
    ((rdA 1000 (V.A 138) (V.F 137 4)).bind fun x2 =>
    if x2 = 10 then
    (gX10_nextToken_b39 n (gX10_nextToken_b0 n w) V)
    else
    (gX10_nextToken_b52 n V)))
set_option maxHeartbeats 1000000 in
theorem smX10_nextToken_b0 {E : VE} {n : Nat} : ∀ (w : Nat) (V : VT), fX10_nextToken_b0 n w 137 (hpV E V) = (gX10_nextToken_b0 n w  V).map (hpV E) := by
  intro w
  induction w with
  | zero => intro  V; rfl
  | succ w ih =>
    intro  V
    unfold fX10_nextToken_b0 gX10_nextToken_b0
    refine sb_some (s_gI rfl rfl) ?_
    refine sb_some (s_gI rfl rfl) ?_
    refine sb_ite ?_ ?_
    · exact smX10_nextToken_b52
    · refine sb_some (s_gR rfl rfl) ?_
      refine sb_some (s_gI rfl rfl) ?_
      refine sb_bindE (s_aI rfl) (fun x1 => ?_)
      refine sb_ite ?_ ?_
      · exact smX10_nextToken_b39 ih
      · refine sb_some (s_gR rfl rfl) ?_
        refine sb_some (s_gI rfl rfl) ?_
        refine sb_bindE (s_aI rfl) (fun x2 => ?_)
        refine sb_ite ?_ ?_
        · exact smX10_nextToken_b39 ih
        · exact smX10_nextToken_b52
def gX10_nextToken (n : Nat)  (V : VT) : Option (VT) :=
  gX10_nextToken_b0 n n V
set_option maxHeartbeats 1000000 in
theorem smX10_nextToken {E : VE} {n : Nat}  {V : VT}  : fX10_nextToken n 137 (hpV E V) = (gX10_nextToken n  V).map (hpV E) := by
  unfold fX10_nextToken gX10_nextToken
  refine sb_some (s_isO rfl) ?_
  exact smX10_nextToken_b0 _ V
def gX10_begins (n : Nat)  (V : VT) : Option (VT) :=
  (some (wF V 137 3 (V.F 137 1))).bind fun V1 =>
  (some (wF V1 137 1 0)).bind fun V2 =>
  (some (wF V2 137 4 0)).bind fun V3 =>
  (gX10_nextToken n V3).bind fun V4 =>
  some V4
set_option maxHeartbeats 1000000 in
theorem smX10_begins {E : VE} {n : Nat}  {V : VT}  : fX10_begins n 137 (hpV E V) = (gX10_begins n  V).map (hpV E) := by
  unfold fX10_begins gX10_begins
  refine sb_some (s_isO rfl) ?_
  refine sb_some (s_gI rfl rfl) ?_
  refine sb_V (o' := some (wF V 137 3 (V.F 137 1))) (w10_3 rfl) (fun V1 => ?_)
  refine sb_V (o' := some (wF V1 137 1 0)) (w10_1 rfl) (fun V2 => ?_)
  refine sb_V (o' := some (wF V2 137 4 0)) (w10_4 rfl) (fun V3 => ?_)
  refine sb_V (o' := gX10_nextToken n V3) (smX10_nextToken) (fun V4 => ?_)
  rfl
def gX10_bits_b4 (n : Nat) : Nat → Int32 → Int32 → Int32 → VT → Option (Int32 × VT)
  | 0, _, _, _, _ => none
  | w + 1, v0, v1, v2, V =>
    if 7 ≤ v2 then
    (some (v1, V))
    else
    (gX10_bits_b4 n w v0 (v1 + ((v0 >>> (v2 &&& 31)) &&& 1)) (v2 + 1) V)
set_option maxHeartbeats 1000000 in
theorem smX10_bits_b4 {E : VE} {n : Nat} : ∀ (w : Nat) (v0 : Int32)  (v1 : Int32)  (v2 : Int32)  (V : VT), fX10_bits_b4 n w v0 v1 v2 (hpV E V) = (gX10_bits_b4 n w v0 v1 v2 V).map (fun p => (p.1, hpV E p.2)) := by
  intro w
  induction w with
  | zero => intro v0 v1 v2 V; rfl
  | succ w ih =>
    intro v0 v1 v2 V
    unfold fX10_bits_b4 gX10_bits_b4
    refine sb_ite ?_ ?_
    · rfl
    · exact ih v0 (v1 + ((v0 >>> (v2 &&& 31)) &&& 1)) (v2 + 1) V
def gX10_bits (n : Nat) (v0 : Int32) (V : VT) : Option (Int32 × VT) :=
  gX10_bits_b4 n n v0 0 0 V
set_option maxHeartbeats 1000000 in
theorem smX10_bits {E : VE} {n : Nat} {v0 : Int32} {V : VT}  : fX10_bits n v0 (hpV E V) = (gX10_bits n v0 V).map (fun p => (p.1, hpV E p.2)) := by
  unfold fX10_bits gX10_bits
  exact smX10_bits_b4 _ v0 0 0 V
def gX10_byYears_b67 (n : Nat) (K17 : Int32 → Int32 → Int32 → Int32 → VT → Option (Int32 × VT)) (v1 : Int32) (v2 : Int32) (v4 : Int32) (s0 : Int32) (V : VT) : Option (Int32 × VT) :=
  K17 v1 v2 (s0 + 1) (v4 + 1) V
set_option maxHeartbeats 1000000 in
theorem smX10_byYears_b67 {E : VE} {n : Nat} {K17 : Int32 → Int32 → Int32 → Int32 → VT → Option (Int32 × VT)} {k17 : Nat → Int32 → Int32 → Int32 → Int32 → qH → Option (Int32 × qH)} {v1 : Int32} {v2 : Int32} {v4 : Int32} {s0 : Int32} {V : VT} (hK17 : ∀ (v1 : Int32)  (v2 : Int32)  (v3 : Int32)  (v4 : Int32)  (V : VT), k17 137 v1 v2 v3 v4 (hpV E V) = (K17 v1 v2 v3 v4 V).map (fun p => (p.1, hpV E p.2)))     : fX10_byYears_b67 n k17 137 v1 v2 v4 s0 (hpV E V) = (gX10_byYears_b67 n K17 v1 v2 v4 s0 V).map (fun p => (p.1, hpV E p.2)) := by
  unfold fX10_byYears_b67 gX10_byYears_b67
  exact hK17 v1 v2 (s0 + 1) (v4 + 1) V
def gX10_byYears_b17 (n : Nat) (K2 : Int32 → Int32 → VT → Option (Int32 × VT)) : Nat → Int32 → Int32 → Int32 → Int32 → VT → Option (Int32 × VT)
  | 0, _, _, _, _, _ => none
  | w + 1, v1, v2, v3, v4, V =>
    if (V.A 139 0) ≤ v4 then
    (if v3 = v1 then
    (some (v2, V))
    else
    (K2 v1 (v2 + 1) V))
    else
    ((rdA 14 (V.A 142) v4).bind fun x2 =>
    (rdA 14 (V.A 142) v2).bind fun x3 =>
    if x2 < x3 then
    (gX10_byYears_b67 n (gX10_byYears_b17 n K2 w) v1 v2 v4 v3 V)
    else
    ((rdA 14 (V.A 142) v4).bind fun x4 =>
    (rdA 14 (V.A 142) v2).bind fun x5 =>
    if x4 = x5 then
    (if v2 ≤ v4 then
    (gX10_byYears_b17 n K2 w v1 v2 (v3 + 0) (v4 + 1) V)
    else
    (gX10_byYears_b67 n (gX10_byYears_b17 n K2 w) v1 v2 v4 v3 V))
    else
    (gX10_byYears_b17 n K2 w v1 v2 (v3 + 0) (v4 + 1) V)))
set_option maxHeartbeats 1000000 in
theorem smX10_byYears_b17 {E : VE} {n : Nat} {K2 : Int32 → Int32 → VT → Option (Int32 × VT)} {k2 : Nat → Int32 → Int32 → qH → Option (Int32 × qH)} (hK2 : ∀ (v1 : Int32)  (v2 : Int32)  (V : VT), k2 137 v1 v2 (hpV E V) = (K2 v1 v2 V).map (fun p => (p.1, hpV E p.2))) : ∀ (w : Nat) (v1 : Int32)  (v2 : Int32)  (v3 : Int32)  (v4 : Int32)  (V : VT), fX10_byYears_b17 n k2 w 137 v1 v2 v3 v4 (hpV E V) = (gX10_byYears_b17 n K2 w v1 v2 v3 v4 V).map (fun p => (p.1, hpV E p.2)) := by
  intro w
  induction w with
  | zero => intro v1 v2 v3 v4 V; rfl
  | succ w ih =>
    intro v1 v2 v3 v4 V
    unfold fX10_byYears_b17 gX10_byYears_b17
    refine sb_some (s_gR rfl rfl) ?_
    refine sb_some ((s_aI rfl).trans (rdA_at (k := 0) (by decide) (by decide))) ?_
    refine sb_ite ?_ ?_
    · refine sb_ite ?_ ?_
      · rfl
      · exact hK2 v1 (v2 + 1) V
    · refine sb_some (s_gR rfl rfl) ?_
      refine sb_bindE (s_aI rfl) (fun x2 => ?_)
      refine sb_some (s_gR rfl rfl) ?_
      refine sb_bindE (s_aI rfl) (fun x3 => ?_)
      refine sb_ite ?_ ?_
      · exact smX10_byYears_b67 ih
      · refine sb_some (s_gR rfl rfl) ?_
        refine sb_bindE (s_aI rfl) (fun x4 => ?_)
        refine sb_some (s_gR rfl rfl) ?_
        refine sb_bindE (s_aI rfl) (fun x5 => ?_)
        refine sb_ite ?_ ?_
        · refine sb_ite ?_ ?_
          · exact ih v1 v2 (v3 + 0) (v4 + 1) V
          · exact smX10_byYears_b67 ih
        · exact ih v1 v2 (v3 + 0) (v4 + 1) V
def gX10_byYears_b2 (n : Nat) : Nat → Int32 → Int32 → VT → Option (Int32 × VT)
  | 0, _, _, _ => none
  | w + 1, v1, v2, V =>
    if (V.A 139 0) ≤ v2 then
    (some ((-1), V))
    else
    (gX10_byYears_b17 n (gX10_byYears_b2 n w) n v1 v2 0 0 V)
set_option maxHeartbeats 1000000 in
theorem smX10_byYears_b2 {E : VE} {n : Nat} : ∀ (w : Nat) (v1 : Int32)  (v2 : Int32)  (V : VT), fX10_byYears_b2 n w 137 v1 v2 (hpV E V) = (gX10_byYears_b2 n w v1 v2 V).map (fun p => (p.1, hpV E p.2)) := by
  intro w
  induction w with
  | zero => intro v1 v2 V; rfl
  | succ w ih =>
    intro v1 v2 V
    unfold fX10_byYears_b2 gX10_byYears_b2
    refine sb_some (s_gR rfl rfl) ?_
    refine sb_some ((s_aI rfl).trans (rdA_at (k := 0) (by decide) (by decide))) ?_
    refine sb_ite ?_ ?_
    · rfl
    · exact smX10_byYears_b17 ih _ v1 v2 0 0 V
def gX10_byYears (n : Nat) (v1 : Int32) (V : VT) : Option (Int32 × VT) :=
  gX10_byYears_b2 n n v1 0 V
set_option maxHeartbeats 1000000 in
theorem smX10_byYears {E : VE} {n : Nat} {v1 : Int32} {V : VT}  : fX10_byYears n 137 v1 (hpV E V) = (gX10_byYears n v1 V).map (fun p => (p.1, hpV E p.2)) := by
  unfold fX10_byYears gX10_byYears
  refine sb_some (s_isO rfl) ?_
  exact smX10_byYears_b2 _ v1 0 V
def gX10_causes_b19 (n : Nat) : Nat → Int32 → Int32 → Int32 → VT → Option (Int32 × VT)
  | 0, _, _, _, _ => none
  | w + 1, v1, v2, v3, V =>
    if (V.A 139 0) ≤ v3 then
    (some (v2, V))
    else
    ((rdA 7 (V.A 173) v3).bind fun x2 =>
    gX10_causes_b19 n w v1 (v2 ||| (((x2 >>> (v1 &&& 31)) &&& 1) <<< (v3 &&& 31))) (v3 + 1) V)
set_option maxHeartbeats 1000000 in
theorem smX10_causes_b19 {E : VE} {n : Nat} : ∀ (w : Nat) (v1 : Int32)  (v2 : Int32)  (v3 : Int32)  (V : VT), fX10_causes_b19 n w 137 v1 v2 v3 (hpV E V) = (gX10_causes_b19 n w v1 v2 v3 V).map (fun p => (p.1, hpV E p.2)) := by
  intro w
  induction w with
  | zero => intro v1 v2 v3 V; rfl
  | succ w ih =>
    intro v1 v2 v3 V
    unfold fX10_causes_b19 gX10_causes_b19
    refine sb_some (s_gR rfl rfl) ?_
    refine sb_some ((s_aI rfl).trans (rdA_at (k := 0) (by decide) (by decide))) ?_
    refine sb_ite ?_ ?_
    · rfl
    · refine sb_some (s_gR rfl rfl) ?_
      refine sb_bindE (s_aI rfl) (fun x2 => ?_)
      exact ih v1 (v2 ||| (((x2 >>> (v1 &&& 31)) &&& 1) <<< (v3 &&& 31))) (v3 + 1) V
def gX10_causes (n : Nat) (v1 : Int32) (V : VT) : Option (Int32 × VT) :=
  (some (wF V 137 0 0)).bind fun V1 =>
  (gX10_isMatter v1 V1).bind fun p2 =>
  if p2.1 = 0 then
  (some ((-1), p2.2))
  else
  (gX10_causes_b19 n n v1 0 0 p2.2)
set_option maxHeartbeats 1000000 in
theorem smX10_causes {E : VE} {n : Nat} {v1 : Int32} {V : VT}  : fX10_causes n 137 v1 (hpV E V) = (gX10_causes n v1 V).map (fun p => (p.1, hpV E p.2)) := by
  unfold fX10_causes gX10_causes
  refine sb_some (s_isO rfl) ?_
  refine sb_V (o' := some (wF V 137 0 0)) (w10_0 rfl) (fun V1 => ?_)
  refine sb_P (o' := gX10_isMatter v1 V1) (smX10_isMatter) (fun p2 => ?_)
  refine sb_ite ?_ ?_
  · rfl
  · exact smX10_causes_b19 _ v1 0 0 p2.2
def gX10_coats (n : Nat) (v1 : Int32) (V : VT) : Option (VT) :=
  (gX10_priceOf v1 V).bind fun p2 =>
  (some (wA p2.2 167 1 ((V.A 167 1) - p2.1))).bind fun V3 =>
  (rdA 14 (V3.A 141) v1).bind fun x4 =>
  if x4 = 3 then
  (some V3)
  else
  ((rdA 16 (V3.A 167) (2 + v1)).bind fun x5 =>
  (rdA 16 (V3.A 167) (2 + v1)).bind fun x6 =>
  (rdA 16 (V3.A 167) (9 + v1)).bind fun x7 =>
  (gX10_takenBy n v1 x6 x7 V3).bind fun p8 =>
  (wrA p8.2 167 16 (2 + v1) (if (0 : Int32) < (x5 - p8.1) then (x5 - p8.1) else (0 : Int32))).bind fun V9 =>
  (rdA 16 (V9.A 167) (9 + v1)).bind fun x10 =>
  (wrA V9 167 16 (9 + v1) (x10 + 1)).bind fun V11 =>
  some V11)
set_option maxHeartbeats 1000000 in
theorem smX10_coats {E : VE} {n : Nat} {v1 : Int32} {V : VT}  : fX10_coats n 137 v1 (hpV E V) = (gX10_coats n v1 V).map (hpV E) := by
  unfold fX10_coats gX10_coats
  refine sb_some (s_isO rfl) ?_
  refine sb_some (s_gR rfl rfl) ?_
  refine sb_some ((s_aI rfl).trans (rdA_at (k := 1) (by decide) (by decide))) ?_
  refine sb_P (o' := gX10_priceOf v1 V) (smX10_priceOf) (fun p2 => ?_)
  refine sb_V (o' := some (wA p2.2 167 1 ((V.A 167 1) - p2.1))) ((s_sI rfl).trans (congrArg _ (wrA_at (k := 1) (by decide) (by decide)))) (fun V3 => ?_)
  refine sb_some (s_gR rfl rfl) ?_
  refine sb_bindE (s_aI rfl) (fun x4 => ?_)
  refine sb_ite ?_ ?_
  · rfl
  · refine sb_some (s_gR rfl rfl) ?_
    refine sb_some (s_gR rfl rfl) ?_
    refine sb_bindE (s_aI rfl) (fun x5 => ?_)
    refine sb_some (s_gR rfl rfl) ?_
    refine sb_bindE (s_aI rfl) (fun x6 => ?_)
    refine sb_some (s_gR rfl rfl) ?_
    refine sb_bindE (s_aI rfl) (fun x7 => ?_)
    refine sb_P (o' := gX10_takenBy n v1 x6 x7 V3) (smX10_takenBy) (fun p8 => ?_)
    refine sb_V (o' := wrA p8.2 167 16 (2 + v1) (if (0 : Int32) < (x5 - p8.1) then (x5 - p8.1) else (0 : Int32))) (s_sI rfl) (fun V9 => ?_)
    refine sb_some (s_gR rfl rfl) ?_
    refine sb_bindE (s_aI rfl) (fun x10 => ?_)
    refine sb_V (o' := wrA V9 167 16 (9 + v1) (x10 + 1)) (s_sI rfl) (fun V11 => ?_)
    rfl
def gX10_within (v0 : Int32) (v1 : Int32) (v2 : Int32) (V : VT) : Option (Int32 × VT) :=
  if v0 < v1 then
  (some (0, V))
  else
  (if v2 < v0 then
  (some (0, V))
  else
  (some (1, V)))
set_option maxHeartbeats 1000000 in
theorem smX10_within {E : VE} {v0 : Int32} {v1 : Int32} {v2 : Int32} {V : VT}    : fX10_within v0 v1 v2 (hpV E V) = (gX10_within v0 v1 v2 V).map (fun p => (p.1, hpV E p.2)) := by
  unfold fX10_within gX10_within
  refine sb_ite ?_ ?_
  · rfl
  · refine sb_ite ?_ ?_
    · rfl
    · rfl
def gX10_chance_b190 (n : Nat) (K80 : Int32 → Int32 → Int32 → Int64 → Int64 → Int32 → VT → Option (Int32 × VT)) (v1 : Int32) (v2 : Int32) (v3 : Int32) (v4 : Int64) (v6 : Int64) (v8 : Int32) (V : VT) : Option (Int32 × VT) :=
  (gX10_copies n 169 16 0 167 16 0 V).bind fun V1 =>
  K80 v1 v2 v3 v4 v6 (v8 + 1) V1
set_option maxHeartbeats 1000000 in
theorem smX10_chance_b190 {E : VE} {n : Nat} {K80 : Int32 → Int32 → Int32 → Int64 → Int64 → Int32 → VT → Option (Int32 × VT)} {k80 : Nat → Int32 → Int32 → Int32 → Int64 → Int64 → Int32 → qH → Option (Int32 × qH)} {v1 : Int32} {v2 : Int32} {v3 : Int32} {v4 : Int64} {v6 : Int64} {v8 : Int32} {V : VT} (hK80 : ∀ (v1 : Int32)  (v2 : Int32)  (v3 : Int32)  (v4 : Int64)  (v6 : Int64)  (v8 : Int32)  (V : VT), k80 137 v1 v2 v3 v4 v6 v8 (hpV E V) = (K80 v1 v2 v3 v4 v6 v8 V).map (fun p => (p.1, hpV E p.2)))       : fX10_chance_b190 n k80 137 v1 v2 v3 v4 v6 v8 (hpV E V) = (gX10_chance_b190 n K80 v1 v2 v3 v4 v6 v8 V).map (fun p => (p.1, hpV E p.2)) := by
  unfold fX10_chance_b190 gX10_chance_b190
  refine sb_some (s_gR rfl rfl) ?_
  refine sb_some (s_gR rfl rfl) ?_
  refine sb_V (o' := gX10_copies n 169 16 0 167 16 0 V) (smX10_copies rfl rfl) (fun V1 => ?_)
  exact hK80 v1 v2 v3 v4 v6 (v8 + 1) V1
def gX10_chance_b162 (n : Nat) (K94 : Int32 → Int32 → Int32 → Int64 → Int64 → Int32 → Int64 → Int32 → VT → Option (Int32 × VT)) (v1 : Int32) (v2 : Int32) (v3 : Int32) (v4 : Int64) (v6 : Int64) (v8 : Int32) (v9 : Int64) (v11 : Int32) (V : VT) : Option (Int32 × VT) :=
  (gX10_passes n V).bind fun V1 =>
  K94 v1 v2 v3 v4 v6 v8 v9 (v11 + 1) V1
set_option maxHeartbeats 1000000 in
theorem smX10_chance_b162 {E : VE} {n : Nat} {K94 : Int32 → Int32 → Int32 → Int64 → Int64 → Int32 → Int64 → Int32 → VT → Option (Int32 × VT)} {k94 : Nat → Int32 → Int32 → Int32 → Int64 → Int64 → Int32 → Int64 → Int32 → qH → Option (Int32 × qH)} {v1 : Int32} {v2 : Int32} {v3 : Int32} {v4 : Int64} {v6 : Int64} {v8 : Int32} {v9 : Int64} {v11 : Int32} {V : VT} (hK94 : ∀ (v1 : Int32)  (v2 : Int32)  (v3 : Int32)  (v4 : Int64)  (v6 : Int64)  (v8 : Int32)  (v9 : Int64)  (v11 : Int32)  (V : VT), k94 137 v1 v2 v3 v4 v6 v8 v9 v11 (hpV E V) = (K94 v1 v2 v3 v4 v6 v8 v9 v11 V).map (fun p => (p.1, hpV E p.2)))         : fX10_chance_b162 n k94 137 v1 v2 v3 v4 v6 v8 v9 v11 (hpV E V) = (gX10_chance_b162 n K94 v1 v2 v3 v4 v6 v8 v9 v11 V).map (fun p => (p.1, hpV E p.2)) := by
  unfold fX10_chance_b162 gX10_chance_b162
  refine sb_V (o' := gX10_passes n V) (smX10_passes) (fun V1 => ?_)
  exact hK94 v1 v2 v3 v4 v6 v8 v9 (v11 + 1) V1
def gX10_chance_b135 (n : Nat) (K94 : Int32 → Int32 → Int32 → Int64 → Int64 → Int32 → Int64 → Int32 → VT → Option (Int32 × VT)) (v1 : Int32) (v2 : Int32) (v3 : Int32) (v4 : Int64) (v6 : Int64) (v8 : Int32) (v11 : Int32) (v12 : Int32) (s0 : Int64) (s1 : Int64) (V : VT) : Option (Int32 × VT) :=
  if v12 = 0 then
  (gX10_chance_b162 n K94 v1 v2 v3 v4 v6 v8 (s1 * s0) v11 V)
  else
  ((gX10_priceOf v1 V).bind fun p2 =>
  if (V.A 167 1) < p2.1 then
  (gX10_chance_b162 n K94 v1 v2 v3 v4 v6 v8 (s1 * s0) v11 p2.2)
  else
  ((gX10_coats n v1 p2.2).bind fun V3 =>
  gX10_chance_b162 n K94 v1 v2 v3 v4 v6 v8 (s1 * s0) v11 V3))
set_option maxHeartbeats 1000000 in
theorem smX10_chance_b135 {E : VE} {n : Nat} {K94 : Int32 → Int32 → Int32 → Int64 → Int64 → Int32 → Int64 → Int32 → VT → Option (Int32 × VT)} {k94 : Nat → Int32 → Int32 → Int32 → Int64 → Int64 → Int32 → Int64 → Int32 → qH → Option (Int32 × qH)} {v1 : Int32} {v2 : Int32} {v3 : Int32} {v4 : Int64} {v6 : Int64} {v8 : Int32} {v11 : Int32} {v12 : Int32} {s0 : Int64} {s1 : Int64} {V : VT} (hK94 : ∀ (v1 : Int32)  (v2 : Int32)  (v3 : Int32)  (v4 : Int64)  (v6 : Int64)  (v8 : Int32)  (v9 : Int64)  (v11 : Int32)  (V : VT), k94 137 v1 v2 v3 v4 v6 v8 v9 v11 (hpV E V) = (K94 v1 v2 v3 v4 v6 v8 v9 v11 V).map (fun p => (p.1, hpV E p.2)))           : fX10_chance_b135 n k94 137 v1 v2 v3 v4 v6 v8 v11 v12 s0 s1 (hpV E V) = (gX10_chance_b135 n K94 v1 v2 v3 v4 v6 v8 v11 v12 s0 s1 V).map (fun p => (p.1, hpV E p.2)) := by
  unfold fX10_chance_b135 gX10_chance_b135
  refine sb_ite ?_ ?_
  · exact smX10_chance_b162 hK94
  · refine sb_some (s_gR rfl rfl) ?_
    refine sb_some ((s_aI rfl).trans (rdA_at (k := 1) (by decide) (by decide))) ?_
    refine sb_P (o' := gX10_priceOf v1 V) (smX10_priceOf) (fun p2 => ?_)
    refine sb_ite ?_ ?_
    · exact smX10_chance_b162 hK94
    · refine sb_V (o' := gX10_coats n v1 p2.2) (smX10_coats) (fun V3 => ?_)
      exact smX10_chance_b162 hK94
def gX10_chance_b116 (n : Nat) (K94 : Int32 → Int32 → Int32 → Int64 → Int64 → Int32 → Int64 → Int32 → VT → Option (Int32 × VT)) (v1 : Int32) (v2 : Int32) (v3 : Int32) (v4 : Int64) (v6 : Int64) (v8 : Int32) (v9 : Int64) (v11 : Int32) (s0 : Int32) (V : VT) : Option (Int32 × VT) :=
  if s0 = 0 then
  (gX10_chance_b135 n K94 v1 v2 v3 v4 v6 v8 v11 s0 ((10 - v3).toInt64) v9 V)
  else
  (gX10_chance_b135 n K94 v1 v2 v3 v4 v6 v8 v11 s0 v3.toInt64 v9 V)
set_option maxHeartbeats 1000000 in
theorem smX10_chance_b116 {E : VE} {n : Nat} {K94 : Int32 → Int32 → Int32 → Int64 → Int64 → Int32 → Int64 → Int32 → VT → Option (Int32 × VT)} {k94 : Nat → Int32 → Int32 → Int32 → Int64 → Int64 → Int32 → Int64 → Int32 → qH → Option (Int32 × qH)} {v1 : Int32} {v2 : Int32} {v3 : Int32} {v4 : Int64} {v6 : Int64} {v8 : Int32} {v9 : Int64} {v11 : Int32} {s0 : Int32} {V : VT} (hK94 : ∀ (v1 : Int32)  (v2 : Int32)  (v3 : Int32)  (v4 : Int64)  (v6 : Int64)  (v8 : Int32)  (v9 : Int64)  (v11 : Int32)  (V : VT), k94 137 v1 v2 v3 v4 v6 v8 v9 v11 (hpV E V) = (K94 v1 v2 v3 v4 v6 v8 v9 v11 V).map (fun p => (p.1, hpV E p.2)))          : fX10_chance_b116 n k94 137 v1 v2 v3 v4 v6 v8 v9 v11 s0 (hpV E V) = (gX10_chance_b116 n K94 v1 v2 v3 v4 v6 v8 v9 v11 s0 V).map (fun p => (p.1, hpV E p.2)) := by
  unfold fX10_chance_b116 gX10_chance_b116
  refine sb_ite ?_ ?_
  · exact smX10_chance_b135 hK94
  · exact smX10_chance_b135 hK94
def gX10_chance_b94 (n : Nat) (K80 : Int32 → Int32 → Int32 → Int64 → Int64 → Int32 → VT → Option (Int32 × VT)) : Nat → Int32 → Int32 → Int32 → Int64 → Int64 → Int32 → Int64 → Int32 → VT → Option (Int32 × VT)
  | 0, _, _, _, _, _, _, _, _, _ => none
  | w + 1, v1, v2, v3, v4, v6, v8, v9, v11, V =>
    if v2 ≤ v11 then
    ((rdA 16 (V.A 167) (2 + v1)).bind fun x1 =>
    if x1 = 0 then
    (gX10_chance_b190 n K80 v1 v2 v3 (v4 + v9) v6 v8 V)
    else
    (gX10_chance_b190 n K80 v1 v2 v3 v4 v6 v8 V))
    else
    (if ((v8 >>> (v11 &&& 31)) &&& 1) = 1 then
    (gX10_chance_b116 n (gX10_chance_b94 n K80 w) v1 v2 v3 v4 v6 v8 v9 v11 1 V)
    else
    (gX10_chance_b116 n (gX10_chance_b94 n K80 w) v1 v2 v3 v4 v6 v8 v9 v11 0 V))
set_option maxHeartbeats 1000000 in
theorem smX10_chance_b94 {E : VE} {n : Nat} {K80 : Int32 → Int32 → Int32 → Int64 → Int64 → Int32 → VT → Option (Int32 × VT)} {k80 : Nat → Int32 → Int32 → Int32 → Int64 → Int64 → Int32 → qH → Option (Int32 × qH)} (hK80 : ∀ (v1 : Int32)  (v2 : Int32)  (v3 : Int32)  (v4 : Int64)  (v6 : Int64)  (v8 : Int32)  (V : VT), k80 137 v1 v2 v3 v4 v6 v8 (hpV E V) = (K80 v1 v2 v3 v4 v6 v8 V).map (fun p => (p.1, hpV E p.2))) : ∀ (w : Nat) (v1 : Int32)  (v2 : Int32)  (v3 : Int32)  (v4 : Int64)  (v6 : Int64)  (v8 : Int32)  (v9 : Int64)  (v11 : Int32)  (V : VT), fX10_chance_b94 n k80 w 137 v1 v2 v3 v4 v6 v8 v9 v11 (hpV E V) = (gX10_chance_b94 n K80 w v1 v2 v3 v4 v6 v8 v9 v11 V).map (fun p => (p.1, hpV E p.2)) := by
  intro w
  induction w with
  | zero => intro v1 v2 v3 v4 v6 v8 v9 v11 V; rfl
  | succ w ih =>
    intro v1 v2 v3 v4 v6 v8 v9 v11 V
    unfold fX10_chance_b94 gX10_chance_b94
    refine sb_ite ?_ ?_
    · refine sb_some (s_gR rfl rfl) ?_
      refine sb_bindE (s_aI rfl) (fun x1 => ?_)
      refine sb_ite ?_ ?_
      · exact smX10_chance_b190 hK80
      · exact smX10_chance_b190 hK80
    · refine sb_ite ?_ ?_
      · exact smX10_chance_b116 ih
      · exact smX10_chance_b116 ih
def gX10_chance_b80 (n : Nat) : Nat → Int32 → Int32 → Int32 → Int64 → Int64 → Int32 → VT → Option (Int32 × VT)
  | 0, _, _, _, _, _, _, _ => none
  | w + 1, v1, v2, v3, v4, v6, v8, V =>
    if ((1 : Int32) <<< (v2 &&& 31)) ≤ v8 then
    ((qZL v6).bind fun _ =>
    some (((v4 * 1000000) / v6).toInt32, V))
    else
    (gX10_chance_b94 n (gX10_chance_b80 n w) n v1 v2 v3 v4 v6 v8 1 0 V)
set_option maxHeartbeats 1000000 in
theorem smX10_chance_b80 {E : VE} {n : Nat} : ∀ (w : Nat) (v1 : Int32)  (v2 : Int32)  (v3 : Int32)  (v4 : Int64)  (v6 : Int64)  (v8 : Int32)  (V : VT), fX10_chance_b80 n w 137 v1 v2 v3 v4 v6 v8 (hpV E V) = (gX10_chance_b80 n w v1 v2 v3 v4 v6 v8 V).map (fun p => (p.1, hpV E p.2)) := by
  intro w
  induction w with
  | zero => intro v1 v2 v3 v4 v6 v8 V; rfl
  | succ w ih =>
    intro v1 v2 v3 v4 v6 v8 V
    unfold fX10_chance_b80 gX10_chance_b80
    refine sb_ite ?_ ?_
    · refine sb_bind (fun _ => ?_)
      rfl
    · exact smX10_chance_b94 ih _ v1 v2 v3 v4 v6 v8 1 0 V
def gX10_chance_b44 (n : Nat) : Nat → Int32 → Int32 → Int32 → Int64 → Int64 → Int32 → VT → Option (Int32 × VT)
  | 0, _, _, _, _, _, _, _ => none
  | w + 1, v1, v2, v3, v4, v6, v8, V =>
    if v2 ≤ v8 then
    ((gX10_copies n 167 16 0 169 16 0 V).bind fun V1 =>
    gX10_chance_b80 n n v1 v2 v3 v4 v6 0 V1)
    else
    (gX10_chance_b44 n w v1 v2 v3 v4 (v6 * 10) (v8 + 1) V)
set_option maxHeartbeats 1000000 in
theorem smX10_chance_b44 {E : VE} {n : Nat} : ∀ (w : Nat) (v1 : Int32)  (v2 : Int32)  (v3 : Int32)  (v4 : Int64)  (v6 : Int64)  (v8 : Int32)  (V : VT), fX10_chance_b44 n w 137 v1 v2 v3 v4 v6 v8 (hpV E V) = (gX10_chance_b44 n w v1 v2 v3 v4 v6 v8 V).map (fun p => (p.1, hpV E p.2)) := by
  intro w
  induction w with
  | zero => intro v1 v2 v3 v4 v6 v8 V; rfl
  | succ w ih =>
    intro v1 v2 v3 v4 v6 v8 V
    unfold fX10_chance_b44 gX10_chance_b44
    refine sb_ite ?_ ?_
    · refine sb_some (s_gR rfl rfl) ?_
      refine sb_some (s_gR rfl rfl) ?_
      refine sb_V (o' := gX10_copies n 167 16 0 169 16 0 V) (smX10_copies rfl rfl) (fun V1 => ?_)
      exact smX10_chance_b80 _ v1 v2 v3 v4 v6 0 V1
    · exact ih v1 v2 v3 v4 (v6 * 10) (v8 + 1) V
def gX10_chance (n : Nat) (v1 : Int32) (v2 : Int32) (v3 : Int32) (V : VT) : Option (Int32 × VT) :=
  (some (wF V 137 0 0)).bind fun V1 =>
  (gX10_isMatter v1 V1).bind fun p2 =>
  if p2.1 = 0 then
  (some ((-1), p2.2))
  else
  ((gX10_within v2 1 6 p2.2).bind fun p3 =>
  if p3.1 = 0 then
  (some ((-1), p3.2))
  else
  ((gX10_within v3 0 10 p3.2).bind fun p4 =>
  if p4.1 = 0 then
  (some ((-1), p4.2))
  else
  (gX10_chance_b44 n n v1 v2 v3 0 1 0 p4.2)))
set_option maxHeartbeats 1000000 in
theorem smX10_chance {E : VE} {n : Nat} {v1 : Int32} {v2 : Int32} {v3 : Int32} {V : VT}    : fX10_chance n 137 v1 v2 v3 (hpV E V) = (gX10_chance n v1 v2 v3 V).map (fun p => (p.1, hpV E p.2)) := by
  unfold fX10_chance gX10_chance
  refine sb_some (s_isO rfl) ?_
  refine sb_V (o' := some (wF V 137 0 0)) (w10_0 rfl) (fun V1 => ?_)
  refine sb_P (o' := gX10_isMatter v1 V1) (smX10_isMatter) (fun p2 => ?_)
  refine sb_ite ?_ ?_
  · rfl
  · refine sb_P (o' := gX10_within v2 1 6 p2.2) (smX10_within) (fun p3 => ?_)
    refine sb_ite ?_ ?_
    · rfl
    · refine sb_P (o' := gX10_within v3 0 10 p3.2) (smX10_within) (fun p4 => ?_)
      refine sb_ite ?_ ?_
      · rfl
      · exact smX10_chance_b44 _ v1 v2 v3 0 1 0 p4.2
def gX10_cheapBy_b61 (n : Nat) (K27 : Int32 → Int32 → Int32 → Int32 → VT → Option (Int32 × VT)) (v1 : Int32) (v2 : Int32) (v3 : Int32) (v4 : Int32) (V : VT) : Option (Int32 × VT) :=
  (gX10_costOf n v4 V).bind fun p1 =>
  if p1.1 < v3 then
  (K27 v1 v4 p1.1 (v4 + 1) p1.2)
  else
  (K27 v1 v2 v3 (v4 + 1) p1.2)
set_option maxHeartbeats 1000000 in
theorem smX10_cheapBy_b61 {E : VE} {n : Nat} {K27 : Int32 → Int32 → Int32 → Int32 → VT → Option (Int32 × VT)} {k27 : Nat → Int32 → Int32 → Int32 → Int32 → qH → Option (Int32 × qH)} {v1 : Int32} {v2 : Int32} {v3 : Int32} {v4 : Int32} {V : VT} (hK27 : ∀ (v1 : Int32)  (v2 : Int32)  (v3 : Int32)  (v4 : Int32)  (V : VT), k27 137 v1 v2 v3 v4 (hpV E V) = (K27 v1 v2 v3 v4 V).map (fun p => (p.1, hpV E p.2)))     : fX10_cheapBy_b61 n k27 137 v1 v2 v3 v4 (hpV E V) = (gX10_cheapBy_b61 n K27 v1 v2 v3 v4 V).map (fun p => (p.1, hpV E p.2)) := by
  unfold fX10_cheapBy_b61 gX10_cheapBy_b61
  refine sb_P (o' := gX10_costOf n v4 V) (smX10_costOf) (fun p1 => ?_)
  refine sb_ite ?_ ?_
  · exact hK27 v1 v4 p1.1 (v4 + 1) p1.2
  · exact hK27 v1 v2 v3 (v4 + 1) p1.2
def gX10_cheapBy_b27 (n : Nat) : Nat → Int32 → Int32 → Int32 → Int32 → VT → Option (Int32 × VT)
  | 0, _, _, _, _, _ => none
  | w + 1, v1, v2, v3, v4, V =>
    if (V.A 139 0) ≤ v4 then
    (some (v2, V))
    else
    (if v4 = v1 then
    (gX10_cheapBy_b61 n (gX10_cheapBy_b27 n w) v1 v2 v3 v4 V)
    else
    ((rdA 7 (V.A 173) v1).bind fun x2 =>
    if ((x2 >>> (v4 &&& 31)) &&& 1) = 0 then
    (gX10_cheapBy_b27 n w v1 v2 v3 (v4 + 1) V)
    else
    (gX10_cheapBy_b61 n (gX10_cheapBy_b27 n w) v1 v2 v3 v4 V)))
set_option maxHeartbeats 1000000 in
theorem smX10_cheapBy_b27 {E : VE} {n : Nat} : ∀ (w : Nat) (v1 : Int32)  (v2 : Int32)  (v3 : Int32)  (v4 : Int32)  (V : VT), fX10_cheapBy_b27 n w 137 v1 v2 v3 v4 (hpV E V) = (gX10_cheapBy_b27 n w v1 v2 v3 v4 V).map (fun p => (p.1, hpV E p.2)) := by
  intro w
  induction w with
  | zero => intro v1 v2 v3 v4 V; rfl
  | succ w ih =>
    intro v1 v2 v3 v4 V
    unfold fX10_cheapBy_b27 gX10_cheapBy_b27
    refine sb_some (s_gR rfl rfl) ?_
    refine sb_some ((s_aI rfl).trans (rdA_at (k := 0) (by decide) (by decide))) ?_
    refine sb_ite ?_ ?_
    · rfl
    · refine sb_ite ?_ ?_
      · exact smX10_cheapBy_b61 ih
      · refine sb_some (s_gR rfl rfl) ?_
        refine sb_bindE (s_aI rfl) (fun x2 => ?_)
        refine sb_ite ?_ ?_
        · exact ih v1 v2 v3 (v4 + 1) V
        · exact smX10_cheapBy_b61 ih
def gX10_cheapBy (n : Nat) (v1 : Int32) (V : VT) : Option (Int32 × VT) :=
  (gX10_meantNow n V).bind fun p1 =>
  (gX10_rightBy n p1.1 p1.2).bind fun p2 =>
  if ((p2.1 >>> (v1 &&& 31)) &&& 1) = 1 then
  (some (v1, p2.2))
  else
  (gX10_cheapBy_b27 n n v1 ((-1)) 1000000 0 p2.2)
set_option maxHeartbeats 1000000 in
theorem smX10_cheapBy {E : VE} {n : Nat} {v1 : Int32} {V : VT}  : fX10_cheapBy n 137 v1 (hpV E V) = (gX10_cheapBy n v1 V).map (fun p => (p.1, hpV E p.2)) := by
  unfold fX10_cheapBy gX10_cheapBy
  refine sb_some (s_isO rfl) ?_
  refine sb_P (o' := gX10_meantNow n V) (smX10_meantNow) (fun p1 => ?_)
  refine sb_P (o' := gX10_rightBy n p1.1 p1.2) (smX10_rightBy) (fun p2 => ?_)
  refine sb_ite ?_ ?_
  · rfl
  · exact smX10_cheapBy_b27 _ v1 ((-1)) 1000000 0 p2.2
def gX10_cheap (n : Nat) (v1 : Int32) (v2 : Int32) (V : VT) : Option (Int32 × VT) :=
  (some (wF V 137 0 0)).bind fun V1 =>
  (gX10_isMatter v1 V1).bind fun p2 =>
  if p2.1 = 0 then
  (some ((-2), p2.2))
  else
  ((gX10_within v2 0 1 p2.2).bind fun p3 =>
  if p3.1 = 0 then
  (some ((-2), p3.2))
  else
  ((gX10_cheapBy n v1 p3.2).bind fun p4 =>
  if 0 ≤ p4.1 then
  (if v2 = 1 then
  (some (p4.1, p4.2))
  else
  ((gX10_meantNow n p4.2).bind fun p5 =>
  (gX10_rightBy n p5.1 p5.2).bind fun p6 =>
  if ((p6.1 >>> (v1 &&& 31)) &&& 1) = 1 then
  (some (0, p6.2))
  else
  ((gX10_costOf n p4.1 p6.2).bind fun p7 =>
  some (p7.1, p7.2))))
  else
  (some ((-2), p4.2))))
set_option maxHeartbeats 1000000 in
theorem smX10_cheap {E : VE} {n : Nat} {v1 : Int32} {v2 : Int32} {V : VT}   : fX10_cheap n 137 v1 v2 (hpV E V) = (gX10_cheap n v1 v2 V).map (fun p => (p.1, hpV E p.2)) := by
  unfold fX10_cheap gX10_cheap
  refine sb_some (s_isO rfl) ?_
  refine sb_V (o' := some (wF V 137 0 0)) (w10_0 rfl) (fun V1 => ?_)
  refine sb_P (o' := gX10_isMatter v1 V1) (smX10_isMatter) (fun p2 => ?_)
  refine sb_ite ?_ ?_
  · rfl
  · refine sb_P (o' := gX10_within v2 0 1 p2.2) (smX10_within) (fun p3 => ?_)
    refine sb_ite ?_ ?_
    · rfl
    · refine sb_P (o' := gX10_cheapBy n v1 p3.2) (smX10_cheapBy) (fun p4 => ?_)
      refine sb_ite ?_ ?_
      · refine sb_ite ?_ ?_
        · rfl
        · refine sb_P (o' := gX10_meantNow n p4.2) (smX10_meantNow) (fun p5 => ?_)
          refine sb_P (o' := gX10_rightBy n p5.1 p5.2) (smX10_rightBy) (fun p6 => ?_)
          refine sb_ite ?_ ?_
          · rfl
          · refine sb_P (o' := gX10_costOf n p4.1 p6.2) (smX10_costOf) (fun p7 => ?_)
            rfl
      · rfl
def gX10_fails (v1 : Int32) (V : VT) : Option (Int32 × VT) :=
  (some (wF V 137 9 (v1 + (16 * (V.F 137 5))))).bind fun V1 =>
  some (0, V1)
set_option maxHeartbeats 1000000 in
theorem smX10_fails {E : VE} {v1 : Int32} {V : VT}  : fX10_fails 137 v1 (hpV E V) = (gX10_fails v1 V).map (fun p => (p.1, hpV E p.2)) := by
  unfold fX10_fails gX10_fails
  refine sb_some (s_isO rfl) ?_
  refine sb_some (s_gI rfl rfl) ?_
  refine sb_V (o' := some (wF V 137 9 (v1 + (16 * (V.F 137 5))))) (w10_9 rfl) (fun V1 => ?_)
  rfl
def gX10_isSign (v1 : Int32) (V : VT) : Option (Int32 × VT) :=
  if (V.F 137 6) = 3 then
  ((rdA 1000 (V.A 138) (V.F 137 5)).bind fun x1 =>
  if x1 = v1 then
  (some (1, V))
  else
  (some (0, V)))
  else
  (some (0, V))
set_option maxHeartbeats 1000000 in
theorem smX10_isSign {E : VE} {v1 : Int32} {V : VT}  : fX10_isSign 137 v1 (hpV E V) = (gX10_isSign v1 V).map (fun p => (p.1, hpV E p.2)) := by
  unfold fX10_isSign gX10_isSign
  refine sb_some (s_isO rfl) ?_
  refine sb_some (s_gI rfl rfl) ?_
  refine sb_ite ?_ ?_
  · refine sb_some (s_gR rfl rfl) ?_
    refine sb_some (s_gI rfl rfl) ?_
    refine sb_bindE (s_aI rfl) (fun x1 => ?_)
    refine sb_ite ?_ ?_
    · rfl
    · rfl
  · rfl
def gX10_closes (n : Nat)  (V : VT) : Option (Int32 × VT) :=
  (gX10_isSign 59 V).bind fun p1 =>
  if p1.1 = 0 then
  ((gX10_fails 1 p1.2).bind fun p3 =>
  (qB p3.1).bind fun _ =>
  some (p3.1, p3.2))
  else
  ((gX10_nextToken n p1.2).bind fun V2 =>
  some (1, V2))
set_option maxHeartbeats 1000000 in
theorem smX10_closes {E : VE} {n : Nat}  {V : VT}  : fX10_closes n 137 (hpV E V) = (gX10_closes n  V).map (fun p => (p.1, hpV E p.2)) := by
  unfold fX10_closes gX10_closes
  refine sb_some (s_isO rfl) ?_
  refine sb_P (o' := gX10_isSign 59 V) (smX10_isSign) (fun p1 => ?_)
  refine sb_ite ?_ ?_
  · refine sb_P (o' := gX10_fails 1 p1.2) (smX10_fails) (fun p3 => ?_)
    refine sb_bind (fun _ => ?_)
    rfl
  · refine sb_V (o' := gX10_nextToken n p1.2) (smX10_nextToken) (fun V2 => ?_)
    rfl
def gX10_cost (n : Nat) (v1 : Int32) (V : VT) : Option (Int32 × VT) :=
  (some (wF V 137 0 0)).bind fun V1 =>
  (gX10_isMatter v1 V1).bind fun p2 =>
  if p2.1 = 0 then
  (some ((-1), p2.2))
  else
  ((gX10_costOf n v1 p2.2).bind fun p3 =>
  if p3.1 = 1000000 then
  (some ((-1), p3.2))
  else
  (some (p3.1, p3.2)))
set_option maxHeartbeats 1000000 in
theorem smX10_cost {E : VE} {n : Nat} {v1 : Int32} {V : VT}  : fX10_cost n 137 v1 (hpV E V) = (gX10_cost n v1 V).map (fun p => (p.1, hpV E p.2)) := by
  unfold fX10_cost gX10_cost
  refine sb_some (s_isO rfl) ?_
  refine sb_V (o' := some (wF V 137 0 0)) (w10_0 rfl) (fun V1 => ?_)
  refine sb_P (o' := gX10_isMatter v1 V1) (smX10_isMatter) (fun p2 => ?_)
  refine sb_ite ?_ ?_
  · rfl
  · refine sb_P (o' := gX10_costOf n v1 p2.2) (smX10_costOf) (fun p3 => ?_)
    refine sb_ite ?_ ?_
    · rfl
    · rfl
def gX10_count (n : Nat) (v1 : Int32) (V : VT) : Option (Int32 × VT) :=
  (some (wF V 137 0 0)).bind fun V1 =>
  (gX10_within v1 0 10 V1).bind fun p2 =>
  if p2.1 = 0 then
  (some ((-1), p2.2))
  else
  (if 3 ≤ v1 then
  (if 5 ≤ v1 then
  (if 7 ≤ v1 then
  (if 9 ≤ v1 then
  (if v1 = 9 then
  (some (p2.2.F 137 47, p2.2))
  else
  (some (p2.2.F 137 1, p2.2)))
  else
  (if v1 = 7 then
  (some (p2.2.A 160 0, p2.2))
  else
  (some (p2.2.A 163 0, p2.2))))
  else
  (if v1 = 5 then
  ((gX10_allOf n 2 p2.2).bind fun p6 =>
  some (p6.1, p6.2))
  else
  ((gX10_allOf n 9 p2.2).bind fun p5 =>
  some (p5.1, p5.2))))
  else
  (if v1 = 3 then
  (some (p2.2.A 167 0, p2.2))
  else
  (some (p2.2.A 167 1, p2.2))))
  else
  ((rdA 8 (p2.2.A 139) v1).bind fun x9 =>
  some (x9, p2.2)))
set_option maxHeartbeats 1000000 in
theorem smX10_count {E : VE} {n : Nat} {v1 : Int32} {V : VT}  : fX10_count n 137 v1 (hpV E V) = (gX10_count n v1 V).map (fun p => (p.1, hpV E p.2)) := by
  unfold fX10_count gX10_count
  refine sb_some (s_isO rfl) ?_
  refine sb_V (o' := some (wF V 137 0 0)) (w10_0 rfl) (fun V1 => ?_)
  refine sb_P (o' := gX10_within v1 0 10 V1) (smX10_within) (fun p2 => ?_)
  refine sb_ite ?_ ?_
  · rfl
  · refine sb_ite ?_ ?_
    · refine sb_ite ?_ ?_
      · refine sb_ite ?_ ?_
        · refine sb_ite ?_ ?_
          · refine sb_ite ?_ ?_
            · refine sb_some (s_gI rfl rfl) ?_
              rfl
            · refine sb_some (s_gI rfl rfl) ?_
              rfl
          · refine sb_ite ?_ ?_
            · refine sb_some (s_gR rfl rfl) ?_
              refine sb_some ((s_aI rfl).trans (rdA_at (k := 0) (by decide) (by decide))) ?_
              rfl
            · refine sb_some (s_gR rfl rfl) ?_
              refine sb_some ((s_aI rfl).trans (rdA_at (k := 0) (by decide) (by decide))) ?_
              rfl
        · refine sb_ite ?_ ?_
          · refine sb_P (o' := gX10_allOf n 2 p2.2) (smX10_allOf) (fun p6 => ?_)
            rfl
          · refine sb_P (o' := gX10_allOf n 9 p2.2) (smX10_allOf) (fun p5 => ?_)
            rfl
      · refine sb_ite ?_ ?_
        · refine sb_some (s_gR rfl rfl) ?_
          refine sb_some ((s_aI rfl).trans (rdA_at (k := 0) (by decide) (by decide))) ?_
          rfl
        · refine sb_some (s_gR rfl rfl) ?_
          refine sb_some ((s_aI rfl).trans (rdA_at (k := 1) (by decide) (by decide))) ?_
          rfl
    · refine sb_some (s_gR rfl rfl) ?_
      refine sb_bindE (s_aI rfl) (fun x9 => ?_)
      rfl
def gX10_dinners_b34 (n : Nat) : Nat → Int32 → Int32 → Int32 → VT → Option (Int32 × VT)
  | 0, _, _, _, _ => none
  | w + 1, v1, v2, v3, V =>
    if v1 ≤ v3 then
    ((gX10_copies n 169 16 0 167 16 0 V).bind fun V1 =>
    some (v2, V1))
    else
    ((gX10_passes n V).bind fun V2 =>
    (gX10_meantNow n V2).bind fun p3 =>
    (gX10_bits n p3.1 p3.2).bind fun p4 =>
    gX10_dinners_b34 n w v1 (v2 + p4.1) (v3 + 1) p4.2)
set_option maxHeartbeats 1000000 in
theorem smX10_dinners_b34 {E : VE} {n : Nat} : ∀ (w : Nat) (v1 : Int32)  (v2 : Int32)  (v3 : Int32)  (V : VT), fX10_dinners_b34 n w 137 v1 v2 v3 (hpV E V) = (gX10_dinners_b34 n w v1 v2 v3 V).map (fun p => (p.1, hpV E p.2)) := by
  intro w
  induction w with
  | zero => intro v1 v2 v3 V; rfl
  | succ w ih =>
    intro v1 v2 v3 V
    unfold fX10_dinners_b34 gX10_dinners_b34
    refine sb_ite ?_ ?_
    · refine sb_some (s_gR rfl rfl) ?_
      refine sb_some (s_gR rfl rfl) ?_
      refine sb_V (o' := gX10_copies n 169 16 0 167 16 0 V) (smX10_copies rfl rfl) (fun V1 => ?_)
      rfl
    · refine sb_V (o' := gX10_passes n V) (smX10_passes) (fun V2 => ?_)
      refine sb_P (o' := gX10_meantNow n V2) (smX10_meantNow) (fun p3 => ?_)
      refine sb_P (o' := gX10_bits n p3.1 p3.2) (smX10_bits) (fun p4 => ?_)
      exact ih v1 (v2 + p4.1) (v3 + 1) p4.2
def gX10_dinners (n : Nat) (v1 : Int32) (V : VT) : Option (Int32 × VT) :=
  (some (wF V 137 0 0)).bind fun V1 =>
  (gX10_within v1 1 60 V1).bind fun p2 =>
  if p2.1 = 0 then
  (some ((-1), p2.2))
  else
  ((gX10_copies n 167 16 0 169 16 0 p2.2).bind fun V3 =>
  gX10_dinners_b34 n n v1 0 0 V3)
set_option maxHeartbeats 1000000 in
theorem smX10_dinners {E : VE} {n : Nat} {v1 : Int32} {V : VT}  : fX10_dinners n 137 v1 (hpV E V) = (gX10_dinners n v1 V).map (fun p => (p.1, hpV E p.2)) := by
  unfold fX10_dinners gX10_dinners
  refine sb_some (s_isO rfl) ?_
  refine sb_V (o' := some (wF V 137 0 0)) (w10_0 rfl) (fun V1 => ?_)
  refine sb_P (o' := gX10_within v1 1 60 V1) (smX10_within) (fun p2 => ?_)
  refine sb_ite ?_ ?_
  · rfl
  · refine sb_some (s_gR rfl rfl) ?_
    refine sb_some (s_gR rfl rfl) ?_
    refine sb_V (o' := gX10_copies n 167 16 0 169 16 0 p2.2) (smX10_copies rfl rfl) (fun V3 => ?_)
    exact smX10_dinners_b34 _ v1 0 0 V3
