/-! Functions over the views, and that the functions over the abstract heap are these (written by gen2.py). -/
def gX10_laysCauses_b103 (n : Nat) (K62 : Int32 → Int32 → Int32 → VT → Option (VT)) (v1 : Int32) (v2 : Int32) (v3 : Int32) (s0 : Int32) (s1 : Int32) (s2 : Int32) (s3 : Nat) (ms3 : Nat) (V : VT) : Option (VT) :=
  (wrA V s3 ms3 s2 (s1 ||| s0)).bind fun V1 =>
  K62 v1 v2 (v3 + 1) V1
set_option maxHeartbeats 1000000 in
theorem smX10_laysCauses_b103 {E : VE} {n : Nat} {K62 : Int32 → Int32 → Int32 → VT → Option (VT)} {k62 : Nat → Int32 → Int32 → Int32 → qH → Option (qH)} {v1 : Int32} {v2 : Int32} {v3 : Int32} {s0 : Int32} {s1 : Int32} {s2 : Int32} {s3 : Nat} {ms3 : Nat} {V : VT} (hK62 : ∀ (v1 : Int32)  (v2 : Int32)  (v3 : Int32)  (V : VT), k62 137 v1 v2 v3 (hpV E V) = (K62 v1 v2 v3 V).map (hpV E))        (hs3 : arrAt s3 = some (.int, ms3)) : fX10_laysCauses_b103 n k62 137 v1 v2 v3 s0 s1 s2 s3 (hpV E V) = (gX10_laysCauses_b103 n K62 v1 v2 v3 s0 s1 s2 s3 ms3 V).map (hpV E) := by
  unfold fX10_laysCauses_b103 gX10_laysCauses_b103
  refine sb_V (o' := wrA V s3 ms3 s2 (s1 ||| s0)) (s_sI hs3) (fun V1 => ?_)
  exact hK62 v1 v2 (v3 + 1) V1
def gX10_laysCauses_b62 (n : Nat) (K50 : Int32 → Int32 → VT → Option (VT)) : Nat → Int32 → Int32 → Int32 → VT → Option (VT)
  | 0, _, _, _, _ => none
  | w + 1, v1, v2, v3, V =>
    if (V.A 139 0) ≤ v3 then
    (K50 v1 (v2 + 1) V)
    else
    ((rdA 7 (V.A 173) v2).bind fun x2 =>
    (rdA 7 (V.A 173) v2).bind fun x3 =>
    if ((x3 >>> (v3 &&& 31)) &&& 1) = 1 then
    ((rdA 7 (V.A 173) v3).bind fun x4 =>
    gX10_laysCauses_b103 n (gX10_laysCauses_b62 n K50 w) v1 v2 v3 x4 x2 v2 173 7 V)
    else
    (gX10_laysCauses_b103 n (gX10_laysCauses_b62 n K50 w) v1 v2 v3 0 x2 v2 173 7 V))
set_option maxHeartbeats 1000000 in
theorem smX10_laysCauses_b62 {E : VE} {n : Nat} {K50 : Int32 → Int32 → VT → Option (VT)} {k50 : Nat → Int32 → Int32 → qH → Option (qH)} (hK50 : ∀ (v1 : Int32)  (v2 : Int32)  (V : VT), k50 137 v1 v2 (hpV E V) = (K50 v1 v2 V).map (hpV E)) : ∀ (w : Nat) (v1 : Int32)  (v2 : Int32)  (v3 : Int32)  (V : VT), fX10_laysCauses_b62 n k50 w 137 v1 v2 v3 (hpV E V) = (gX10_laysCauses_b62 n K50 w v1 v2 v3 V).map (hpV E) := by
  intro w
  induction w with
  | zero => intro v1 v2 v3 V; rfl
  | succ w ih =>
    intro v1 v2 v3 V
    unfold fX10_laysCauses_b62 gX10_laysCauses_b62
    refine sb_some (s_gR rfl rfl) ?_
    refine sb_some ((s_aI rfl).trans (rdA_at (k := 0) (by decide) (by decide))) ?_
    refine sb_ite ?_ ?_
    · exact hK50 v1 (v2 + 1) V
    · refine sb_some (s_gR rfl rfl) ?_
      refine sb_bindE (s_aI rfl) (fun x2 => ?_)
      refine sb_some (s_gR rfl rfl) ?_
      refine sb_bindE (s_aI rfl) (fun x3 => ?_)
      refine sb_ite ?_ ?_
      · refine sb_some (s_gR rfl rfl) ?_
        refine sb_bindE (s_aI rfl) (fun x4 => ?_)
        exact smX10_laysCauses_b103 ih rfl
      · exact smX10_laysCauses_b103 ih rfl
def gX10_laysCauses_b50 (n : Nat) (K42 : Int32 → VT → Option (VT)) : Nat → Int32 → Int32 → VT → Option (VT)
  | 0, _, _, _ => none
  | w + 1, v1, v2, V =>
    if (V.A 139 0) ≤ v2 then
    (K42 (v1 + 1) V)
    else
    (gX10_laysCauses_b62 n (gX10_laysCauses_b50 n K42 w) n v1 v2 0 V)
set_option maxHeartbeats 1000000 in
theorem smX10_laysCauses_b50 {E : VE} {n : Nat} {K42 : Int32 → VT → Option (VT)} {k42 : Nat → Int32 → qH → Option (qH)} (hK42 : ∀ (v1 : Int32)  (V : VT), k42 137 v1 (hpV E V) = (K42 v1 V).map (hpV E)) : ∀ (w : Nat) (v1 : Int32)  (v2 : Int32)  (V : VT), fX10_laysCauses_b50 n k42 w 137 v1 v2 (hpV E V) = (gX10_laysCauses_b50 n K42 w v1 v2 V).map (hpV E) := by
  intro w
  induction w with
  | zero => intro v1 v2 V; rfl
  | succ w ih =>
    intro v1 v2 V
    unfold fX10_laysCauses_b50 gX10_laysCauses_b50
    refine sb_some (s_gR rfl rfl) ?_
    refine sb_some ((s_aI rfl).trans (rdA_at (k := 0) (by decide) (by decide))) ?_
    refine sb_ite ?_ ?_
    · exact hK42 (v1 + 1) V
    · exact smX10_laysCauses_b62 ih _ v1 v2 0 V
def gX10_laysCauses_b42 (n : Nat) : Nat → Int32 → VT → Option (VT)
  | 0, _, _ => none
  | w + 1, v1, V =>
    if 7 ≤ v1 then
    (some V)
    else
    (gX10_laysCauses_b50 n (gX10_laysCauses_b42 n w) n v1 0 V)
set_option maxHeartbeats 1000000 in
theorem smX10_laysCauses_b42 {E : VE} {n : Nat} : ∀ (w : Nat) (v1 : Int32)  (V : VT), fX10_laysCauses_b42 n w 137 v1 (hpV E V) = (gX10_laysCauses_b42 n w v1 V).map (hpV E) := by
  intro w
  induction w with
  | zero => intro v1 V; rfl
  | succ w ih =>
    intro v1 V
    unfold fX10_laysCauses_b42 gX10_laysCauses_b42
    refine sb_ite ?_ ?_
    · rfl
    · exact smX10_laysCauses_b50 ih _ v1 0 V
def gX10_laysCauses_b33 (n : Nat) (K2 : Int32 → VT → Option (VT)) (v1 : Int32) (s0 : Int32) (s1 : Int32) (s2 : Nat) (ms2 : Nat) (V : VT) : Option (VT) :=
  (wrA V s2 ms2 s1 s0).bind fun V1 =>
  K2 (v1 + 1) V1
set_option maxHeartbeats 1000000 in
theorem smX10_laysCauses_b33 {E : VE} {n : Nat} {K2 : Int32 → VT → Option (VT)} {k2 : Nat → Int32 → qH → Option (qH)} {v1 : Int32} {s0 : Int32} {s1 : Int32} {s2 : Nat} {ms2 : Nat} {V : VT} (hK2 : ∀ (v1 : Int32)  (V : VT), k2 137 v1 (hpV E V) = (K2 v1 V).map (hpV E))     (hs2 : arrAt s2 = some (.int, ms2)) : fX10_laysCauses_b33 n k2 137 v1 s0 s1 s2 (hpV E V) = (gX10_laysCauses_b33 n K2 v1 s0 s1 s2 ms2 V).map (hpV E) := by
  unfold fX10_laysCauses_b33 gX10_laysCauses_b33
  refine sb_V (o' := wrA V s2 ms2 s1 s0) (s_sI hs2) (fun V1 => ?_)
  exact hK2 (v1 + 1) V1
def gX10_laysCauses_b2 (n : Nat) : Nat → Int32 → VT → Option (VT)
  | 0, _, _ => none
  | w + 1, v1, V =>
    if 7 ≤ v1 then
    (gX10_laysCauses_b42 n n 0 V)
    else
    (if (V.A 139 0) ≤ v1 then
    (gX10_laysCauses_b33 n (gX10_laysCauses_b2 n w) v1 0 v1 173 7 V)
    else
    ((rdA 14 (V.A 144) v1).bind fun x2 =>
    gX10_laysCauses_b33 n (gX10_laysCauses_b2 n w) v1 x2 v1 173 7 V))
set_option maxHeartbeats 1000000 in
theorem smX10_laysCauses_b2 {E : VE} {n : Nat} : ∀ (w : Nat) (v1 : Int32)  (V : VT), fX10_laysCauses_b2 n w 137 v1 (hpV E V) = (gX10_laysCauses_b2 n w v1 V).map (hpV E) := by
  intro w
  induction w with
  | zero => intro v1 V; rfl
  | succ w ih =>
    intro v1 V
    unfold fX10_laysCauses_b2 gX10_laysCauses_b2
    refine sb_ite ?_ ?_
    · exact smX10_laysCauses_b42 _ 0 V
    · refine sb_some (s_gR rfl rfl) ?_
      refine sb_some (s_gR rfl rfl) ?_
      refine sb_some ((s_aI rfl).trans (rdA_at (k := 0) (by decide) (by decide))) ?_
      refine sb_ite ?_ ?_
      · exact smX10_laysCauses_b33 ih rfl
      · refine sb_some (s_gR rfl rfl) ?_
        refine sb_bindE (s_aI rfl) (fun x2 => ?_)
        exact smX10_laysCauses_b33 ih rfl
def gX10_laysCauses (n : Nat)  (V : VT) : Option (VT) :=
  gX10_laysCauses_b2 n n 0 V
set_option maxHeartbeats 1000000 in
theorem smX10_laysCauses {E : VE} {n : Nat}  {V : VT}  : fX10_laysCauses n 137 (hpV E V) = (gX10_laysCauses n  V).map (hpV E) := by
  unfold fX10_laysCauses gX10_laysCauses
  refine sb_some (s_isO rfl) ?_
  exact smX10_laysCauses_b2 _ 0 V
def gX10_laysLines_b14 (n : Nat) : Nat → Int32 → Int32 → Int32 → VT → Option (VT)
  | 0, _, _, _, _ => none
  | w + 1, v1, v2, v3, V =>
    if 40 ≤ v3 then
    (some V)
    else
    ((rdA 240 (V.A 161) ((40 * v1) + v3)).bind fun x1 =>
    (wrA V 161 240 ((40 * v2) + v3) x1).bind fun V2 =>
    (rdA 240 (V2.A 162) ((40 * v1) + v3)).bind fun x3 =>
    (wrA V2 162 240 ((40 * v2) + v3) x3).bind fun V4 =>
    gX10_laysLines_b14 n w v1 v2 (v3 + 1) V4)
set_option maxHeartbeats 1000000 in
theorem smX10_laysLines_b14 {E : VE} {n : Nat} : ∀ (w : Nat) (v1 : Int32)  (v2 : Int32)  (v3 : Int32)  (V : VT), fX10_laysLines_b14 n w 137 v1 v2 v3 (hpV E V) = (gX10_laysLines_b14 n w v1 v2 v3 V).map (hpV E) := by
  intro w
  induction w with
  | zero => intro v1 v2 v3 V; rfl
  | succ w ih =>
    intro v1 v2 v3 V
    unfold fX10_laysLines_b14 gX10_laysLines_b14
    refine sb_ite ?_ ?_
    · rfl
    · refine sb_some (s_gR rfl rfl) ?_
      refine sb_some (s_gR rfl rfl) ?_
      refine sb_bindE (s_aI rfl) (fun x1 => ?_)
      refine sb_V (o' := wrA V 161 240 ((40 * v2) + v3) x1) (s_sI rfl) (fun V2 => ?_)
      refine sb_some (s_gR rfl rfl) ?_
      refine sb_some (s_gR rfl rfl) ?_
      refine sb_bindE (s_aI rfl) (fun x3 => ?_)
      refine sb_V (o' := wrA V2 162 240 ((40 * v2) + v3) x3) (s_sI rfl) (fun V4 => ?_)
      exact ih v1 v2 (v3 + 1) V4
def gX10_laysLines (n : Nat) (v1 : Int32) (v2 : Int32) (V : VT) : Option (VT) :=
  (rdA 6 (V.A 160) v1).bind fun x1 =>
  (wrA V 160 6 v2 x1).bind fun V2 =>
  gX10_laysLines_b14 n n v1 v2 0 V2
set_option maxHeartbeats 1000000 in
theorem smX10_laysLines {E : VE} {n : Nat} {v1 : Int32} {v2 : Int32} {V : VT}   : fX10_laysLines n 137 v1 v2 (hpV E V) = (gX10_laysLines n v1 v2 V).map (hpV E) := by
  unfold fX10_laysLines gX10_laysLines
  refine sb_some (s_isO rfl) ?_
  refine sb_some (s_gR rfl rfl) ?_
  refine sb_some (s_gR rfl rfl) ?_
  refine sb_bindE (s_aI rfl) (fun x1 => ?_)
  refine sb_V (o' := wrA V 160 6 v2 x1) (s_sI rfl) (fun V2 => ?_)
  exact smX10_laysLines_b14 _ v1 v2 0 V2
def gX10_laysSeen_b14 (n : Nat) : Nat → Int32 → Int32 → Int32 → VT → Option (VT)
  | 0, _, _, _, _ => none
  | w + 1, v1, v2, v3, V =>
    if 8 ≤ v3 then
    (some V)
    else
    ((rdA 40 (V.A 164) ((8 * v1) + v3)).bind fun x1 =>
    (wrA V 164 40 ((8 * v2) + v3) x1).bind fun V2 =>
    (rdA 40 (V2.A 165) ((8 * v1) + v3)).bind fun x3 =>
    (wrA V2 165 40 ((8 * v2) + v3) x3).bind fun V4 =>
    (rdA 40 (V4.A 166) ((8 * v1) + v3)).bind fun x5 =>
    (wrA V4 166 40 ((8 * v2) + v3) (qnar .boolean x5)).bind fun V6 =>
    gX10_laysSeen_b14 n w v1 v2 (v3 + 1) V6)
set_option maxHeartbeats 1000000 in
theorem smX10_laysSeen_b14 {E : VE} {n : Nat} : ∀ (w : Nat) (v1 : Int32)  (v2 : Int32)  (v3 : Int32)  (V : VT), fX10_laysSeen_b14 n w 137 v1 v2 v3 (hpV E V) = (gX10_laysSeen_b14 n w v1 v2 v3 V).map (hpV E) := by
  intro w
  induction w with
  | zero => intro v1 v2 v3 V; rfl
  | succ w ih =>
    intro v1 v2 v3 V
    unfold fX10_laysSeen_b14 gX10_laysSeen_b14
    refine sb_ite ?_ ?_
    · rfl
    · refine sb_some (s_gR rfl rfl) ?_
      refine sb_some (s_gR rfl rfl) ?_
      refine sb_bindE (s_aI rfl) (fun x1 => ?_)
      refine sb_V (o' := wrA V 164 40 ((8 * v2) + v3) x1) (s_sI rfl) (fun V2 => ?_)
      refine sb_some (s_gR rfl rfl) ?_
      refine sb_some (s_gR rfl rfl) ?_
      refine sb_bindE (s_aI rfl) (fun x3 => ?_)
      refine sb_V (o' := wrA V2 165 40 ((8 * v2) + v3) x3) (s_sI rfl) (fun V4 => ?_)
      refine sb_some (s_gR rfl rfl) ?_
      refine sb_some (s_gR rfl rfl) ?_
      refine sb_bindE (s_aI rfl) (fun x5 => ?_)
      refine sb_V (o' := wrA V4 166 40 ((8 * v2) + v3) (qnar .boolean x5)) (s_sI rfl) (fun V6 => ?_)
      exact ih v1 v2 (v3 + 1) V6
def gX10_laysSeen (n : Nat) (v1 : Int32) (v2 : Int32) (V : VT) : Option (VT) :=
  (rdA 5 (V.A 163) v1).bind fun x1 =>
  (wrA V 163 5 v2 x1).bind fun V2 =>
  gX10_laysSeen_b14 n n v1 v2 0 V2
set_option maxHeartbeats 1000000 in
theorem smX10_laysSeen {E : VE} {n : Nat} {v1 : Int32} {v2 : Int32} {V : VT}   : fX10_laysSeen n 137 v1 v2 (hpV E V) = (gX10_laysSeen n v1 v2 V).map (hpV E) := by
  unfold fX10_laysSeen gX10_laysSeen
  refine sb_some (s_isO rfl) ?_
  refine sb_some (s_gR rfl rfl) ?_
  refine sb_some (s_gR rfl rfl) ?_
  refine sb_bindE (s_aI rfl) (fun x1 => ?_)
  refine sb_V (o' := wrA V 163 5 v2 x1) (s_sI rfl) (fun V2 => ?_)
  exact smX10_laysSeen_b14 _ v1 v2 0 V2
def gX10_sourBy_b12 (n : Nat) : Nat → Int32 → Int32 → Int32 → Int32 → VT → Option (Int32 × VT)
  | 0, _, _, _, _, _ => none
  | w + 1, v1, v2, v3, v4, V =>
    if v2 ≤ v4 then
    (some (v3, V))
    else
    ((rdA 14 (V.A 141) v1).bind fun x1 =>
    if x1 = 3 then
    (some (v3, V))
    else
    ((rdA 16 (V.A 167) (9 + v1)).bind fun x2 =>
    (gX10_takenBy n v1 v3 (x2 + v4) V).bind fun p3 =>
    gX10_sourBy_b12 n w v1 v2 (if (0 : Int32) < (v3 - p3.1) then (v3 - p3.1) else (0 : Int32)) (v4 + 1) p3.2))
set_option maxHeartbeats 1000000 in
theorem smX10_sourBy_b12 {E : VE} {n : Nat} : ∀ (w : Nat) (v1 : Int32)  (v2 : Int32)  (v3 : Int32)  (v4 : Int32)  (V : VT), fX10_sourBy_b12 n w 137 v1 v2 v3 v4 (hpV E V) = (gX10_sourBy_b12 n w v1 v2 v3 v4 V).map (fun p => (p.1, hpV E p.2)) := by
  intro w
  induction w with
  | zero => intro v1 v2 v3 v4 V; rfl
  | succ w ih =>
    intro v1 v2 v3 v4 V
    unfold fX10_sourBy_b12 gX10_sourBy_b12
    refine sb_ite ?_ ?_
    · rfl
    · refine sb_some (s_gR rfl rfl) ?_
      refine sb_bindE (s_aI rfl) (fun x1 => ?_)
      refine sb_ite ?_ ?_
      · rfl
      · refine sb_some (s_gR rfl rfl) ?_
        refine sb_bindE (s_aI rfl) (fun x2 => ?_)
        refine sb_P (o' := gX10_takenBy n v1 v3 (x2 + v4) V) (smX10_takenBy) (fun p3 => ?_)
        exact ih v1 v2 (if (0 : Int32) < (v3 - p3.1) then (v3 - p3.1) else (0 : Int32)) (v4 + 1) p3.2
def gX10_sourBy (n : Nat) (v1 : Int32) (v2 : Int32) (V : VT) : Option (Int32 × VT) :=
  (rdA 16 (V.A 167) (2 + v1)).bind fun x1 =>
  gX10_sourBy_b12 n n v1 v2 x1 0 V
set_option maxHeartbeats 1000000 in
theorem smX10_sourBy {E : VE} {n : Nat} {v1 : Int32} {v2 : Int32} {V : VT}   : fX10_sourBy n 137 v1 v2 (hpV E V) = (gX10_sourBy n v1 v2 V).map (fun p => (p.1, hpV E p.2)) := by
  unfold fX10_sourBy gX10_sourBy
  refine sb_some (s_isO rfl) ?_
  refine sb_some (s_gR rfl rfl) ?_
  refine sb_bindE (s_aI rfl) (fun x1 => ?_)
  exact smX10_sourBy_b12 _ v1 v2 x1 0 V
def gX10_laysSours_b14 (n : Nat) (K2 : Int32 → VT → Option (VT)) : Nat → Int32 → Int32 → VT → Option (VT)
  | 0, _, _, _ => none
  | w + 1, v1, v2, V =>
    if 10 ≤ v2 then
    (K2 (v1 + 1) V)
    else
    ((gX10_sourBy n v1 v2 V).bind fun p1 =>
    (wrA p1.2 176 70 ((10 * v1) + v2) p1.1).bind fun V2 =>
    gX10_laysSours_b14 n K2 w v1 (v2 + 1) V2)
set_option maxHeartbeats 1000000 in
theorem smX10_laysSours_b14 {E : VE} {n : Nat} {K2 : Int32 → VT → Option (VT)} {k2 : Nat → Int32 → qH → Option (qH)} (hK2 : ∀ (v1 : Int32)  (V : VT), k2 137 v1 (hpV E V) = (K2 v1 V).map (hpV E)) : ∀ (w : Nat) (v1 : Int32)  (v2 : Int32)  (V : VT), fX10_laysSours_b14 n k2 w 137 v1 v2 (hpV E V) = (gX10_laysSours_b14 n K2 w v1 v2 V).map (hpV E) := by
  intro w
  induction w with
  | zero => intro v1 v2 V; rfl
  | succ w ih =>
    intro v1 v2 V
    unfold fX10_laysSours_b14 gX10_laysSours_b14
    refine sb_ite ?_ ?_
    · exact hK2 (v1 + 1) V
    · refine sb_some (s_gR rfl rfl) ?_
      refine sb_P (o' := gX10_sourBy n v1 v2 V) (smX10_sourBy) (fun p1 => ?_)
      refine sb_V (o' := wrA p1.2 176 70 ((10 * v1) + v2) p1.1) (s_sI rfl) (fun V2 => ?_)
      exact ih v1 (v2 + 1) V2
def gX10_laysSours_b2 (n : Nat) : Nat → Int32 → VT → Option (VT)
  | 0, _, _ => none
  | w + 1, v1, V =>
    if (V.A 139 0) ≤ v1 then
    (some V)
    else
    (gX10_laysSours_b14 n (gX10_laysSours_b2 n w) n v1 0 V)
set_option maxHeartbeats 1000000 in
theorem smX10_laysSours_b2 {E : VE} {n : Nat} : ∀ (w : Nat) (v1 : Int32)  (V : VT), fX10_laysSours_b2 n w 137 v1 (hpV E V) = (gX10_laysSours_b2 n w v1 V).map (hpV E) := by
  intro w
  induction w with
  | zero => intro v1 V; rfl
  | succ w ih =>
    intro v1 V
    unfold fX10_laysSours_b2 gX10_laysSours_b2
    refine sb_some (s_gR rfl rfl) ?_
    refine sb_some ((s_aI rfl).trans (rdA_at (k := 0) (by decide) (by decide))) ?_
    refine sb_ite ?_ ?_
    · rfl
    · exact smX10_laysSours_b14 ih _ v1 0 V
def gX10_laysSours (n : Nat)  (V : VT) : Option (VT) :=
  gX10_laysSours_b2 n n 0 V
set_option maxHeartbeats 1000000 in
theorem smX10_laysSours {E : VE} {n : Nat}  {V : VT}  : fX10_laysSours n 137 (hpV E V) = (gX10_laysSours n  V).map (hpV E) := by
  unfold fX10_laysSours gX10_laysSours
  refine sb_some (s_isO rfl) ?_
  exact smX10_laysSours_b2 _ 0 V
def gX10_livesYear_b88 (n : Nat) (v1 : Int32) (V : VT) : Option (Int32 × VT) :=
  (gX10_passes n V).bind fun V1 =>
  (qB v1).bind fun _ =>
  some (v1, V1)
set_option maxHeartbeats 1000000 in
theorem smX10_livesYear_b88 {E : VE} {n : Nat} {v1 : Int32} {V : VT}  : fX10_livesYear_b88 n 137 v1 (hpV E V) = (gX10_livesYear_b88 n v1 V).map (fun p => (p.1, hpV E p.2)) := by
  unfold fX10_livesYear_b88 gX10_livesYear_b88
  refine sb_V (o' := gX10_passes n V) (smX10_passes) (fun V1 => ?_)
  refine sb_bind (fun _ => ?_)
  rfl
def gX10_livesYear_b78 (n : Nat) (v2 : Int32) (s0 : Int32) (V : VT) : Option (Int32 × VT) :=
  if s0 = 0 then
  (gX10_livesYear_b88 n s0 V)
  else
  ((gX10_coats n v2 V).bind fun V1 =>
  gX10_livesYear_b88 n s0 V1)
set_option maxHeartbeats 1000000 in
theorem smX10_livesYear_b78 {E : VE} {n : Nat} {v2 : Int32} {s0 : Int32} {V : VT}   : fX10_livesYear_b78 n 137 v2 s0 (hpV E V) = (gX10_livesYear_b78 n v2 s0 V).map (fun p => (p.1, hpV E p.2)) := by
  unfold fX10_livesYear_b78 gX10_livesYear_b78
  refine sb_ite ?_ ?_
  · exact smX10_livesYear_b88
  · refine sb_V (o' := gX10_coats n v2 V) (smX10_coats) (fun V1 => ?_)
    exact smX10_livesYear_b88
def gX10_livesYear_b77 (n : Nat) (v2 : Int32) (V : VT) : Option (Int32 × VT) :=
  gX10_livesYear_b78 n v2 0 V
set_option maxHeartbeats 1000000 in
theorem smX10_livesYear_b77 {E : VE} {n : Nat} {v2 : Int32} {V : VT}  : fX10_livesYear_b77 n 137 v2 (hpV E V) = (gX10_livesYear_b77 n v2 V).map (fun p => (p.1, hpV E p.2)) := by
  unfold fX10_livesYear_b77 gX10_livesYear_b77
  exact smX10_livesYear_b78
def gX10_livesYear_b59 (n : Nat) (v2 : Int32) (V : VT) : Option (Int32 × VT) :=
  (gX10_priceOf v2 V).bind fun p2 =>
  if (V.A 167 1) < p2.1 then
  (gX10_livesYear_b77 n v2 p2.2)
  else
  (gX10_livesYear_b78 n v2 1 p2.2)
set_option maxHeartbeats 1000000 in
theorem smX10_livesYear_b59 {E : VE} {n : Nat} {v2 : Int32} {V : VT}  : fX10_livesYear_b59 n 137 v2 (hpV E V) = (gX10_livesYear_b59 n v2 V).map (fun p => (p.1, hpV E p.2)) := by
  unfold fX10_livesYear_b59 gX10_livesYear_b59
  refine sb_some (s_gR rfl rfl) ?_
  refine sb_some ((s_aI rfl).trans (rdA_at (k := 1) (by decide) (by decide))) ?_
  refine sb_P (o' := gX10_priceOf v2 V) (smX10_priceOf) (fun p2 => ?_)
  refine sb_ite ?_ ?_
  · exact smX10_livesYear_b77
  · exact smX10_livesYear_b78
def gX10_livesYear_b49 (n : Nat) (v2 : Int32) (v3 : Int32) (V : VT) : Option (Int32 × VT) :=
  if v3 = 1 then
  (gX10_livesYear_b59 n v2 V)
  else
  (if v3 = 2 then
  (gX10_livesYear_b59 n v2 V)
  else
  (gX10_livesYear_b77 n v2 V))
set_option maxHeartbeats 1000000 in
theorem smX10_livesYear_b49 {E : VE} {n : Nat} {v2 : Int32} {v3 : Int32} {V : VT}   : fX10_livesYear_b49 n 137 v2 v3 (hpV E V) = (gX10_livesYear_b49 n v2 v3 V).map (fun p => (p.1, hpV E p.2)) := by
  unfold fX10_livesYear_b49 gX10_livesYear_b49
  refine sb_ite ?_ ?_
  · exact smX10_livesYear_b59
  · refine sb_ite ?_ ?_
    · exact smX10_livesYear_b59
    · exact smX10_livesYear_b77
def gX10_livesYear (n : Nat)  (V : VT) : Option (Int32 × VT) :=
  if (V.A 139 0) ≤ 0 then
  (gX10_livesYear_b88 n 0 V)
  else
  ((gX10_draws (V.A 139 0) V).bind fun p3 =>
  (gX10_draws 4 p3.2).bind fun p4 =>
  if p4.1 = 0 then
  ((rdA 16 (p4.2.A 167) (9 + p3.1)).bind fun x5 =>
  if x5 ≤ 0 then
  (gX10_livesYear_b49 n p3.1 p4.1 p4.2)
  else
  ((gX10_eaten p3.1 p4.2).bind fun V6 =>
  gX10_livesYear_b49 n p3.1 p4.1 V6))
  else
  (gX10_livesYear_b49 n p3.1 p4.1 p4.2))
set_option maxHeartbeats 1000000 in
theorem smX10_livesYear {E : VE} {n : Nat}  {V : VT}  : fX10_livesYear n 137 (hpV E V) = (gX10_livesYear n  V).map (fun p => (p.1, hpV E p.2)) := by
  unfold fX10_livesYear gX10_livesYear
  refine sb_some (s_isO rfl) ?_
  refine sb_some (s_gR rfl rfl) ?_
  refine sb_some ((s_aI rfl).trans (rdA_at (k := 0) (by decide) (by decide))) ?_
  refine sb_ite ?_ ?_
  · exact smX10_livesYear_b88
  · refine sb_some (s_gR rfl rfl) ?_
    refine sb_some ((s_aI rfl).trans (rdA_at (k := 0) (by decide) (by decide))) ?_
    refine sb_P (o' := gX10_draws (V.A 139 0) V) (smX10_draws) (fun p3 => ?_)
    refine sb_P (o' := gX10_draws 4 p3.2) (smX10_draws) (fun p4 => ?_)
    refine sb_ite ?_ ?_
    · refine sb_some (s_gR rfl rfl) ?_
      refine sb_bindE (s_aI rfl) (fun x5 => ?_)
      refine sb_ite ?_ ?_
      · exact smX10_livesYear_b49
      · refine sb_V (o' := gX10_eaten p3.1 p4.2) (smX10_eaten) (fun V6 => ?_)
        exact smX10_livesYear_b49
    · exact smX10_livesYear_b49
def gX10_lost_b9 (n : Nat) : Nat → Int32 → Int32 → VT → Option (Int32 × VT)
  | 0, _, _, _ => none
  | w + 1, v1, v2, V =>
    if (V.A 139 0) ≤ v2 then
    (some (v1, V))
    else
    ((gX10_cheapBy n v2 V).bind fun p2 =>
    if 0 ≤ p2.1 then
    (gX10_lost_b9 n w (v1 ||| 0) (v2 + 1) p2.2)
    else
    (gX10_lost_b9 n w (v1 ||| ((1 : Int32) <<< (v2 &&& 31))) (v2 + 1) p2.2))
set_option maxHeartbeats 1000000 in
theorem smX10_lost_b9 {E : VE} {n : Nat} : ∀ (w : Nat) (v1 : Int32)  (v2 : Int32)  (V : VT), fX10_lost_b9 n w 137 v1 v2 (hpV E V) = (gX10_lost_b9 n w v1 v2 V).map (fun p => (p.1, hpV E p.2)) := by
  intro w
  induction w with
  | zero => intro v1 v2 V; rfl
  | succ w ih =>
    intro v1 v2 V
    unfold fX10_lost_b9 gX10_lost_b9
    refine sb_some (s_gR rfl rfl) ?_
    refine sb_some ((s_aI rfl).trans (rdA_at (k := 0) (by decide) (by decide))) ?_
    refine sb_ite ?_ ?_
    · rfl
    · refine sb_P (o' := gX10_cheapBy n v2 V) (smX10_cheapBy) (fun p2 => ?_)
      refine sb_ite ?_ ?_
      · exact ih (v1 ||| 0) (v2 + 1) p2.2
      · exact ih (v1 ||| ((1 : Int32) <<< (v2 &&& 31))) (v2 + 1) p2.2
def gX10_lost (n : Nat)  (V : VT) : Option (Int32 × VT) :=
  (some (wF V 137 0 0)).bind fun V1 =>
  gX10_lost_b9 n n 0 0 V1
set_option maxHeartbeats 1000000 in
theorem smX10_lost {E : VE} {n : Nat}  {V : VT}  : fX10_lost n 137 (hpV E V) = (gX10_lost n  V).map (fun p => (p.1, hpV E p.2)) := by
  unfold fX10_lost gX10_lost
  refine sb_some (s_isO rfl) ?_
  refine sb_V (o' := some (wF V 137 0 0)) (w10_0 rfl) (fun V1 => ?_)
  exact smX10_lost_b9 _ 0 0 V1
def gX10_mark_b59 (n : Nat) (v1 : Int32) (v2 : Int32) (v3 : Int32) (s0 : Int32) (V : VT) : Option (Int32 × VT) :=
  (gX10_laysLines n v3 s0 V).bind fun V1 =>
  (gX10_laysSeen n v3 s0 V1).bind fun V2 =>
  if v2 = 0 then
  ((gX10_copies n 167 16 0 170 64 (16 * v1) V2).bind fun V3 =>
  some (1, V3))
  else
  ((gX10_copies n 170 64 (16 * v1) 167 16 0 V2).bind fun V4 =>
  (some (wF V4 137 47 0)).bind fun V5 =>
  some (1, V5))
set_option maxHeartbeats 1000000 in
theorem smX10_mark_b59 {E : VE} {n : Nat} {v1 : Int32} {v2 : Int32} {v3 : Int32} {s0 : Int32} {V : VT}     : fX10_mark_b59 n 137 v1 v2 v3 s0 (hpV E V) = (gX10_mark_b59 n v1 v2 v3 s0 V).map (fun p => (p.1, hpV E p.2)) := by
  unfold fX10_mark_b59 gX10_mark_b59
  refine sb_V (o' := gX10_laysLines n v3 s0 V) (smX10_laysLines) (fun V1 => ?_)
  refine sb_V (o' := gX10_laysSeen n v3 s0 V1) (smX10_laysSeen) (fun V2 => ?_)
  refine sb_ite ?_ ?_
  · refine sb_some (s_gR rfl rfl) ?_
    refine sb_some (s_gR rfl rfl) ?_
    refine sb_V (o' := gX10_copies n 167 16 0 170 64 (16 * v1) V2) (smX10_copies rfl rfl) (fun V3 => ?_)
    rfl
  · refine sb_some (s_gR rfl rfl) ?_
    refine sb_some (s_gR rfl rfl) ?_
    refine sb_V (o' := gX10_copies n 170 64 (16 * v1) 167 16 0 V2) (smX10_copies rfl rfl) (fun V4 => ?_)
    refine sb_V (o' := some (wF V4 137 47 0)) (w10_47 rfl) (fun V5 => ?_)
    rfl
def gX10_mark_b47 (n : Nat) (v1 : Int32) (v2 : Int32) (s0 : Int32) (V : VT) : Option (Int32 × VT) :=
  if v2 = 0 then
  (gX10_mark_b59 n v1 v2 s0 (1 + v1) V)
  else
  (gX10_mark_b59 n v1 v2 s0 0 V)
set_option maxHeartbeats 1000000 in
theorem smX10_mark_b47 {E : VE} {n : Nat} {v1 : Int32} {v2 : Int32} {s0 : Int32} {V : VT}    : fX10_mark_b47 n 137 v1 v2 s0 (hpV E V) = (gX10_mark_b47 n v1 v2 s0 V).map (fun p => (p.1, hpV E p.2)) := by
  unfold fX10_mark_b47 gX10_mark_b47
  refine sb_ite ?_ ?_
  · exact smX10_mark_b59
  · exact smX10_mark_b59
def gX10_mark_b29 (n : Nat) (v1 : Int32) (v2 : Int32) (V : VT) : Option (Int32 × VT) :=
  (wrA V 172 4 v1 (qnar .boolean 1)).bind fun V1 =>
  if v2 = 0 then
  (gX10_mark_b47 n v1 v2 0 V1)
  else
  (gX10_mark_b47 n v1 v2 (1 + v1) V1)
set_option maxHeartbeats 1000000 in
theorem smX10_mark_b29 {E : VE} {n : Nat} {v1 : Int32} {v2 : Int32} {V : VT}   : fX10_mark_b29 n 137 v1 v2 (hpV E V) = (gX10_mark_b29 n v1 v2 V).map (fun p => (p.1, hpV E p.2)) := by
  unfold fX10_mark_b29 gX10_mark_b29
  refine sb_some (s_gR rfl rfl) ?_
  refine sb_V (o' := wrA V 172 4 v1 (qnar .boolean 1)) (s_sI rfl) (fun V1 => ?_)
  refine sb_ite ?_ ?_
  · exact smX10_mark_b47
  · exact smX10_mark_b47
def gX10_mark (n : Nat) (v1 : Int32) (v2 : Int32) (V : VT) : Option (Int32 × VT) :=
  (some (wF V 137 0 0)).bind fun V1 =>
  (gX10_within v1 0 3 V1).bind fun p2 =>
  if p2.1 = 0 then
  (some (0, p2.2))
  else
  (if v2 = 0 then
  (gX10_mark_b29 n v1 v2 p2.2)
  else
  ((rdA 4 (p2.2.A 172) v1).bind fun x3 =>
  if x3 = 0 then
  (some (0, p2.2))
  else
  (gX10_mark_b29 n v1 v2 p2.2)))
set_option maxHeartbeats 1000000 in
theorem smX10_mark {E : VE} {n : Nat} {v1 : Int32} {v2 : Int32} {V : VT}   : fX10_mark n 137 v1 v2 (hpV E V) = (gX10_mark n v1 v2 V).map (fun p => (p.1, hpV E p.2)) := by
  unfold fX10_mark gX10_mark
  refine sb_some (s_isO rfl) ?_
  refine sb_V (o' := some (wF V 137 0 0)) (w10_0 rfl) (fun V1 => ?_)
  refine sb_P (o' := gX10_within v1 0 3 V1) (smX10_within) (fun p2 => ?_)
  refine sb_ite ?_ ?_
  · rfl
  · refine sb_ite ?_ ?_
    · exact smX10_mark_b29
    · refine sb_some (s_gR rfl rfl) ?_
      refine sb_bindE (s_aI rfl) (fun x3 => ?_)
      refine sb_ite ?_ ?_
      · rfl
      · exact smX10_mark_b29
def gX10_matter (n : Nat) (v1 : Int32) (v2 : Int32) (V : VT) : Option (Int32 × VT) :=
  (some (wF V 137 0 0)).bind fun V1 =>
  (gX10_isMatter v1 V1).bind fun p2 =>
  if p2.1 = 0 then
  (some ((-1), p2.2))
  else
  ((gX10_within v2 0 6 p2.2).bind fun p3 =>
  if p3.1 = 0 then
  (some ((-1), p3.2))
  else
  (if 2 ≤ v2 then
  (if 4 ≤ v2 then
  (if v2 = 4 then
  ((gX10_meantNow n p3.2).bind fun p7 =>
  some ((p7.1 >>> (v1 &&& 31)) &&& 1, p7.2))
  else
  (if v2 = 5 then
  ((gX10_meantNow n p3.2).bind fun p5 =>
  (gX10_rightBy n p5.1 p5.2).bind fun p6 =>
  some ((p6.1 >>> (v1 &&& 31)) &&& 1, p6.2))
  else
  ((rdA 14 (p3.2.A 144) v1).bind fun x4 =>
  some (x4, p3.2))))
  else
  (if v2 = 2 then
  ((rdA 16 (p3.2.A 167) (2 + v1)).bind fun x9 =>
  some (x9, p3.2))
  else
  ((rdA 16 (p3.2.A 167) (9 + v1)).bind fun x8 =>
  some (x8, p3.2))))
  else
  (if v2 = 0 then
  ((rdA 14 (p3.2.A 141) v1).bind fun x11 =>
  some (x11, p3.2))
  else
  ((rdA 14 (p3.2.A 142) v1).bind fun x10 =>
  some (x10, p3.2)))))
set_option maxHeartbeats 1000000 in
theorem smX10_matter {E : VE} {n : Nat} {v1 : Int32} {v2 : Int32} {V : VT}   : fX10_matter n 137 v1 v2 (hpV E V) = (gX10_matter n v1 v2 V).map (fun p => (p.1, hpV E p.2)) := by
  unfold fX10_matter gX10_matter
  refine sb_some (s_isO rfl) ?_
  refine sb_V (o' := some (wF V 137 0 0)) (w10_0 rfl) (fun V1 => ?_)
  refine sb_P (o' := gX10_isMatter v1 V1) (smX10_isMatter) (fun p2 => ?_)
  refine sb_ite ?_ ?_
  · rfl
  · refine sb_P (o' := gX10_within v2 0 6 p2.2) (smX10_within) (fun p3 => ?_)
    refine sb_ite ?_ ?_
    · rfl
    · refine sb_ite ?_ ?_
      · refine sb_ite ?_ ?_
        · refine sb_ite ?_ ?_
          · refine sb_P (o' := gX10_meantNow n p3.2) (smX10_meantNow) (fun p7 => ?_)
            rfl
          · refine sb_ite ?_ ?_
            · refine sb_P (o' := gX10_meantNow n p3.2) (smX10_meantNow) (fun p5 => ?_)
              refine sb_P (o' := gX10_rightBy n p5.1 p5.2) (smX10_rightBy) (fun p6 => ?_)
              rfl
            · refine sb_some (s_gR rfl rfl) ?_
              refine sb_bindE (s_aI rfl) (fun x4 => ?_)
              rfl
        · refine sb_ite ?_ ?_
          · refine sb_some (s_gR rfl rfl) ?_
            refine sb_bindE (s_aI rfl) (fun x9 => ?_)
            rfl
          · refine sb_some (s_gR rfl rfl) ?_
            refine sb_bindE (s_aI rfl) (fun x8 => ?_)
            rfl
      · refine sb_ite ?_ ?_
        · refine sb_some (s_gR rfl rfl) ?_
          refine sb_bindE (s_aI rfl) (fun x11 => ?_)
          rfl
        · refine sb_some (s_gR rfl rfl) ?_
          refine sb_bindE (s_aI rfl) (fun x10 => ?_)
          rfl
def gX10_matterNamed_b5 (n : Nat) : Nat → Int32 → Int32 → VT → Option (Int32 × VT)
  | 0, _, _, _ => none
  | w + 1, v1, v2, V =>
    (rdA 8 (V.A 139) ((4 * v1) + 0)).bind fun x1 =>
    if ((7 * v1) + x1) ≤ v2 then
    (some ((-1), V))
    else
    ((rdL 14 (V.L 140) v2).bind fun x2 =>
    if (lg_cmp x2 (V.G 137 7)) = 0 then
    (some (v2 - (7 * v1), V))
    else
    (gX10_matterNamed_b5 n w v1 (v2 + 1) V))
set_option maxHeartbeats 1000000 in
theorem smX10_matterNamed_b5 {E : VE} {n : Nat} : ∀ (w : Nat) (v1 : Int32)  (v2 : Int32)  (V : VT), fX10_matterNamed_b5 n w 137 v1 v2 (hpV E V) = (gX10_matterNamed_b5 n w v1 v2 V).map (fun p => (p.1, hpV E p.2)) := by
  intro w
  induction w with
  | zero => intro v1 v2 V; rfl
  | succ w ih =>
    intro v1 v2 V
    unfold fX10_matterNamed_b5 gX10_matterNamed_b5
    refine sb_some (s_gR rfl rfl) ?_
    refine sb_bindE (s_aI rfl) (fun x1 => ?_)
    refine sb_ite ?_ ?_
    · rfl
    · refine sb_some (s_gR rfl rfl) ?_
      refine sb_bindE (s_aL rfl) (fun x2 => ?_)
      refine sb_some (s_gL rfl rfl) ?_
      refine sb_ite ?_ ?_
      · rfl
      · exact ih v1 (v2 + 1) V
def gX10_matterNamed (n : Nat) (v1 : Int32) (V : VT) : Option (Int32 × VT) :=
  gX10_matterNamed_b5 n n v1 (7 * v1) V
set_option maxHeartbeats 1000000 in
theorem smX10_matterNamed {E : VE} {n : Nat} {v1 : Int32} {V : VT}  : fX10_matterNamed n 137 v1 (hpV E V) = (gX10_matterNamed n v1 V).map (fun p => (p.1, hpV E p.2)) := by
  unfold fX10_matterNamed gX10_matterNamed
  refine sb_some (s_isO rfl) ?_
  exact smX10_matterNamed_b5 _ v1 (7 * v1) V
def gX10_meant (n : Nat)  (V : VT) : Option (Int32 × VT) :=
  (some (wF V 137 0 0)).bind fun V1 =>
  (gX10_meantNow n V1).bind fun p2 =>
  some (p2.1, p2.2)
set_option maxHeartbeats 1000000 in
theorem smX10_meant {E : VE} {n : Nat}  {V : VT}  : fX10_meant n 137 (hpV E V) = (gX10_meant n  V).map (fun p => (p.1, hpV E p.2)) := by
  unfold fX10_meant gX10_meant
  refine sb_some (s_isO rfl) ?_
  refine sb_V (o' := some (wF V 137 0 0)) (w10_0 rfl) (fun V1 => ?_)
  refine sb_P (o' := gX10_meantNow n V1) (smX10_meantNow) (fun p2 => ?_)
  rfl
def gX10_most_b42 (n : Nat) : Nat → Int32 → Int32 → Int32 → Int32 → Int32 → VT → Option (Int32 × VT)
  | 0, _, _, _, _, _, _ => none
  | w + 1, v1, v2, v3, v4, v5, V =>
    (gX10_every V).bind fun p1 =>
    if p1.1 < v5 then
    (if v2 = 0 then
    ((gX10_bits n v4 p1.2).bind fun p3 =>
    some (p3.1, p3.2))
    else
    (if v2 = 1 then
    ((gX10_costsOf n v4 p1.2).bind fun p2 =>
    some (p2.1, p2.2))
    else
    (some (v4, p1.2))))
    else
    (if (v5 &&& v3) = v3 then
    ((gX10_costsOf n v5 p1.2).bind fun p4 =>
    if v1 < p4.1 then
    (gX10_most_b42 n w v1 v2 v3 v4 (v5 + 1) p4.2)
    else
    ((gX10_bits n v5 p4.2).bind fun p5 =>
    (gX10_bits n v4 p5.2).bind fun p6 =>
    if p6.1 ≤ p5.1 then
    ((gX10_bits n v5 p6.2).bind fun p7 =>
    (gX10_bits n v4 p7.2).bind fun p8 =>
    if p8.1 < p7.1 then
    (gX10_most_b42 n w v1 v2 v3 v5 (v5 + 1) p8.2)
    else
    ((gX10_costsOf n v5 p8.2).bind fun p9 =>
    (gX10_costsOf n v4 p9.2).bind fun p10 =>
    if p10.1 ≤ p9.1 then
    (gX10_most_b42 n w v1 v2 v3 v4 (v5 + 1) p10.2)
    else
    (gX10_most_b42 n w v1 v2 v3 v5 (v5 + 1) p10.2)))
    else
    (gX10_most_b42 n w v1 v2 v3 v4 (v5 + 1) p6.2)))
    else
    (gX10_most_b42 n w v1 v2 v3 v4 (v5 + 1) p1.2))
set_option maxHeartbeats 1000000 in
theorem smX10_most_b42 {E : VE} {n : Nat} : ∀ (w : Nat) (v1 : Int32)  (v2 : Int32)  (v3 : Int32)  (v4 : Int32)  (v5 : Int32)  (V : VT), fX10_most_b42 n w 137 v1 v2 v3 v4 v5 (hpV E V) = (gX10_most_b42 n w v1 v2 v3 v4 v5 V).map (fun p => (p.1, hpV E p.2)) := by
  intro w
  induction w with
  | zero => intro v1 v2 v3 v4 v5 V; rfl
  | succ w ih =>
    intro v1 v2 v3 v4 v5 V
    unfold fX10_most_b42 gX10_most_b42
    refine sb_P (o' := gX10_every V) (smX10_every) (fun p1 => ?_)
    refine sb_ite ?_ ?_
    · refine sb_ite ?_ ?_
      · refine sb_P (o' := gX10_bits n v4 p1.2) (smX10_bits) (fun p3 => ?_)
        rfl
      · refine sb_ite ?_ ?_
        · refine sb_P (o' := gX10_costsOf n v4 p1.2) (smX10_costsOf) (fun p2 => ?_)
          rfl
        · rfl
    · refine sb_ite ?_ ?_
      · refine sb_P (o' := gX10_costsOf n v5 p1.2) (smX10_costsOf) (fun p4 => ?_)
        refine sb_ite ?_ ?_
        · exact ih v1 v2 v3 v4 (v5 + 1) p4.2
        · refine sb_P (o' := gX10_bits n v5 p4.2) (smX10_bits) (fun p5 => ?_)
          refine sb_P (o' := gX10_bits n v4 p5.2) (smX10_bits) (fun p6 => ?_)
          refine sb_ite ?_ ?_
          · refine sb_P (o' := gX10_bits n v5 p6.2) (smX10_bits) (fun p7 => ?_)
            refine sb_P (o' := gX10_bits n v4 p7.2) (smX10_bits) (fun p8 => ?_)
            refine sb_ite ?_ ?_
            · exact ih v1 v2 v3 v5 (v5 + 1) p8.2
            · refine sb_P (o' := gX10_costsOf n v5 p8.2) (smX10_costsOf) (fun p9 => ?_)
              refine sb_P (o' := gX10_costsOf n v4 p9.2) (smX10_costsOf) (fun p10 => ?_)
              refine sb_ite ?_ ?_
              · exact ih v1 v2 v3 v4 (v5 + 1) p10.2
              · exact ih v1 v2 v3 v5 (v5 + 1) p10.2
          · exact ih v1 v2 v3 v4 (v5 + 1) p6.2
      · exact ih v1 v2 v3 v4 (v5 + 1) p1.2
def gX10_most (n : Nat) (v1 : Int32) (v2 : Int32) (V : VT) : Option (Int32 × VT) :=
  (some (wF V 137 0 0)).bind fun V1 =>
  (gX10_within v1 0 200 V1).bind fun p2 =>
  if p2.1 = 0 then
  (some ((-1), p2.2))
  else
  ((gX10_within v2 0 2 p2.2).bind fun p3 =>
  if p3.1 = 0 then
  (some ((-1), p3.2))
  else
  ((gX10_laysCosts n p3.2).bind fun V4 =>
  (gX10_meantNow n V4).bind fun p5 =>
  gX10_most_b42 n n v1 v2 p5.1 p5.1 0 p5.2))
set_option maxHeartbeats 1000000 in
theorem smX10_most {E : VE} {n : Nat} {v1 : Int32} {v2 : Int32} {V : VT}   : fX10_most n 137 v1 v2 (hpV E V) = (gX10_most n v1 v2 V).map (fun p => (p.1, hpV E p.2)) := by
  unfold fX10_most gX10_most
  refine sb_some (s_isO rfl) ?_
  refine sb_V (o' := some (wF V 137 0 0)) (w10_0 rfl) (fun V1 => ?_)
  refine sb_P (o' := gX10_within v1 0 200 V1) (smX10_within) (fun p2 => ?_)
  refine sb_ite ?_ ?_
  · rfl
  · refine sb_P (o' := gX10_within v2 0 2 p2.2) (smX10_within) (fun p3 => ?_)
    refine sb_ite ?_ ?_
    · rfl
    · refine sb_V (o' := gX10_laysCosts n p3.2) (smX10_laysCosts) (fun V4 => ?_)
      refine sb_P (o' := gX10_meantNow n V4) (smX10_meantNow) (fun p5 => ?_)
      exact smX10_most_b42 _ v1 v2 p5.1 p5.1 0 p5.2
def gX10_needsNumber (n : Nat) (v1 : Int32) (v2 : Int32) (V : VT) : Option (Int32 × VT) :=
  if (V.F 137 6) = 2 then
  ((gX10_within (V.F 137 8) v1 v2 V).bind fun p1 =>
  if p1.1 = 0 then
  ((gX10_fails 4 p1.2).bind fun p4 =>
  (qB p4.1).bind fun _ =>
  some (p4.1, p4.2))
  else
  ((some (wF p1.2 137 33 (p1.2.F 137 8))).bind fun V2 =>
  (gX10_nextToken n V2).bind fun V3 =>
  some (1, V3)))
  else
  ((gX10_fails 1 V).bind fun p5 =>
  (qB p5.1).bind fun _ =>
  some (p5.1, p5.2))
set_option maxHeartbeats 1000000 in
theorem smX10_needsNumber {E : VE} {n : Nat} {v1 : Int32} {v2 : Int32} {V : VT}   : fX10_needsNumber n 137 v1 v2 (hpV E V) = (gX10_needsNumber n v1 v2 V).map (fun p => (p.1, hpV E p.2)) := by
  unfold fX10_needsNumber gX10_needsNumber
  refine sb_some (s_isO rfl) ?_
  refine sb_some (s_gI rfl rfl) ?_
  refine sb_ite ?_ ?_
  · refine sb_some (s_gI rfl rfl) ?_
    refine sb_P (o' := gX10_within (V.F 137 8) v1 v2 V) (smX10_within) (fun p1 => ?_)
    refine sb_ite ?_ ?_
    · refine sb_P (o' := gX10_fails 4 p1.2) (smX10_fails) (fun p4 => ?_)
      refine sb_bind (fun _ => ?_)
      rfl
    · refine sb_some (s_gI rfl rfl) ?_
      refine sb_V (o' := some (wF p1.2 137 33 (p1.2.F 137 8))) (w10_33 rfl) (fun V2 => ?_)
      refine sb_V (o' := gX10_nextToken n V2) (smX10_nextToken) (fun V3 => ?_)
      rfl
  · refine sb_P (o' := gX10_fails 1 V) (smX10_fails) (fun p5 => ?_)
    refine sb_bind (fun _ => ?_)
    rfl
def gX10_needsBoth (n : Nat) (v1 : Int64) (v3 : Int32) (v4 : Int32) (V : VT) : Option (Int32 × VT) :=
  (gX10_isWord v1 V).bind fun p1 =>
  if p1.1 = 0 then
  ((gX10_fails 1 p1.2).bind fun p4 =>
  (qB p4.1).bind fun _ =>
  some (p4.1, p4.2))
  else
  ((gX10_nextToken n p1.2).bind fun V2 =>
  (gX10_needsNumber n v3 v4 V2).bind fun p3 =>
  (qB p3.1).bind fun _ =>
  some (p3.1, p3.2))
set_option maxHeartbeats 1000000 in
theorem smX10_needsBoth {E : VE} {n : Nat} {v1 : Int64} {v3 : Int32} {v4 : Int32} {V : VT}    : fX10_needsBoth n 137 v1 v3 v4 (hpV E V) = (gX10_needsBoth n v1 v3 v4 V).map (fun p => (p.1, hpV E p.2)) := by
  unfold fX10_needsBoth gX10_needsBoth
  refine sb_some (s_isO rfl) ?_
  refine sb_P (o' := gX10_isWord v1 V) (smX10_isWord) (fun p1 => ?_)
  refine sb_ite ?_ ?_
  · refine sb_P (o' := gX10_fails 1 p1.2) (smX10_fails) (fun p4 => ?_)
    refine sb_bind (fun _ => ?_)
    rfl
  · refine sb_V (o' := gX10_nextToken n p1.2) (smX10_nextToken) (fun V2 => ?_)
    refine sb_P (o' := gX10_needsNumber n v3 v4 V2) (smX10_needsNumber) (fun p3 => ?_)
    refine sb_bind (fun _ => ?_)
    rfl
def gX10_needsMatter (n : Nat) (v1 : Int32) (V : VT) : Option (Int32 × VT) :=
  (gX10_isKept V).bind fun p1 =>
  if p1.1 = 0 then
  ((gX10_matterNamed n v1 p1.2).bind fun p2 =>
  (some (wF p2.2 137 33 p2.1)).bind fun V3 =>
  if 0 ≤ (V3.F 137 33) then
  (some (1, V3))
  else
  ((gX10_fails 2 V3).bind fun p4 =>
  if p4.1 = 0 then
  (some (0, p4.2))
  else
  (some (1, p4.2))))
  else
  ((gX10_fails 1 p1.2).bind fun p5 =>
  (qB p5.1).bind fun _ =>
  some (p5.1, p5.2))
set_option maxHeartbeats 1000000 in
theorem smX10_needsMatter {E : VE} {n : Nat} {v1 : Int32} {V : VT}  : fX10_needsMatter n 137 v1 (hpV E V) = (gX10_needsMatter n v1 V).map (fun p => (p.1, hpV E p.2)) := by
  unfold fX10_needsMatter gX10_needsMatter
  refine sb_some (s_isO rfl) ?_
  refine sb_P (o' := gX10_isKept V) (smX10_isKept) (fun p1 => ?_)
  refine sb_ite ?_ ?_
  · refine sb_P (o' := gX10_matterNamed n v1 p1.2) (smX10_matterNamed) (fun p2 => ?_)
    refine sb_V (o' := some (wF p2.2 137 33 p2.1)) (w10_33 rfl) (fun V3 => ?_)
    refine sb_some (s_gI rfl rfl) ?_
    refine sb_ite ?_ ?_
    · rfl
    · refine sb_P (o' := gX10_fails 2 V3) (smX10_fails) (fun p4 => ?_)
      refine sb_ite ?_ ?_
      · rfl
      · rfl
  · refine sb_P (o' := gX10_fails 1 p1.2) (smX10_fails) (fun p5 => ?_)
    refine sb_bind (fun _ => ?_)
    rfl
def gX10_readsLed_b77 (n : Nat)  (V : VT) : Option (Int32 × VT) :=
  (gX10_fails 3 V).bind fun p1 =>
  (qB p1.1).bind fun _ =>
  some (p1.1, p1.2)
set_option maxHeartbeats 1000000 in
theorem smX10_readsLed_b77 {E : VE} {n : Nat}  {V : VT}  : fX10_readsLed_b77 n 137 (hpV E V) = (gX10_readsLed_b77 n  V).map (fun p => (p.1, hpV E p.2)) := by
  unfold fX10_readsLed_b77 gX10_readsLed_b77
  refine sb_P (o' := gX10_fails 3 V) (smX10_fails) (fun p1 => ?_)
  refine sb_bind (fun _ => ?_)
  rfl
def gX10_readsLed (n : Nat)  (V : VT) : Option (Int32 × VT) :=
  (gX10_nextToken n V).bind fun V1 =>
  (gX10_needsMatter n 1 V1).bind fun p2 =>
  if p2.1 = 0 then
  (some (0, p2.2))
  else
  ((gX10_nextToken n p2.2).bind fun V3 =>
  (gX10_needsMatter n 1 V3).bind fun p4 =>
  if p4.1 = 0 then
  (some (0, p4.2))
  else
  ((rdA 14 (p4.2.A 142) (7 + (p4.2.F 137 33))).bind fun x5 =>
  (rdA 14 (p4.2.A 142) (7 + (p2.2.F 137 33))).bind fun x6 =>
  if x5 ≤ x6 then
  (gX10_readsLed_b77 n p4.2)
  else
  ((rdA 14 (p4.2.A 144) (7 + (p2.2.F 137 33))).bind fun x7 =>
  if ((x7 >>> ((p4.2.F 137 33) &&& 31)) &&& 1) = 1 then
  (gX10_readsLed_b77 n p4.2)
  else
  ((rdA 14 (p4.2.A 144) (7 + (p2.2.F 137 33))).bind fun x8 =>
  (wrA p4.2 144 14 (7 + (p2.2.F 137 33)) (x8 ||| ((1 : Int32) <<< ((p4.2.F 137 33) &&& 31)))).bind fun V9 =>
  (gX10_nextToken n V9).bind fun V10 =>
  (gX10_closes n V10).bind fun p11 =>
  (qB p11.1).bind fun _ =>
  some (p11.1, p11.2)))))
set_option maxHeartbeats 1000000 in
theorem smX10_readsLed {E : VE} {n : Nat}  {V : VT}  : fX10_readsLed n 137 (hpV E V) = (gX10_readsLed n  V).map (fun p => (p.1, hpV E p.2)) := by
  unfold fX10_readsLed gX10_readsLed
  refine sb_some (s_isO rfl) ?_
  refine sb_V (o' := gX10_nextToken n V) (smX10_nextToken) (fun V1 => ?_)
  refine sb_P (o' := gX10_needsMatter n 1 V1) (smX10_needsMatter) (fun p2 => ?_)
  refine sb_ite ?_ ?_
  · rfl
  · refine sb_some (s_gI rfl rfl) ?_
    refine sb_V (o' := gX10_nextToken n p2.2) (smX10_nextToken) (fun V3 => ?_)
    refine sb_P (o' := gX10_needsMatter n 1 V3) (smX10_needsMatter) (fun p4 => ?_)
    refine sb_ite ?_ ?_
    · rfl
    · refine sb_some (s_gR rfl rfl) ?_
      refine sb_some (s_gI rfl rfl) ?_
      refine sb_bindE (s_aI rfl) (fun x5 => ?_)
      refine sb_some (s_gR rfl rfl) ?_
      refine sb_bindE (s_aI rfl) (fun x6 => ?_)
      refine sb_ite ?_ ?_
      · exact smX10_readsLed_b77
      · refine sb_some (s_gR rfl rfl) ?_
        refine sb_bindE (s_aI rfl) (fun x7 => ?_)
        refine sb_some (s_gI rfl rfl) ?_
        refine sb_ite ?_ ?_
        · exact smX10_readsLed_b77
        · refine sb_some (s_gR rfl rfl) ?_
          refine sb_bindE (s_aI rfl) (fun x8 => ?_)
          refine sb_some (s_gI rfl rfl) ?_
          refine sb_V (o' := wrA p4.2 144 14 (7 + (p2.2.F 137 33)) (x8 ||| ((1 : Int32) <<< ((p4.2.F 137 33) &&& 31)))) (s_sI rfl) (fun V9 => ?_)
          refine sb_V (o' := gX10_nextToken n V9) (smX10_nextToken) (fun V10 => ?_)
          refine sb_P (o' := gX10_closes n V10) (smX10_closes) (fun p11 => ?_)
          refine sb_bind (fun _ => ?_)
          rfl
def gX10_readsMatter_b124 (n : Nat) (v1 : Int32) (v2 : Int64) (s0 : Int32) (s1 : Int32) (s2 : Nat) (ms2 : Nat) (V : VT) : Option (Int32 × VT) :=
  (wrA V s2 ms2 s1 s0).bind fun V1 =>
  (rdA 14 (V1.A 141) v1).bind fun x2 =>
  if 0 ≤ x2 then
  ((gX10_nextToken n V1).bind fun V3 =>
  (gX10_needsBoth n 257 0 99 V3).bind fun p4 =>
  if p4.1 = 0 then
  (some (0, p4.2))
  else
  ((wrA p4.2 142 14 v1 (p4.2.F 137 33)).bind fun V5 =>
  (gX10_needsBoth n 385497 0 40 V5).bind fun p6 =>
  if p6.1 = 0 then
  (some (0, p6.2))
  else
  ((wrA p6.2 143 14 v1 (p6.2.F 137 33)).bind fun V7 =>
  (wrA V7 144 14 v1 0).bind fun V8 =>
  (wrL V8 140 14 v1 v2).bind fun V9 =>
  (some (wA V9 139 4 ((V9.A 139 4) + 1))).bind fun V11 =>
  (gX10_closes n V11).bind fun p12 =>
  (qB p12.1).bind fun _ =>
  some (p12.1, p12.2))))
  else
  ((gX10_fails 1 V1).bind fun p13 =>
  (qB p13.1).bind fun _ =>
  some (p13.1, p13.2))
set_option maxHeartbeats 1000000 in
theorem smX10_readsMatter_b124 {E : VE} {n : Nat} {v1 : Int32} {v2 : Int64} {s0 : Int32} {s1 : Int32} {s2 : Nat} {ms2 : Nat} {V : VT}      (hs2 : arrAt s2 = some (.int, ms2)) : fX10_readsMatter_b124 n 137 v1 v2 s0 s1 s2 (hpV E V) = (gX10_readsMatter_b124 n v1 v2 s0 s1 s2 ms2 V).map (fun p => (p.1, hpV E p.2)) := by
  unfold fX10_readsMatter_b124 gX10_readsMatter_b124
  refine sb_V (o' := wrA V s2 ms2 s1 s0) (s_sI hs2) (fun V1 => ?_)
  refine sb_some (s_gR rfl rfl) ?_
  refine sb_bindE (s_aI rfl) (fun x2 => ?_)
  refine sb_ite ?_ ?_
  · refine sb_V (o' := gX10_nextToken n V1) (smX10_nextToken) (fun V3 => ?_)
    refine sb_P (o' := gX10_needsBoth n 257 0 99 V3) (smX10_needsBoth) (fun p4 => ?_)
    refine sb_ite ?_ ?_
    · rfl
    · refine sb_some (s_gR rfl rfl) ?_
      refine sb_some (s_gI rfl rfl) ?_
      refine sb_V (o' := wrA p4.2 142 14 v1 (p4.2.F 137 33)) (s_sI rfl) (fun V5 => ?_)
      refine sb_P (o' := gX10_needsBoth n 385497 0 40 V5) (smX10_needsBoth) (fun p6 => ?_)
      refine sb_ite ?_ ?_
      · rfl
      · refine sb_some (s_gR rfl rfl) ?_
        refine sb_some (s_gI rfl rfl) ?_
        refine sb_V (o' := wrA p6.2 143 14 v1 (p6.2.F 137 33)) (s_sI rfl) (fun V7 => ?_)
        refine sb_some (s_gR rfl rfl) ?_
        refine sb_V (o' := wrA V7 144 14 v1 0) (s_sI rfl) (fun V8 => ?_)
        refine sb_some (s_gR rfl rfl) ?_
        refine sb_V (o' := wrL V8 140 14 v1 v2) (s_sL rfl) (fun V9 => ?_)
        refine sb_some (s_gR rfl rfl) ?_
        refine sb_some ((s_aI rfl).trans (rdA_at (k := 4) (by decide) (by decide))) ?_
        refine sb_V (o' := some (wA V9 139 4 ((V9.A 139 4) + 1))) ((s_sI rfl).trans (congrArg _ (wrA_at (k := 4) (by decide) (by decide)))) (fun V11 => ?_)
        refine sb_P (o' := gX10_closes n V11) (smX10_closes) (fun p12 => ?_)
        refine sb_bind (fun _ => ?_)
        rfl
  · refine sb_P (o' := gX10_fails 1 V1) (smX10_fails) (fun p13 => ?_)
    refine sb_bind (fun _ => ?_)
    rfl
def gX10_readsMatter (n : Nat)  (V : VT) : Option (Int32 × VT) :=
  if (7 + (V.A 139 4)) = 14 then
  ((gX10_fails 5 V).bind fun p12 =>
  (qB p12.1).bind fun _ =>
  some (p12.1, p12.2))
  else
  ((gX10_nextToken n V).bind fun V2 =>
  (gX10_isKept V2).bind fun p3 =>
  if p3.1 = 0 then
  ((gX10_matterNamed n 1 p3.2).bind fun p4 =>
  if p4.1 < 0 then
  ((gX10_nextToken n p4.2).bind fun V5 =>
  (gX10_isWord 8740238 V5).bind fun p6 =>
  if p6.1 = 0 then
  ((gX10_isWord 29637824 p6.2).bind fun p7 =>
  if p7.1 = 0 then
  ((gX10_isWord 8984627224 p7.2).bind fun p8 =>
  if p8.1 = 0 then
  ((gX10_isWord 335098125 p8.2).bind fun p9 =>
  if p9.1 = 0 then
  (gX10_readsMatter_b124 n (7 + (V.A 139 4)) (p4.2.G 137 7) ((-1)) (7 + (V.A 139 4)) 141 14 p9.2)
  else
  (gX10_readsMatter_b124 n (7 + (V.A 139 4)) (p4.2.G 137 7) 3 (7 + (V.A 139 4)) 141 14 p9.2))
  else
  (gX10_readsMatter_b124 n (7 + (V.A 139 4)) (p4.2.G 137 7) 2 (7 + (V.A 139 4)) 141 14 p8.2))
  else
  (gX10_readsMatter_b124 n (7 + (V.A 139 4)) (p4.2.G 137 7) 1 (7 + (V.A 139 4)) 141 14 p7.2))
  else
  (gX10_readsMatter_b124 n (7 + (V.A 139 4)) (p4.2.G 137 7) 0 (7 + (V.A 139 4)) 141 14 p6.2))
  else
  ((gX10_fails 3 p4.2).bind fun p10 =>
  (qB p10.1).bind fun _ =>
  some (p10.1, p10.2)))
  else
  ((gX10_fails 1 p3.2).bind fun p11 =>
  (qB p11.1).bind fun _ =>
  some (p11.1, p11.2)))
set_option maxHeartbeats 1000000 in
theorem smX10_readsMatter {E : VE} {n : Nat}  {V : VT}  : fX10_readsMatter n 137 (hpV E V) = (gX10_readsMatter n  V).map (fun p => (p.1, hpV E p.2)) := by
  unfold fX10_readsMatter gX10_readsMatter
  refine sb_some (s_isO rfl) ?_
  refine sb_some (s_gR rfl rfl) ?_
  refine sb_some ((s_aI rfl).trans (rdA_at (k := 4) (by decide) (by decide))) ?_
  refine sb_ite ?_ ?_
  · refine sb_P (o' := gX10_fails 5 V) (smX10_fails) (fun p12 => ?_)
    refine sb_bind (fun _ => ?_)
    rfl
  · refine sb_V (o' := gX10_nextToken n V) (smX10_nextToken) (fun V2 => ?_)
    refine sb_P (o' := gX10_isKept V2) (smX10_isKept) (fun p3 => ?_)
    refine sb_ite ?_ ?_
    · refine sb_P (o' := gX10_matterNamed n 1 p3.2) (smX10_matterNamed) (fun p4 => ?_)
      refine sb_ite ?_ ?_
      · refine sb_some (s_gL rfl rfl) ?_
        refine sb_V (o' := gX10_nextToken n p4.2) (smX10_nextToken) (fun V5 => ?_)
        refine sb_some (s_gR rfl rfl) ?_
        refine sb_P (o' := gX10_isWord 8740238 V5) (smX10_isWord) (fun p6 => ?_)
        refine sb_ite ?_ ?_
        · refine sb_P (o' := gX10_isWord 29637824 p6.2) (smX10_isWord) (fun p7 => ?_)
          refine sb_ite ?_ ?_
          · refine sb_P (o' := gX10_isWord 8984627224 p7.2) (smX10_isWord) (fun p8 => ?_)
            refine sb_ite ?_ ?_
            · refine sb_P (o' := gX10_isWord 335098125 p8.2) (smX10_isWord) (fun p9 => ?_)
              refine sb_ite ?_ ?_
              · exact smX10_readsMatter_b124 rfl
              · exact smX10_readsMatter_b124 rfl
            · exact smX10_readsMatter_b124 rfl
          · exact smX10_readsMatter_b124 rfl
        · exact smX10_readsMatter_b124 rfl
      · refine sb_P (o' := gX10_fails 3 p4.2) (smX10_fails) (fun p10 => ?_)
        refine sb_bind (fun _ => ?_)
        rfl
    · refine sb_P (o' := gX10_fails 1 p3.2) (smX10_fails) (fun p11 => ?_)
      refine sb_bind (fun _ => ?_)
      rfl
def gX10_readsOne (n : Nat) (v1 : Int32) (v2 : Int32) (v3 : Int32) (V : VT) : Option (Int32 × VT) :=
  if (((V.F 137 20) >>> (v1 &&& 31)) &&& 1) = 1 then
  ((gX10_fails 3 V).bind fun p6 =>
  (qB p6.1).bind fun _ =>
  some (p6.1, p6.2))
  else
  ((some (wF V 137 20 ((V.F 137 20) ||| ((1 : Int32) <<< (v1 &&& 31))))).bind fun V1 =>
  (gX10_nextToken n V1).bind fun V2 =>
  (gX10_needsNumber n v2 v3 V2).bind fun p3 =>
  if p3.1 = 0 then
  (some (0, p3.2))
  else
  ((wrA p3.2 139 8 (4 + v1) (p3.2.F 137 33)).bind fun V4 =>
  (gX10_closes n V4).bind fun p5 =>
  (qB p5.1).bind fun _ =>
  some (p5.1, p5.2)))
set_option maxHeartbeats 1000000 in
theorem smX10_readsOne {E : VE} {n : Nat} {v1 : Int32} {v2 : Int32} {v3 : Int32} {V : VT}    : fX10_readsOne n 137 v1 v2 v3 (hpV E V) = (gX10_readsOne n v1 v2 v3 V).map (fun p => (p.1, hpV E p.2)) := by
  unfold fX10_readsOne gX10_readsOne
  refine sb_some (s_isO rfl) ?_
  refine sb_some (s_gI rfl rfl) ?_
  refine sb_ite ?_ ?_
  · refine sb_P (o' := gX10_fails 3 V) (smX10_fails) (fun p6 => ?_)
    refine sb_bind (fun _ => ?_)
    rfl
  · refine sb_some (s_gI rfl rfl) ?_
    refine sb_V (o' := some (wF V 137 20 ((V.F 137 20) ||| ((1 : Int32) <<< (v1 &&& 31))))) (w10_20 rfl) (fun V1 => ?_)
    refine sb_V (o' := gX10_nextToken n V1) (smX10_nextToken) (fun V2 => ?_)
    refine sb_P (o' := gX10_needsNumber n v2 v3 V2) (smX10_needsNumber) (fun p3 => ?_)
    refine sb_ite ?_ ?_
    · rfl
    · refine sb_some (s_gR rfl rfl) ?_
      refine sb_some (s_gI rfl rfl) ?_
      refine sb_V (o' := wrA p3.2 139 8 (4 + v1) (p3.2.F 137 33)) (s_sI rfl) (fun V4 => ?_)
      refine sb_P (o' := gX10_closes n V4) (smX10_closes) (fun p5 => ?_)
      refine sb_bind (fun _ => ?_)
      rfl
