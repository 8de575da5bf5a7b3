/-! Functions over the views, and that the functions over the abstract heap are these (written by gen2.py). -/
def gX10_draws (v1 : Int32) (V : VT) : Option (Int32 × VT) :=
  (some (wG V 137 52 ((((V.G 137 52) * 1103515245) + 12345) - (((V.G 137 52) * 1103515245) + 12345) / 2147483648 * 2147483648))).bind fun V1 =>
  (qZL v1.toInt64).bind fun _ =>
  some ((((V1.G 137 52) / 65536) - ((V1.G 137 52) / 65536) / v1.toInt64 * v1.toInt64).toInt32, V1)
set_option maxHeartbeats 1000000 in
theorem smX10_draws {E : VE} {v1 : Int32} {V : VT}  : fX10_draws 137 v1 (hpV E V) = (gX10_draws v1 V).map (fun p => (p.1, hpV E p.2)) := by
  unfold fX10_draws gX10_draws
  refine sb_some (s_isO rfl) ?_
  refine sb_some (s_gL rfl rfl) ?_
  refine sb_V (o' := some (wG V 137 52 ((((V.G 137 52) * 1103515245) + 12345) - (((V.G 137 52) * 1103515245) + 12345) / 2147483648 * 2147483648))) (w10_52 rfl) (fun V1 => ?_)
  refine sb_some (s_gL rfl rfl) ?_
  refine sb_bind (fun _ => ?_)
  rfl
def gX10_easiest_b13 (n : Nat) : Nat → Int32 → Int32 → VT → Option (Int32 × VT)
  | 0, _, _, _ => none
  | w + 1, v1, v2, V =>
    if (V.A 139 0) ≤ v2 then
    (some (v1, V))
    else
    ((rdA 16 (V.A 167) (2 + v2)).bind fun x2 =>
    if x2 = 0 then
    (gX10_easiest_b13 n w v1 (v2 + 1) V)
    else
    ((rdA 7 (V.A 174) v2).bind fun x3 =>
    if x3 = 1000000 then
    (gX10_easiest_b13 n w v1 (v2 + 1) V)
    else
    (if v1 < 0 then
    (gX10_easiest_b13 n w v2 (v2 + 1) V)
    else
    ((rdA 7 (V.A 174) v2).bind fun x4 =>
    (rdA 7 (V.A 174) v1).bind fun x5 =>
    if x5 ≤ x4 then
    (gX10_easiest_b13 n w v1 (v2 + 1) V)
    else
    (gX10_easiest_b13 n w v2 (v2 + 1) V)))))
set_option maxHeartbeats 1000000 in
theorem smX10_easiest_b13 {E : VE} {n : Nat} : ∀ (w : Nat) (v1 : Int32)  (v2 : Int32)  (V : VT), fX10_easiest_b13 n w 137 v1 v2 (hpV E V) = (gX10_easiest_b13 n w v1 v2 V).map (fun p => (p.1, hpV E p.2)) := by
  intro w
  induction w with
  | zero => intro v1 v2 V; rfl
  | succ w ih =>
    intro v1 v2 V
    unfold fX10_easiest_b13 gX10_easiest_b13
    refine sb_some (s_gR rfl rfl) ?_
    refine sb_some ((s_aI rfl).trans (rdA_at (k := 0) (by decide) (by decide))) ?_
    refine sb_ite ?_ ?_
    · rfl
    · refine sb_some (s_gR rfl rfl) ?_
      refine sb_bindE (s_aI rfl) (fun x2 => ?_)
      refine sb_ite ?_ ?_
      · exact ih v1 (v2 + 1) V
      · refine sb_some (s_gR rfl rfl) ?_
        refine sb_bindE (s_aI rfl) (fun x3 => ?_)
        refine sb_ite ?_ ?_
        · exact ih v1 (v2 + 1) V
        · refine sb_ite ?_ ?_
          · exact ih v2 (v2 + 1) V
          · refine sb_some (s_gR rfl rfl) ?_
            refine sb_bindE (s_aI rfl) (fun x4 => ?_)
            refine sb_some (s_gR rfl rfl) ?_
            refine sb_bindE (s_aI rfl) (fun x5 => ?_)
            refine sb_ite ?_ ?_
            · exact ih v1 (v2 + 1) V
            · exact ih v2 (v2 + 1) V
def gX10_easiest (n : Nat)  (V : VT) : Option (Int32 × VT) :=
  (some (wF V 137 0 0)).bind fun V1 =>
  (gX10_laysCosts n V1).bind fun V2 =>
  gX10_easiest_b13 n n ((-1)) 0 V2
set_option maxHeartbeats 1000000 in
theorem smX10_easiest {E : VE} {n : Nat}  {V : VT}  : fX10_easiest n 137 (hpV E V) = (gX10_easiest n  V).map (fun p => (p.1, hpV E p.2)) := by
  unfold fX10_easiest gX10_easiest
  refine sb_some (s_isO rfl) ?_
  refine sb_V (o' := some (wF V 137 0 0)) (w10_0 rfl) (fun V1 => ?_)
  refine sb_V (o' := gX10_laysCosts n V1) (smX10_laysCosts) (fun V2 => ?_)
  exact smX10_easiest_b13 _ ((-1)) 0 V2
def gX10_eaten (v1 : Int32) (V : VT) : Option (VT) :=
  (wrA V 167 16 (9 + v1) 0).bind fun V1 =>
  (rdA 14 (V1.A 143) v1).bind fun x2 =>
  (wrA V1 167 16 (2 + v1) x2).bind fun V3 =>
  some V3
set_option maxHeartbeats 1000000 in
theorem smX10_eaten {E : VE} {v1 : Int32} {V : VT}  : fX10_eaten 137 v1 (hpV E V) = (gX10_eaten v1 V).map (hpV E) := by
  unfold fX10_eaten gX10_eaten
  refine sb_some (s_isO rfl) ?_
  refine sb_some (s_gR rfl rfl) ?_
  refine sb_V (o' := wrA V 167 16 (9 + v1) 0) (s_sI rfl) (fun V1 => ?_)
  refine sb_some (s_gR rfl rfl) ?_
  refine sb_some (s_gR rfl rfl) ?_
  refine sb_bindE (s_aI rfl) (fun x2 => ?_)
  refine sb_V (o' := wrA V1 167 16 (2 + v1) x2) (s_sI rfl) (fun V3 => ?_)
  rfl
def gX10_keeps_b49 (n : Nat)  (V : VT) : Option (VT) :=
  (gX10_copies n 167 16 0 171 256 (16 * (V.F 137 47)) V).bind fun V1 =>
  (some (wF V1 137 47 ((V1.F 137 47) + 1))).bind fun V2 =>
  some V2
set_option maxHeartbeats 1000000 in
theorem smX10_keeps_b49 {E : VE} {n : Nat}  {V : VT}  : fX10_keeps_b49 n 137 (hpV E V) = (gX10_keeps_b49 n  V).map (hpV E) := by
  unfold fX10_keeps_b49 gX10_keeps_b49
  refine sb_some (s_gR rfl rfl) ?_
  refine sb_some (s_gR rfl rfl) ?_
  refine sb_some (s_gI rfl rfl) ?_
  refine sb_V (o' := gX10_copies n 167 16 0 171 256 (16 * (V.F 137 47)) V) (smX10_copies rfl rfl) (fun V1 => ?_)
  refine sb_some (s_gI rfl rfl) ?_
  refine sb_V (o' := some (wF V1 137 47 ((V1.F 137 47) + 1))) (w10_47 rfl) (fun V2 => ?_)
  rfl
def gX10_keeps_b11 (n : Nat) : Nat → Int32 → VT → Option (VT)
  | 0, _, _ => none
  | w + 1, v1, V =>
    if 240 ≤ v1 then
    ((some (wF V 137 47 ((V.F 137 47) - 1))).bind fun V1 =>
    gX10_keeps_b49 n V1)
    else
    ((rdA 256 (V.A 171) (v1 + 16)).bind fun x2 =>
    (wrA V 171 256 v1 x2).bind fun V3 =>
    gX10_keeps_b11 n w (v1 + 1) V3)
set_option maxHeartbeats 1000000 in
theorem smX10_keeps_b11 {E : VE} {n : Nat} : ∀ (w : Nat) (v1 : Int32)  (V : VT), fX10_keeps_b11 n w 137 v1 (hpV E V) = (gX10_keeps_b11 n w v1 V).map (hpV E) := by
  intro w
  induction w with
  | zero => intro v1 V; rfl
  | succ w ih =>
    intro v1 V
    unfold fX10_keeps_b11 gX10_keeps_b11
    refine sb_ite ?_ ?_
    · refine sb_some (s_gI rfl rfl) ?_
      refine sb_V (o' := some (wF V 137 47 ((V.F 137 47) - 1))) (w10_47 rfl) (fun V1 => ?_)
      exact smX10_keeps_b49
    · refine sb_some (s_gR rfl rfl) ?_
      refine sb_some (s_gR rfl rfl) ?_
      refine sb_bindE (s_aI rfl) (fun x2 => ?_)
      refine sb_V (o' := wrA V 171 256 v1 x2) (s_sI rfl) (fun V3 => ?_)
      exact ih (v1 + 1) V3
def gX10_keeps (n : Nat)  (V : VT) : Option (VT) :=
  if (V.F 137 47) = 16 then
  (gX10_keeps_b11 n n 0 V)
  else
  (gX10_keeps_b49 n V)
set_option maxHeartbeats 1000000 in
theorem smX10_keeps {E : VE} {n : Nat}  {V : VT}  : fX10_keeps n 137 (hpV E V) = (gX10_keeps n  V).map (hpV E) := by
  unfold fX10_keeps gX10_keeps
  refine sb_some (s_isO rfl) ?_
  refine sb_some (s_gI rfl rfl) ?_
  refine sb_ite ?_ ?_
  · exact smX10_keeps_b11 _ 0 V
  · exact smX10_keeps_b49
def gX10_eat (n : Nat) (v1 : Int32) (V : VT) : Option (Int32 × VT) :=
  (some (wF V 137 0 0)).bind fun V1 =>
  (gX10_isMatter v1 V1).bind fun p2 =>
  if p2.1 = 0 then
  (some ((-1), p2.2))
  else
  ((rdA 16 (p2.2.A 167) (9 + v1)).bind fun x3 =>
  if x3 = 0 then
  (some ((-1), p2.2))
  else
  ((gX10_keeps n p2.2).bind fun V4 =>
  (gX10_eaten v1 V4).bind fun V5 =>
  (rdA 16 (V5.A 167) (2 + v1)).bind fun x6 =>
  some (x6, V5)))
set_option maxHeartbeats 1000000 in
theorem smX10_eat {E : VE} {n : Nat} {v1 : Int32} {V : VT}  : fX10_eat n 137 v1 (hpV E V) = (gX10_eat n v1 V).map (fun p => (p.1, hpV E p.2)) := by
  unfold fX10_eat gX10_eat
  refine sb_some (s_isO rfl) ?_
  refine sb_V (o' := some (wF V 137 0 0)) (w10_0 rfl) (fun V1 => ?_)
  refine sb_P (o' := gX10_isMatter v1 V1) (smX10_isMatter) (fun p2 => ?_)
  refine sb_ite ?_ ?_
  · rfl
  · refine sb_some (s_gR rfl rfl) ?_
    refine sb_bindE (s_aI rfl) (fun x3 => ?_)
    refine sb_ite ?_ ?_
    · rfl
    · refine sb_V (o' := gX10_keeps n p2.2) (smX10_keeps) (fun V4 => ?_)
      refine sb_V (o' := gX10_eaten v1 V4) (smX10_eaten) (fun V5 => ?_)
      refine sb_some (s_gR rfl rfl) ?_
      refine sb_bindE (s_aI rfl) (fun x6 => ?_)
      rfl
def gX10_elders_b19 (n : Nat) : Nat → Int32 → Int32 → Int32 → VT → Option (Int32 × VT)
  | 0, _, _, _, _ => none
  | w + 1, v1, v2, v3, V =>
    if (V.A 139 0) ≤ v3 then
    (some (v2, V))
    else
    ((rdA 14 (V.A 142) v3).bind fun x2 =>
    (rdA 14 (V.A 142) v1).bind fun x3 =>
    if x2 < x3 then
    (gX10_elders_b19 n w v1 (v2 ||| ((1 : Int32) <<< (v3 &&& 31))) (v3 + 1) V)
    else
    (gX10_elders_b19 n w v1 v2 (v3 + 1) V))
set_option maxHeartbeats 1000000 in
theorem smX10_elders_b19 {E : VE} {n : Nat} : ∀ (w : Nat) (v1 : Int32)  (v2 : Int32)  (v3 : Int32)  (V : VT), fX10_elders_b19 n w 137 v1 v2 v3 (hpV E V) = (gX10_elders_b19 n w v1 v2 v3 V).map (fun p => (p.1, hpV E p.2)) := by
  intro w
  induction w with
  | zero => intro v1 v2 v3 V; rfl
  | succ w ih =>
    intro v1 v2 v3 V
    unfold fX10_elders_b19 gX10_elders_b19
    refine sb_some (s_gR rfl rfl) ?_
    refine sb_some ((s_aI rfl).trans (rdA_at (k := 0) (by decide) (by decide))) ?_
    refine sb_ite ?_ ?_
    · rfl
    · refine sb_some (s_gR rfl rfl) ?_
      refine sb_bindE (s_aI rfl) (fun x2 => ?_)
      refine sb_some (s_gR rfl rfl) ?_
      refine sb_bindE (s_aI rfl) (fun x3 => ?_)
      refine sb_ite ?_ ?_
      · exact ih v1 (v2 ||| ((1 : Int32) <<< (v3 &&& 31))) (v3 + 1) V
      · exact ih v1 v2 (v3 + 1) V
def gX10_elders (n : Nat) (v1 : Int32) (V : VT) : Option (Int32 × VT) :=
  (some (wF V 137 0 0)).bind fun V1 =>
  (gX10_isMatter v1 V1).bind fun p2 =>
  if p2.1 = 0 then
  (some ((-1), p2.2))
  else
  (gX10_elders_b19 n n v1 0 0 p2.2)
set_option maxHeartbeats 1000000 in
theorem smX10_elders {E : VE} {n : Nat} {v1 : Int32} {V : VT}  : fX10_elders n 137 v1 (hpV E V) = (gX10_elders n v1 V).map (fun p => (p.1, hpV E p.2)) := by
  unfold fX10_elders gX10_elders
  refine sb_some (s_isO rfl) ?_
  refine sb_V (o' := some (wF V 137 0 0)) (w10_0 rfl) (fun V1 => ?_)
  refine sb_P (o' := gX10_isMatter v1 V1) (smX10_isMatter) (fun p2 => ?_)
  refine sb_ite ?_ ?_
  · rfl
  · exact smX10_elders_b19 _ v1 0 0 p2.2
def gX10_fact  (V : VT) : Option (Int32 × VT) :=
  if (V.F 137 6) = 1 then
  (if (lg_cmp (V.G 137 7) 240023) = 0 then
  (some (1, V))
  else
  (if (lg_cmp (V.G 137 7) 1890856) = 0 then
  (some (2, V))
  else
  (if (lg_cmp (V.G 137 7) 923) = 0 then
  (some (3, V))
  else
  (if (lg_cmp (V.G 137 7) 10792937) = 0 then
  (some (4, V))
  else
  (some (0, V))))))
  else
  (some (0, V))
set_option maxHeartbeats 1000000 in
theorem smX10_fact {E : VE}  {V : VT}  : fX10_fact 137 (hpV E V) = (gX10_fact  V).map (fun p => (p.1, hpV E p.2)) := by
  unfold fX10_fact gX10_fact
  refine sb_some (s_isO rfl) ?_
  refine sb_some (s_gI rfl rfl) ?_
  refine sb_ite ?_ ?_
  · refine sb_some (s_gL rfl rfl) ?_
    refine sb_ite ?_ ?_
    · rfl
    · refine sb_some (s_gL rfl rfl) ?_
      refine sb_ite ?_ ?_
      · rfl
      · refine sb_some (s_gL rfl rfl) ?_
        refine sb_ite ?_ ?_
        · rfl
        · refine sb_some (s_gL rfl rfl) ?_
          refine sb_ite ?_ ?_
          · rfl
          · rfl
  · rfl
def gX10_feed_b93 (n : Nat) (K8 : Int64 → Int64 → Int64 → Int32 → VT → Option (Int32 × VT)) (v1 : Int64) (v3 : Int64) (v5 : Int64) (v7 : Int32) (v10 : Int32) (V : VT) : Option (Int32 × VT) :=
  (wrA V 138 1000 (V.F 137 1) v10).bind fun V1 =>
  (some (wF V1 137 1 ((V1.F 137 1) + 1))).bind fun V2 =>
  K8 v1 v3 v5 (v7 + 1) V2
set_option maxHeartbeats 1000000 in
theorem smX10_feed_b93 {E : VE} {n : Nat} {K8 : Int64 → Int64 → Int64 → Int32 → VT → Option (Int32 × VT)} {k8 : Nat → Int64 → Int64 → Int64 → Int32 → qH → Option (Int32 × qH)} {v1 : Int64} {v3 : Int64} {v5 : Int64} {v7 : Int32} {v10 : Int32} {V : VT} (hK8 : ∀ (v1 : Int64)  (v3 : Int64)  (v5 : Int64)  (v7 : Int32)  (V : VT), k8 137 v1 v3 v5 v7 (hpV E V) = (K8 v1 v3 v5 v7 V).map (fun p => (p.1, hpV E p.2)))      : fX10_feed_b93 n k8 137 v1 v3 v5 v7 v10 (hpV E V) = (gX10_feed_b93 n K8 v1 v3 v5 v7 v10 V).map (fun p => (p.1, hpV E p.2)) := by
  unfold fX10_feed_b93 gX10_feed_b93
  refine sb_some (s_gR rfl rfl) ?_
  refine sb_some (s_gI rfl rfl) ?_
  refine sb_V (o' := wrA V 138 1000 (V.F 137 1) v10) (s_sI rfl) (fun V1 => ?_)
  refine sb_some (s_gI rfl rfl) ?_
  refine sb_V (o' := some (wF V1 137 1 ((V1.F 137 1) + 1))) (w10_1 rfl) (fun V2 => ?_)
  exact hK8 v1 v3 v5 (v7 + 1) V2
def gX10_feed_b39 (n : Nat) (K8 : Int64 → Int64 → Int64 → Int32 → VT → Option (Int32 × VT)) (v1 : Int64) (v3 : Int64) (v5 : Int64) (v7 : Int32) (s0 : Int64) (V : VT) : Option (Int32 × VT) :=
  if 1000 ≤ (V.F 137 1) then
  (K8 v1 v3 v5 (v7 + 1) V)
  else
  (if ((((s0.toUInt64 >>> ((56 - (8 * (v7 &&& 7))).toInt64.toUInt64 &&& Int64.toUInt64 63)).toInt64) &&& 255).toInt32) = 10 then
  (gX10_feed_b93 n K8 v1 v3 v5 v7 ((((s0.toUInt64 >>> ((56 - (8 * (v7 &&& 7))).toInt64.toUInt64 &&& Int64.toUInt64 63)).toInt64) &&& 255).toInt32) V)
  else
  (if ((((s0.toUInt64 >>> ((56 - (8 * (v7 &&& 7))).toInt64.toUInt64 &&& Int64.toUInt64 63)).toInt64) &&& 255).toInt32) < 32 then
  (K8 v1 v3 v5 (v7 + 1) V)
  else
  (if 126 < ((((s0.toUInt64 >>> ((56 - (8 * (v7 &&& 7))).toInt64.toUInt64 &&& Int64.toUInt64 63)).toInt64) &&& 255).toInt32) then
  (K8 v1 v3 v5 (v7 + 1) V)
  else
  (gX10_feed_b93 n K8 v1 v3 v5 v7 ((((s0.toUInt64 >>> ((56 - (8 * (v7 &&& 7))).toInt64.toUInt64 &&& Int64.toUInt64 63)).toInt64) &&& 255).toInt32) V))))
set_option maxHeartbeats 1000000 in
theorem smX10_feed_b39 {E : VE} {n : Nat} {K8 : Int64 → Int64 → Int64 → Int32 → VT → Option (Int32 × VT)} {k8 : Nat → Int64 → Int64 → Int64 → Int32 → qH → Option (Int32 × qH)} {v1 : Int64} {v3 : Int64} {v5 : Int64} {v7 : Int32} {s0 : Int64} {V : VT} (hK8 : ∀ (v1 : Int64)  (v3 : Int64)  (v5 : Int64)  (v7 : Int32)  (V : VT), k8 137 v1 v3 v5 v7 (hpV E V) = (K8 v1 v3 v5 v7 V).map (fun p => (p.1, hpV E p.2)))      : fX10_feed_b39 n k8 137 v1 v3 v5 v7 s0 (hpV E V) = (gX10_feed_b39 n K8 v1 v3 v5 v7 s0 V).map (fun p => (p.1, hpV E p.2)) := by
  unfold fX10_feed_b39 gX10_feed_b39
  refine sb_some (s_gI rfl rfl) ?_
  refine sb_ite ?_ ?_
  · exact hK8 v1 v3 v5 (v7 + 1) V
  · refine sb_ite ?_ ?_
    · exact smX10_feed_b93 hK8
    · refine sb_ite ?_ ?_
      · exact hK8 v1 v3 v5 (v7 + 1) V
      · refine sb_ite ?_ ?_
        · exact hK8 v1 v3 v5 (v7 + 1) V
        · exact smX10_feed_b93 hK8
def gX10_feed_b8 (n : Nat) : Nat → Int64 → Int64 → Int64 → Int32 → VT → Option (Int32 × VT)
  | 0, _, _, _, _, _ => none
  | w + 1, v1, v3, v5, v7, V =>
    if 24 ≤ v7 then
    (some (V.F 137 1, V))
    else
    (if 8 ≤ v7 then
    (if 16 ≤ v7 then
    (gX10_feed_b39 n (gX10_feed_b8 n w) v1 v3 v5 v7 v5 V)
    else
    (gX10_feed_b39 n (gX10_feed_b8 n w) v1 v3 v5 v7 v3 V))
    else
    (gX10_feed_b39 n (gX10_feed_b8 n w) v1 v3 v5 v7 v1 V))
set_option maxHeartbeats 1000000 in
theorem smX10_feed_b8 {E : VE} {n : Nat} : ∀ (w : Nat) (v1 : Int64)  (v3 : Int64)  (v5 : Int64)  (v7 : Int32)  (V : VT), fX10_feed_b8 n w 137 v1 v3 v5 v7 (hpV E V) = (gX10_feed_b8 n w v1 v3 v5 v7 V).map (fun p => (p.1, hpV E p.2)) := by
  intro w
  induction w with
  | zero => intro v1 v3 v5 v7 V; rfl
  | succ w ih =>
    intro v1 v3 v5 v7 V
    unfold fX10_feed_b8 gX10_feed_b8
    refine sb_ite ?_ ?_
    · refine sb_some (s_gI rfl rfl) ?_
      rfl
    · refine sb_ite ?_ ?_
      · refine sb_ite ?_ ?_
        · exact smX10_feed_b39 ih
        · exact smX10_feed_b39 ih
      · exact smX10_feed_b39 ih
def gX10_feed (n : Nat) (v1 : Int64) (v3 : Int64) (v5 : Int64) (V : VT) : Option (Int32 × VT) :=
  (some (wF V 137 0 0)).bind fun V1 =>
  gX10_feed_b8 n n v1 v3 v5 0 V1
set_option maxHeartbeats 1000000 in
theorem smX10_feed {E : VE} {n : Nat} {v1 : Int64} {v3 : Int64} {v5 : Int64} {V : VT}    : fX10_feed n 137 v1 v3 v5 (hpV E V) = (gX10_feed n v1 v3 v5 V).map (fun p => (p.1, hpV E p.2)) := by
  unfold fX10_feed gX10_feed
  refine sb_some (s_isO rfl) ?_
  refine sb_V (o' := some (wF V 137 0 0)) (w10_0 rfl) (fun V1 => ?_)
  exact smX10_feed_b8 _ v1 v3 v5 0 V1
def gX10_fills_b59 (n : Nat) (v2 : Int32) (V : VT) : Option (Int32 × VT) :=
  (gX10_copies n 169 16 0 167 16 0 V).bind fun V1 =>
  if v2 ≤ 60 then
  (some (v2, V1))
  else
  (some ((-1), V1))
set_option maxHeartbeats 1000000 in
theorem smX10_fills_b59 {E : VE} {n : Nat} {v2 : Int32} {V : VT}  : fX10_fills_b59 n 137 v2 (hpV E V) = (gX10_fills_b59 n v2 V).map (fun p => (p.1, hpV E p.2)) := by
  unfold fX10_fills_b59 gX10_fills_b59
  refine sb_some (s_gR rfl rfl) ?_
  refine sb_some (s_gR rfl rfl) ?_
  refine sb_V (o' := gX10_copies n 169 16 0 167 16 0 V) (smX10_copies rfl rfl) (fun V1 => ?_)
  refine sb_ite ?_ ?_
  · rfl
  · rfl
def gX10_fills_b33 (n : Nat) : Nat → Int32 → Int32 → VT → Option (Int32 × VT)
  | 0, _, _, _ => none
  | w + 1, v1, v2, V =>
    if 60 < v2 then
    (gX10_fills_b59 n v2 V)
    else
    (if v1 ≤ (V.A 167 1) then
    (gX10_fills_b59 n v2 V)
    else
    ((gX10_passes n V).bind fun V2 =>
    gX10_fills_b33 n w v1 (v2 + 1) V2))
set_option maxHeartbeats 1000000 in
theorem smX10_fills_b33 {E : VE} {n : Nat} : ∀ (w : Nat) (v1 : Int32)  (v2 : Int32)  (V : VT), fX10_fills_b33 n w 137 v1 v2 (hpV E V) = (gX10_fills_b33 n w v1 v2 V).map (fun p => (p.1, hpV E p.2)) := by
  intro w
  induction w with
  | zero => intro v1 v2 V; rfl
  | succ w ih =>
    intro v1 v2 V
    unfold fX10_fills_b33 gX10_fills_b33
    refine sb_ite ?_ ?_
    · exact smX10_fills_b59
    · refine sb_some (s_gR rfl rfl) ?_
      refine sb_some ((s_aI rfl).trans (rdA_at (k := 1) (by decide) (by decide))) ?_
      refine sb_ite ?_ ?_
      · exact smX10_fills_b59
      · refine sb_V (o' := gX10_passes n V) (smX10_passes) (fun V2 => ?_)
        exact ih v1 (v2 + 1) V2
def gX10_fills (n : Nat) (v1 : Int32) (V : VT) : Option (Int32 × VT) :=
  (some (wF V 137 0 0)).bind fun V1 =>
  (gX10_within v1 0 200 V1).bind fun p2 =>
  if p2.1 = 0 then
  (some ((-1), p2.2))
  else
  ((gX10_copies n 167 16 0 169 16 0 p2.2).bind fun V3 =>
  gX10_fills_b33 n n v1 0 V3)
set_option maxHeartbeats 1000000 in
theorem smX10_fills {E : VE} {n : Nat} {v1 : Int32} {V : VT}  : fX10_fills n 137 v1 (hpV E V) = (gX10_fills n v1 V).map (fun p => (p.1, hpV E p.2)) := by
  unfold fX10_fills gX10_fills
  refine sb_some (s_isO rfl) ?_
  refine sb_V (o' := some (wF V 137 0 0)) (w10_0 rfl) (fun V1 => ?_)
  refine sb_P (o' := gX10_within v1 0 200 V1) (smX10_within) (fun p2 => ?_)
  refine sb_ite ?_ ?_
  · rfl
  · refine sb_some (s_gR rfl rfl) ?_
    refine sb_some (s_gR rfl rfl) ?_
    refine sb_V (o' := gX10_copies n 167 16 0 169 16 0 p2.2) (smX10_copies rfl rfl) (fun V3 => ?_)
    exact smX10_fills_b33 _ v1 0 V3
def gX10_fresh0_b35 (n : Nat) : Nat → Int32 → VT → Option (VT)
  | 0, _, _ => none
  | w + 1, v1, V =>
    if (V.A 139 0) ≤ v1 then
    (some V)
    else
    ((rdA 14 (V.A 143) v1).bind fun x2 =>
    (wrA V 167 16 (2 + v1) x2).bind fun V3 =>
    gX10_fresh0_b35 n w (v1 + 1) V3)
set_option maxHeartbeats 1000000 in
theorem smX10_fresh0_b35 {E : VE} {n : Nat} : ∀ (w : Nat) (v1 : Int32)  (V : VT), fX10_fresh0_b35 n w 137 v1 (hpV E V) = (gX10_fresh0_b35 n w v1 V).map (hpV E) := by
  intro w
  induction w with
  | zero => intro v1 V; rfl
  | succ w ih =>
    intro v1 V
    unfold fX10_fresh0_b35 gX10_fresh0_b35
    refine sb_some (s_gR rfl rfl) ?_
    refine sb_some ((s_aI rfl).trans (rdA_at (k := 0) (by decide) (by decide))) ?_
    refine sb_ite ?_ ?_
    · rfl
    · refine sb_some (s_gR rfl rfl) ?_
      refine sb_some (s_gR rfl rfl) ?_
      refine sb_bindE (s_aI rfl) (fun x2 => ?_)
      refine sb_V (o' := wrA V 167 16 (2 + v1) x2) (s_sI rfl) (fun V3 => ?_)
      exact ih (v1 + 1) V3
def gX10_fresh0_b2 (n : Nat) : Nat → Int32 → VT → Option (VT)
  | 0, _, _ => none
  | w + 1, v1, V =>
    if 16 ≤ v1 then
    ((some (wA V 167 1 (V.A 139 3))).bind fun V2 =>
    gX10_fresh0_b35 n n 0 V2)
    else
    ((wrA V 167 16 v1 0).bind fun V3 =>
    gX10_fresh0_b2 n w (v1 + 1) V3)
set_option maxHeartbeats 1000000 in
theorem smX10_fresh0_b2 {E : VE} {n : Nat} : ∀ (w : Nat) (v1 : Int32)  (V : VT), fX10_fresh0_b2 n w 137 v1 (hpV E V) = (gX10_fresh0_b2 n w v1 V).map (hpV E) := by
  intro w
  induction w with
  | zero => intro v1 V; rfl
  | succ w ih =>
    intro v1 V
    unfold fX10_fresh0_b2 gX10_fresh0_b2
    refine sb_ite ?_ ?_
    · refine sb_some (s_gR rfl rfl) ?_
      refine sb_some (s_gR rfl rfl) ?_
      refine sb_some ((s_aI rfl).trans (rdA_at (k := 3) (by decide) (by decide))) ?_
      refine sb_V (o' := some (wA V 167 1 (V.A 139 3))) ((s_sI rfl).trans (congrArg _ (wrA_at (k := 1) (by decide) (by decide)))) (fun V2 => ?_)
      exact smX10_fresh0_b35 _ 0 V2
    · refine sb_some (s_gR rfl rfl) ?_
      refine sb_V (o' := wrA V 167 16 v1 0) (s_sI rfl) (fun V3 => ?_)
      exact ih (v1 + 1) V3
def gX10_fresh0 (n : Nat)  (V : VT) : Option (VT) :=
  gX10_fresh0_b2 n n 0 V
set_option maxHeartbeats 1000000 in
theorem smX10_fresh0 {E : VE} {n : Nat}  {V : VT}  : fX10_fresh0 n 137 (hpV E V) = (gX10_fresh0 n  V).map (hpV E) := by
  unfold fX10_fresh0 gX10_fresh0
  refine sb_some (s_isO rfl) ?_
  exact smX10_fresh0_b2 _ 0 V
def gX10_fruits (v1 : Int32) (V : VT) : Option (Int32 × VT) :=
  (some (wF V 137 0 0)).bind fun V1 =>
  (gX10_isMatter v1 V1).bind fun p2 =>
  if p2.1 = 0 then
  (some ((-1), p2.2))
  else
  ((rdA 7 (p2.2.A 173) v1).bind fun x3 =>
  some (x3, p2.2))
set_option maxHeartbeats 1000000 in
theorem smX10_fruits {E : VE} {v1 : Int32} {V : VT}  : fX10_fruits 137 v1 (hpV E V) = (gX10_fruits v1 V).map (fun p => (p.1, hpV E p.2)) := by
  unfold fX10_fruits gX10_fruits
  refine sb_some (s_isO rfl) ?_
  refine sb_V (o' := some (wF V 137 0 0)) (w10_0 rfl) (fun V1 => ?_)
  refine sb_P (o' := gX10_isMatter v1 V1) (smX10_isMatter) (fun p2 => ?_)
  refine sb_ite ?_ ?_
  · rfl
  · refine sb_some (s_gR rfl rfl) ?_
    refine sb_bindE (s_aI rfl) (fun x3 => ?_)
    rfl
def gX10_gap_b9 (n : Nat) : Nat → Int32 → Int32 → VT → Option (Int32 × VT)
  | 0, _, _, _ => none
  | w + 1, v1, v2, V =>
    if (V.A 139 0) ≤ v2 then
    (some (v1, V))
    else
    ((gX10_byYears n v2 V).bind fun p2 =>
    (rdA 14 (p2.2.A 142) p2.1).bind fun x3 =>
    (gX10_byYears n (v2 - 1) p2.2).bind fun p4 =>
    (rdA 14 (p4.2.A 142) p4.1).bind fun x5 =>
    gX10_gap_b9 n w (if v1 < (x3 - x5) then (x3 - x5) else v1) (v2 + 1) p4.2)
set_option maxHeartbeats 1000000 in
theorem smX10_gap_b9 {E : VE} {n : Nat} : ∀ (w : Nat) (v1 : Int32)  (v2 : Int32)  (V : VT), fX10_gap_b9 n w 137 v1 v2 (hpV E V) = (gX10_gap_b9 n w v1 v2 V).map (fun p => (p.1, hpV E p.2)) := by
  intro w
  induction w with
  | zero => intro v1 v2 V; rfl
  | succ w ih =>
    intro v1 v2 V
    unfold fX10_gap_b9 gX10_gap_b9
    refine sb_some (s_gR rfl rfl) ?_
    refine sb_some ((s_aI rfl).trans (rdA_at (k := 0) (by decide) (by decide))) ?_
    refine sb_ite ?_ ?_
    · rfl
    · refine sb_some (s_gR rfl rfl) ?_
      refine sb_P (o' := gX10_byYears n v2 V) (smX10_byYears) (fun p2 => ?_)
      refine sb_bindE (s_aI rfl) (fun x3 => ?_)
      refine sb_some (s_gR rfl rfl) ?_
      refine sb_P (o' := gX10_byYears n (v2 - 1) p2.2) (smX10_byYears) (fun p4 => ?_)
      refine sb_bindE (s_aI rfl) (fun x5 => ?_)
      exact ih (if v1 < (x3 - x5) then (x3 - x5) else v1) (v2 + 1) p4.2
def gX10_gap (n : Nat)  (V : VT) : Option (Int32 × VT) :=
  (some (wF V 137 0 0)).bind fun V1 =>
  gX10_gap_b9 n n 0 1 V1
set_option maxHeartbeats 1000000 in
theorem smX10_gap {E : VE} {n : Nat}  {V : VT}  : fX10_gap n 137 (hpV E V) = (gX10_gap n  V).map (fun p => (p.1, hpV E p.2)) := by
  unfold fX10_gap gX10_gap
  refine sb_some (s_isO rfl) ?_
  refine sb_V (o' := some (wF V 137 0 0)) (w10_0 rfl) (fun V1 => ?_)
  exact smX10_gap_b9 _ 0 1 V1
def gX10_getsBy (v0 : Int32) (v1 : Int32) (v2 : Int32) (v3 : Int32) (v4 : Int32) (V : VT) : Option (Int32 × VT) :=
  if v3 = 1 then
  (if v4 = 1 then
  (some (v0, V))
  else
  (some (-v1, V)))
  else
  (if v4 = 1 then
  (some (v2, V))
  else
  (some (0, V)))
set_option maxHeartbeats 1000000 in
theorem smX10_getsBy {E : VE} {v0 : Int32} {v1 : Int32} {v2 : Int32} {v3 : Int32} {v4 : Int32} {V : VT}      : fX10_getsBy v0 v1 v2 v3 v4 (hpV E V) = (gX10_getsBy v0 v1 v2 v3 v4 V).map (fun p => (p.1, hpV E p.2)) := by
  unfold fX10_getsBy gX10_getsBy
  refine sb_ite ?_ ?_
  · refine sb_ite ?_ ?_
    · rfl
    · rfl
  · refine sb_ite ?_ ?_
    · rfl
    · rfl
def gX10_heals (n : Nat) (v1 : Int32) (V : VT) : Option (Int32 × VT) :=
  (some (wF V 137 0 0)).bind fun V1 =>
  (gX10_isMatter v1 V1).bind fun p2 =>
  if p2.1 = 0 then
  (some ((-1), p2.2))
  else
  ((gX10_comes n v1 1 p2.2).bind fun p3 =>
  some (p3.1, p3.2))
set_option maxHeartbeats 1000000 in
theorem smX10_heals {E : VE} {n : Nat} {v1 : Int32} {V : VT}  : fX10_heals n 137 v1 (hpV E V) = (gX10_heals n v1 V).map (fun p => (p.1, hpV E p.2)) := by
  unfold fX10_heals gX10_heals
  refine sb_some (s_isO rfl) ?_
  refine sb_V (o' := some (wF V 137 0 0)) (w10_0 rfl) (fun V1 => ?_)
  refine sb_P (o' := gX10_isMatter v1 V1) (smX10_isMatter) (fun p2 => ?_)
  refine sb_ite ?_ ?_
  · rfl
  · refine sb_P (o' := gX10_comes n v1 1 p2.2) (smX10_comes) (fun p3 => ?_)
    rfl
def gX10_usual (v1 : Int32) (V : VT) : Option (VT) :=
  (wrA V 139 8 ((4 * v1) + 0) 0).bind fun V1 =>
  (wrA V1 139 8 ((4 * v1) + 1) 3).bind fun V2 =>
  (wrA V2 139 8 ((4 * v1) + 2) 4).bind fun V3 =>
  (wrA V3 139 8 ((4 * v1) + 3) 50).bind fun V4 =>
  some V4
set_option maxHeartbeats 1000000 in
theorem smX10_usual {E : VE} {v1 : Int32} {V : VT}  : fX10_usual 137 v1 (hpV E V) = (gX10_usual v1 V).map (hpV E) := by
  unfold fX10_usual gX10_usual
  refine sb_some (s_isO rfl) ?_
  refine sb_some (s_gR rfl rfl) ?_
  refine sb_V (o' := wrA V 139 8 ((4 * v1) + 0) 0) (s_sI rfl) (fun V1 => ?_)
  refine sb_some (s_gR rfl rfl) ?_
  refine sb_V (o' := wrA V1 139 8 ((4 * v1) + 1) 3) (s_sI rfl) (fun V2 => ?_)
  refine sb_some (s_gR rfl rfl) ?_
  refine sb_V (o' := wrA V2 139 8 ((4 * v1) + 2) 4) (s_sI rfl) (fun V3 => ?_)
  refine sb_some (s_gR rfl rfl) ?_
  refine sb_V (o' := wrA V3 139 8 ((4 * v1) + 3) 50) (s_sI rfl) (fun V4 => ?_)
  rfl
def gX10_isAsSeen_b42 (n : Nat) (K2 : Int32 → Int32 → VT → Option (Int32 × VT)) (v1 : Int32) (v2 : Int32) (s0 : Int32) (V : VT) : Option (Int32 × VT) :=
  (rdA 40 (V.A 166) v2).bind fun x1 =>
  if s0 = x1 then
  (K2 v1 (v2 + 1) V)
  else
  (some (0, V))
set_option maxHeartbeats 1000000 in
theorem smX10_isAsSeen_b42 {E : VE} {n : Nat} {K2 : Int32 → Int32 → VT → Option (Int32 × VT)} {k2 : Nat → Int32 → Int32 → qH → Option (Int32 × qH)} {v1 : Int32} {v2 : Int32} {s0 : Int32} {V : VT} (hK2 : ∀ (v1 : Int32)  (v2 : Int32)  (V : VT), k2 137 v1 v2 (hpV E V) = (K2 v1 v2 V).map (fun p => (p.1, hpV E p.2)))    : fX10_isAsSeen_b42 n k2 137 v1 v2 s0 (hpV E V) = (gX10_isAsSeen_b42 n K2 v1 v2 s0 V).map (fun p => (p.1, hpV E p.2)) := by
  unfold fX10_isAsSeen_b42 gX10_isAsSeen_b42
  refine sb_some (s_gR rfl rfl) ?_
  refine sb_bindE (s_aI rfl) (fun x1 => ?_)
  refine sb_ite ?_ ?_
  · exact hK2 v1 (v2 + 1) V
  · rfl
def gX10_isAsSeen_b2 (n : Nat) : Nat → Int32 → Int32 → VT → Option (Int32 × VT)
  | 0, _, _, _ => none
  | w + 1, v1, v2, V =>
    if (V.A 163 0) ≤ v2 then
    (some (1, V))
    else
    ((rdA 40 (V.A 164) v2).bind fun x2 =>
    (rdA 70 (V.A 176) ((10 * v1) + x2)).bind fun x3 =>
    (rdA 40 (V.A 165) v2).bind fun x4 =>
    if x4 < x3 then
    (gX10_isAsSeen_b42 n (gX10_isAsSeen_b2 n w) v1 v2 0 V)
    else
    (gX10_isAsSeen_b42 n (gX10_isAsSeen_b2 n w) v1 v2 1 V))
set_option maxHeartbeats 1000000 in
theorem smX10_isAsSeen_b2 {E : VE} {n : Nat} : ∀ (w : Nat) (v1 : Int32)  (v2 : Int32)  (V : VT), fX10_isAsSeen_b2 n w 137 v1 v2 (hpV E V) = (gX10_isAsSeen_b2 n w v1 v2 V).map (fun p => (p.1, hpV E p.2)) := by
  intro w
  induction w with
  | zero => intro v1 v2 V; rfl
  | succ w ih =>
    intro v1 v2 V
    unfold fX10_isAsSeen_b2 gX10_isAsSeen_b2
    refine sb_some (s_gR rfl rfl) ?_
    refine sb_some ((s_aI rfl).trans (rdA_at (k := 0) (by decide) (by decide))) ?_
    refine sb_ite ?_ ?_
    · rfl
    · refine sb_some (s_gR rfl rfl) ?_
      refine sb_some (s_gR rfl rfl) ?_
      refine sb_bindE (s_aI rfl) (fun x2 => ?_)
      refine sb_bindE (s_aI rfl) (fun x3 => ?_)
      refine sb_some (s_gR rfl rfl) ?_
      refine sb_bindE (s_aI rfl) (fun x4 => ?_)
      refine sb_ite ?_ ?_
      · exact smX10_isAsSeen_b42 ih
      · exact smX10_isAsSeen_b42 ih
def gX10_isAsSeen (n : Nat) (v1 : Int32) (V : VT) : Option (Int32 × VT) :=
  gX10_isAsSeen_b2 n n v1 0 V
set_option maxHeartbeats 1000000 in
theorem smX10_isAsSeen {E : VE} {n : Nat} {v1 : Int32} {V : VT}  : fX10_isAsSeen n 137 v1 (hpV E V) = (gX10_isAsSeen n v1 V).map (fun p => (p.1, hpV E p.2)) := by
  unfold fX10_isAsSeen gX10_isAsSeen
  refine sb_some (s_isO rfl) ?_
  exact smX10_isAsSeen_b2 _ v1 0 V
def gX10_isDone (n : Nat) (v1 : Int32) (V : VT) : Option (Int32 × VT) :=
  (rdA 240 (V.A 162) v1).bind fun x1 =>
  (rdA 240 (V.A 161) v1).bind fun x2 =>
  if x2 = 2 then
  ((gX10_passes n V).bind fun V9 =>
  some (1, V9))
  else
  ((rdA 240 (V.A 161) v1).bind fun x3 =>
  if x3 = 0 then
  ((gX10_priceOf x1 V).bind fun p7 =>
  if p7.1 ≤ (V.A 167 1) then
  ((gX10_coats n x1 p7.2).bind fun V8 =>
  some (1, V8))
  else
  (some (0, p7.2)))
  else
  ((rdA 16 (V.A 167) (9 + x1)).bind fun x4 =>
  if x4 = 0 then
  (some (0, V))
  else
  ((gX10_eaten x1 V).bind fun V5 =>
  some (1, V5))))
set_option maxHeartbeats 1000000 in
theorem smX10_isDone {E : VE} {n : Nat} {v1 : Int32} {V : VT}  : fX10_isDone n 137 v1 (hpV E V) = (gX10_isDone n v1 V).map (fun p => (p.1, hpV E p.2)) := by
  unfold fX10_isDone gX10_isDone
  refine sb_some (s_isO rfl) ?_
  refine sb_some (s_gR rfl rfl) ?_
  refine sb_bindE (s_aI rfl) (fun x1 => ?_)
  refine sb_some (s_gR rfl rfl) ?_
  refine sb_bindE (s_aI rfl) (fun x2 => ?_)
  refine sb_ite ?_ ?_
  · refine sb_V (o' := gX10_passes n V) (smX10_passes) (fun V9 => ?_)
    rfl
  · refine sb_some (s_gR rfl rfl) ?_
    refine sb_bindE (s_aI rfl) (fun x3 => ?_)
    refine sb_ite ?_ ?_
    · refine sb_some (s_gR rfl rfl) ?_
      refine sb_some ((s_aI rfl).trans (rdA_at (k := 1) (by decide) (by decide))) ?_
      refine sb_P (o' := gX10_priceOf x1 V) (smX10_priceOf) (fun p7 => ?_)
      refine sb_ite ?_ ?_
      · refine sb_V (o' := gX10_coats n x1 p7.2) (smX10_coats) (fun V8 => ?_)
        rfl
      · rfl
    · refine sb_some (s_gR rfl rfl) ?_
      refine sb_bindE (s_aI rfl) (fun x4 => ?_)
      refine sb_ite ?_ ?_
      · rfl
      · refine sb_V (o' := gX10_eaten x1 V) (smX10_eaten) (fun V5 => ?_)
        rfl
def gX10_isKept  (V : VT) : Option (Int32 × VT) :=
  if (V.F 137 6) = 1 then
  (if (lg_cmp (V.G 137 7) 187475625) = 0 then
  (some (1, V))
  else
  (if (lg_cmp (V.G 137 7) 257) = 0 then
  (some (1, V))
  else
  (if (lg_cmp (V.G 137 7) 385497) = 0 then
  (some (1, V))
  else
  (if (lg_cmp (V.G 137 7) 8887) = 0 then
  (some (1, V))
  else
  (if (lg_cmp (V.G 137 7) 6128141) = 0 then
  (some (1, V))
  else
  (if (lg_cmp (V.G 137 7) 12089) = 0 then
  (some (1, V))
  else
  (if (lg_cmp (V.G 137 7) 22726) = 0 then
  (some (1, V))
  else
  (if (lg_cmp (V.G 137 7) 10656676) = 0 then
  (some (1, V))
  else
  (if (lg_cmp (V.G 137 7) 281490259) = 0 then
  (some (1, V))
  else
  (if (lg_cmp (V.G 137 7) 3692) = 0 then
  (some (1, V))
  else
  (if (lg_cmp (V.G 137 7) 495765) = 0 then
  (some (1, V))
  else
  (if (lg_cmp (V.G 137 7) 8740238) = 0 then
  (some (1, V))
  else
  (if (lg_cmp (V.G 137 7) 29637824) = 0 then
  (some (1, V))
  else
  (if (lg_cmp (V.G 137 7) 8984627224) = 0 then
  (some (1, V))
  else
  (if (lg_cmp (V.G 137 7) 335098125) = 0 then
  (some (1, V))
  else
  (if (lg_cmp (V.G 137 7) 10631) = 0 then
  (some (1, V))
  else
  (if (lg_cmp (V.G 137 7) 1111) = 0 then
  (some (1, V))
  else
  (if (lg_cmp (V.G 137 7) 423) = 0 then
  (some (1, V))
  else
  (some (0, V))))))))))))))))))))
  else
  (some (1, V))
set_option maxHeartbeats 1000000 in
theorem smX10_isKept {E : VE}  {V : VT}  : fX10_isKept 137 (hpV E V) = (gX10_isKept  V).map (fun p => (p.1, hpV E p.2)) := by
  unfold fX10_isKept gX10_isKept
  refine sb_some (s_isO rfl) ?_
  refine sb_some (s_gI rfl rfl) ?_
  refine sb_ite ?_ ?_
  · refine sb_some (s_gL rfl rfl) ?_
    refine sb_ite ?_ ?_
    · rfl
    · refine sb_some (s_gL rfl rfl) ?_
      refine sb_ite ?_ ?_
      · rfl
      · refine sb_some (s_gL rfl rfl) ?_
        refine sb_ite ?_ ?_
        · rfl
        · refine sb_some (s_gL rfl rfl) ?_
          refine sb_ite ?_ ?_
          · rfl
          · refine sb_some (s_gL rfl rfl) ?_
            refine sb_ite ?_ ?_
            · rfl
            · refine sb_some (s_gL rfl rfl) ?_
              refine sb_ite ?_ ?_
              · rfl
              · refine sb_some (s_gL rfl rfl) ?_
                refine sb_ite ?_ ?_
                · rfl
                · refine sb_some (s_gL rfl rfl) ?_
                  refine sb_ite ?_ ?_
                  · rfl
                  · refine sb_some (s_gL rfl rfl) ?_
                    refine sb_ite ?_ ?_
                    · rfl
                    · refine sb_some (s_gL rfl rfl) ?_
                      refine sb_ite ?_ ?_
                      · rfl
                      · refine sb_some (s_gL rfl rfl) ?_
                        refine sb_ite ?_ ?_
                        · rfl
                        · refine sb_some (s_gL rfl rfl) ?_
                          refine sb_ite ?_ ?_
                          · rfl
                          · refine sb_some (s_gL rfl rfl) ?_
                            refine sb_ite ?_ ?_
                            · rfl
                            · refine sb_some (s_gL rfl rfl) ?_
                              refine sb_ite ?_ ?_
                              · rfl
                              · refine sb_some (s_gL rfl rfl) ?_
                                refine sb_ite ?_ ?_
                                · rfl
                                · refine sb_some (s_gL rfl rfl) ?_
                                  refine sb_ite ?_ ?_
                                  · rfl
                                  · refine sb_some (s_gL rfl rfl) ?_
                                    refine sb_ite ?_ ?_
                                    · rfl
                                    · refine sb_some (s_gL rfl rfl) ?_
                                      refine sb_ite ?_ ?_
                                      · rfl
                                      · rfl
  · rfl
def gX10_isWord (v1 : Int64) (V : VT) : Option (Int32 × VT) :=
  if (V.F 137 6) = 1 then
  (if (lg_cmp (V.G 137 7) v1) = 0 then
  (some (1, V))
  else
  (some (0, V)))
  else
  (some (0, V))
set_option maxHeartbeats 1000000 in
theorem smX10_isWord {E : VE} {v1 : Int64} {V : VT}  : fX10_isWord 137 v1 (hpV E V) = (gX10_isWord v1 V).map (fun p => (p.1, hpV E p.2)) := by
  unfold fX10_isWord gX10_isWord
  refine sb_some (s_isO rfl) ?_
  refine sb_some (s_gI rfl rfl) ?_
  refine sb_ite ?_ ?_
  · refine sb_some (s_gL rfl rfl) ?_
    refine sb_ite ?_ ?_
    · rfl
    · rfl
  · rfl
def gX10_judged_b68 (n : Nat) (K41 : Int32 → Int32 → Int32 → Int32 → VT → Option (Int32 × VT)) (v1 : Int32) (v2 : Int32) (v3 : Int32) (v4 : Int32) (V : VT) : Option (Int32 × VT) :=
  (gX10_meantNow n V).bind fun p1 =>
  (gX10_rightBy n p1.1 p1.2).bind fun p2 =>
  (gX10_every p2.2).bind fun p3 =>
  if p2.1 = p3.1 then
  (if 0 ≤ v3 then
  (K41 v1 v2 v3 (v4 + 1) p3.2)
  else
  (K41 v1 v2 v4 (v4 + 1) p3.2))
  else
  (K41 v1 v2 v3 (v4 + 1) p3.2)
set_option maxHeartbeats 1000000 in
theorem smX10_judged_b68 {E : VE} {n : Nat} {K41 : Int32 → Int32 → Int32 → Int32 → VT → Option (Int32 × VT)} {k41 : Nat → Int32 → Int32 → Int32 → Int32 → qH → Option (Int32 × qH)} {v1 : Int32} {v2 : Int32} {v3 : Int32} {v4 : Int32} {V : VT} (hK41 : ∀ (v1 : Int32)  (v2 : Int32)  (v3 : Int32)  (v4 : Int32)  (V : VT), k41 137 v1 v2 v3 v4 (hpV E V) = (K41 v1 v2 v3 v4 V).map (fun p => (p.1, hpV E p.2)))     : fX10_judged_b68 n k41 137 v1 v2 v3 v4 (hpV E V) = (gX10_judged_b68 n K41 v1 v2 v3 v4 V).map (fun p => (p.1, hpV E p.2)) := by
  unfold fX10_judged_b68 gX10_judged_b68
  refine sb_P (o' := gX10_meantNow n V) (smX10_meantNow) (fun p1 => ?_)
  refine sb_P (o' := gX10_rightBy n p1.1 p1.2) (smX10_rightBy) (fun p2 => ?_)
  refine sb_P (o' := gX10_every p2.2) (smX10_every) (fun p3 => ?_)
  refine sb_ite ?_ ?_
  · refine sb_ite ?_ ?_
    · exact hK41 v1 v2 v3 (v4 + 1) p3.2
    · exact hK41 v1 v2 v4 (v4 + 1) p3.2
  · exact hK41 v1 v2 v3 (v4 + 1) p3.2
def gX10_judged_b41 (n : Nat) : Nat → Int32 → Int32 → Int32 → Int32 → VT → Option (Int32 × VT)
  | 0, _, _, _, _, _ => none
  | w + 1, v1, v2, v3, v4, V =>
    if (V.A 160 0) ≤ v4 then
    ((gX10_meantNow n V).bind fun p2 =>
    (gX10_bits n p2.1 p2.2).bind fun p3 =>
    (gX10_copies n 168 16 0 167 16 0 p3.2).bind fun V4 =>
    if v1 = 0 then
    (some (v2, V4))
    else
    (if v1 = 1 then
    (some (v3, V4))
    else
    (some (p3.1, V4))))
    else
    ((gX10_isDone n v4 V).bind fun p5 =>
    if p5.1 = 0 then
    (if 0 ≤ v2 then
    (gX10_judged_b68 n (gX10_judged_b41 n w) v1 v2 v3 v4 p5.2)
    else
    (gX10_judged_b68 n (gX10_judged_b41 n w) v1 v4 v3 v4 p5.2))
    else
    (gX10_judged_b68 n (gX10_judged_b41 n w) v1 v2 v3 v4 p5.2))
set_option maxHeartbeats 1000000 in
theorem smX10_judged_b41 {E : VE} {n : Nat} : ∀ (w : Nat) (v1 : Int32)  (v2 : Int32)  (v3 : Int32)  (v4 : Int32)  (V : VT), fX10_judged_b41 n w 137 v1 v2 v3 v4 (hpV E V) = (gX10_judged_b41 n w v1 v2 v3 v4 V).map (fun p => (p.1, hpV E p.2)) := by
  intro w
  induction w with
  | zero => intro v1 v2 v3 v4 V; rfl
  | succ w ih =>
    intro v1 v2 v3 v4 V
    unfold fX10_judged_b41 gX10_judged_b41
    refine sb_some (s_gR rfl rfl) ?_
    refine sb_some ((s_aI rfl).trans (rdA_at (k := 0) (by decide) (by decide))) ?_
    refine sb_ite ?_ ?_
    · refine sb_P (o' := gX10_meantNow n V) (smX10_meantNow) (fun p2 => ?_)
      refine sb_P (o' := gX10_bits n p2.1 p2.2) (smX10_bits) (fun p3 => ?_)
      refine sb_some (s_gR rfl rfl) ?_
      refine sb_some (s_gR rfl rfl) ?_
      refine sb_V (o' := gX10_copies n 168 16 0 167 16 0 p3.2) (smX10_copies rfl rfl) (fun V4 => ?_)
      refine sb_ite ?_ ?_
      · rfl
      · refine sb_ite ?_ ?_
        · rfl
        · rfl
    · refine sb_P (o' := gX10_isDone n v4 V) (smX10_isDone) (fun p5 => ?_)
      refine sb_ite ?_ ?_
      · refine sb_ite ?_ ?_
        · exact smX10_judged_b68 ih
        · exact smX10_judged_b68 ih
      · exact smX10_judged_b68 ih
def gX10_judged (n : Nat) (v1 : Int32) (V : VT) : Option (Int32 × VT) :=
  (some (wF V 137 0 0)).bind fun V1 =>
  (gX10_within v1 0 2 V1).bind fun p2 =>
  if p2.1 = 0 then
  (some ((-2), p2.2))
  else
  ((gX10_copies n 167 16 0 168 16 0 p2.2).bind fun V3 =>
  (gX10_fresh0 n V3).bind fun V4 =>
  gX10_judged_b41 n n v1 ((-1)) ((-1)) 0 V4)
set_option maxHeartbeats 1000000 in
theorem smX10_judged {E : VE} {n : Nat} {v1 : Int32} {V : VT}  : fX10_judged n 137 v1 (hpV E V) = (gX10_judged n v1 V).map (fun p => (p.1, hpV E p.2)) := by
  unfold fX10_judged gX10_judged
  refine sb_some (s_isO rfl) ?_
  refine sb_V (o' := some (wF V 137 0 0)) (w10_0 rfl) (fun V1 => ?_)
  refine sb_P (o' := gX10_within v1 0 2 V1) (smX10_within) (fun p2 => ?_)
  refine sb_ite ?_ ?_
  · rfl
  · refine sb_some (s_gR rfl rfl) ?_
    refine sb_some (s_gR rfl rfl) ?_
    refine sb_V (o' := gX10_copies n 167 16 0 168 16 0 p2.2) (smX10_copies rfl rfl) (fun V3 => ?_)
    refine sb_V (o' := gX10_fresh0 n V3) (smX10_fresh0) (fun V4 => ?_)
    exact smX10_judged_b41 _ v1 ((-1)) ((-1)) 0 V4
def gX10_lacks (n : Nat)  (V : VT) : Option (Int32 × VT) :=
  (some (wF V 137 0 0)).bind fun V1 =>
  (gX10_rightAll n V1).bind fun p2 =>
  if 0 ≤ p2.1 then
  (some (if (0 : Int32) < (p2.1 - (p2.2.A 167 1)) then (p2.1 - (p2.2.A 167 1)) else (0 : Int32), p2.2))
  else
  (some ((-1), p2.2))
set_option maxHeartbeats 1000000 in
theorem smX10_lacks {E : VE} {n : Nat}  {V : VT}  : fX10_lacks n 137 (hpV E V) = (gX10_lacks n  V).map (fun p => (p.1, hpV E p.2)) := by
  unfold fX10_lacks gX10_lacks
  refine sb_some (s_isO rfl) ?_
  refine sb_V (o' := some (wF V 137 0 0)) (w10_0 rfl) (fun V1 => ?_)
  refine sb_P (o' := gX10_rightAll n V1) (smX10_rightAll) (fun p2 => ?_)
  refine sb_ite ?_ ?_
  · refine sb_some (s_gR rfl rfl) ?_
    refine sb_some ((s_aI rfl).trans (rdA_at (k := 1) (by decide) (by decide))) ?_
    rfl
  · rfl
def gX10_later_b40 (n : Nat) : Nat → Int32 → Int32 → Int32 → VT → Option (Int32 × VT)
  | 0, _, _, _, _ => none
  | w + 1, v1, v2, v3, V =>
    if v2 ≤ v3 then
    ((rdA 16 (V.A 167) (2 + v1)).bind fun x1 =>
    (gX10_copies n 169 16 0 167 16 0 V).bind fun V2 =>
    some (x1, V2))
    else
    ((gX10_passes n V).bind fun V3 =>
    gX10_later_b40 n w v1 v2 (v3 + 1) V3)
set_option maxHeartbeats 1000000 in
theorem smX10_later_b40 {E : VE} {n : Nat} : ∀ (w : Nat) (v1 : Int32)  (v2 : Int32)  (v3 : Int32)  (V : VT), fX10_later_b40 n w 137 v1 v2 v3 (hpV E V) = (gX10_later_b40 n w v1 v2 v3 V).map (fun p => (p.1, hpV E p.2)) := by
  intro w
  induction w with
  | zero => intro v1 v2 v3 V; rfl
  | succ w ih =>
    intro v1 v2 v3 V
    unfold fX10_later_b40 gX10_later_b40
    refine sb_ite ?_ ?_
    · refine sb_some (s_gR rfl rfl) ?_
      refine sb_bindE (s_aI rfl) (fun x1 => ?_)
      refine sb_some (s_gR rfl rfl) ?_
      refine sb_some (s_gR rfl rfl) ?_
      refine sb_V (o' := gX10_copies n 169 16 0 167 16 0 V) (smX10_copies rfl rfl) (fun V2 => ?_)
      rfl
    · refine sb_V (o' := gX10_passes n V) (smX10_passes) (fun V3 => ?_)
      exact ih v1 v2 (v3 + 1) V3
def gX10_later (n : Nat) (v1 : Int32) (v2 : Int32) (V : VT) : Option (Int32 × VT) :=
  (some (wF V 137 0 0)).bind fun V1 =>
  (gX10_isMatter v1 V1).bind fun p2 =>
  if p2.1 = 0 then
  (some ((-1), p2.2))
  else
  ((gX10_within v2 0 60 p2.2).bind fun p3 =>
  if p3.1 = 0 then
  (some ((-1), p3.2))
  else
  ((gX10_copies n 167 16 0 169 16 0 p3.2).bind fun V4 =>
  gX10_later_b40 n n v1 v2 0 V4))
set_option maxHeartbeats 1000000 in
theorem smX10_later {E : VE} {n : Nat} {v1 : Int32} {v2 : Int32} {V : VT}   : fX10_later n 137 v1 v2 (hpV E V) = (gX10_later n v1 v2 V).map (fun p => (p.1, hpV E p.2)) := by
  unfold fX10_later gX10_later
  refine sb_some (s_isO rfl) ?_
  refine sb_V (o' := some (wF V 137 0 0)) (w10_0 rfl) (fun V1 => ?_)
  refine sb_P (o' := gX10_isMatter v1 V1) (smX10_isMatter) (fun p2 => ?_)
  refine sb_ite ?_ ?_
  · rfl
  · refine sb_P (o' := gX10_within v2 0 60 p2.2) (smX10_within) (fun p3 => ?_)
    refine sb_ite ?_ ?_
    · rfl
    · refine sb_some (s_gR rfl rfl) ?_
      refine sb_some (s_gR rfl rfl) ?_
      refine sb_V (o' := gX10_copies n 167 16 0 169 16 0 p3.2) (smX10_copies rfl rfl) (fun V4 => ?_)
      exact smX10_later_b40 _ v1 v2 0 V4
def gX10_shifts_b2 (n : Nat) : Nat → Nat → Nat → Int32 → Int32 → VT → Option (VT)
  | 0, _, _, _, _, _ => none
  | w + 1, v0, mv0, v1, v2, V =>
    if v1 ≤ v2 then
    (some V)
    else
    ((rdA mv0 (V.A v0) (v1 + v2)).bind fun x1 =>
    (wrA V v0 mv0 v2 x1).bind fun V2 =>
    gX10_shifts_b2 n w v0 mv0 v1 (v2 + 1) V2)
set_option maxHeartbeats 1000000 in
theorem smX10_shifts_b2 {E : VE} {n : Nat} : ∀ (w : Nat) (v0 : Nat)  (mv0 : Nat) (hv0 : arrAt v0 = some (.int, mv0)) (v1 : Int32)  (v2 : Int32)  (V : VT), fX10_shifts_b2 n w v0 v1 v2 (hpV E V) = (gX10_shifts_b2 n w v0 mv0 v1 v2 V).map (hpV E) := by
  intro w
  induction w with
  | zero => intro v0 mv0 hv0 v1 v2 V; rfl
  | succ w ih =>
    intro v0 mv0 hv0 v1 v2 V
    unfold fX10_shifts_b2 gX10_shifts_b2
    refine sb_ite ?_ ?_
    · rfl
    · refine sb_bindE (s_aI hv0) (fun x1 => ?_)
      refine sb_V (o' := wrA V v0 mv0 v2 x1) (s_sI hv0) (fun V2 => ?_)
      exact ih v0 mv0 hv0 v1 (v2 + 1) V2
def gX10_shifts (n : Nat) (v0 : Nat) (m0 : Nat) (v1 : Int32) (V : VT) : Option (VT) :=
  gX10_shifts_b2 n n v0 m0 v1 0 V
set_option maxHeartbeats 1000000 in
theorem smX10_shifts {E : VE} {n : Nat} {v0 : Nat} {m0 : Nat} {v1 : Int32} {V : VT}  (h0 : arrAt v0 = some (.int, m0))  : fX10_shifts n v0 v1 (hpV E V) = (gX10_shifts n v0 m0 v1 V).map (hpV E) := by
  unfold fX10_shifts gX10_shifts
  exact smX10_shifts_b2 _ v0 m0 h0 v1 0 V
def gX10_lays_b10 (n : Nat) : Nat → Int32 → VT → Option (VT)
  | 0, _, _ => none
  | w + 1, v1, V =>
    if 7 ≤ v1 then
    ((gX10_shifts n 141 14 7 V).bind fun V1 =>
    (gX10_shifts n 142 14 7 V1).bind fun V2 =>
    (gX10_shifts n 143 14 7 V2).bind fun V3 =>
    (gX10_shifts n 144 14 7 V3).bind fun V4 =>
    (gX10_shifts n 147 2000 1000 V4).bind fun V5 =>
    (some (wA V5 145 0 ((V5.A 145 1) - 1000))).bind fun V7 =>
    (some (wA V7 146 0 ((V7.A 146 1) - 1000))).bind fun V9 =>
    some V9)
    else
    ((rdL 14 (V.L 140) (7 + v1)).bind fun x10 =>
    (wrL V 140 14 v1 x10).bind fun V11 =>
    gX10_lays_b10 n w (v1 + 1) V11)
set_option maxHeartbeats 1000000 in
theorem smX10_lays_b10 {E : VE} {n : Nat} : ∀ (w : Nat) (v1 : Int32)  (V : VT), fX10_lays_b10 n w 137 v1 (hpV E V) = (gX10_lays_b10 n w v1 V).map (hpV E) := by
  intro w
  induction w with
  | zero => intro v1 V; rfl
  | succ w ih =>
    intro v1 V
    unfold fX10_lays_b10 gX10_lays_b10
    refine sb_ite ?_ ?_
    · refine sb_some (s_gR rfl rfl) ?_
      refine sb_V (o' := gX10_shifts n 141 14 7 V) (smX10_shifts rfl) (fun V1 => ?_)
      refine sb_some (s_gR rfl rfl) ?_
      refine sb_V (o' := gX10_shifts n 142 14 7 V1) (smX10_shifts rfl) (fun V2 => ?_)
      refine sb_some (s_gR rfl rfl) ?_
      refine sb_V (o' := gX10_shifts n 143 14 7 V2) (smX10_shifts rfl) (fun V3 => ?_)
      refine sb_some (s_gR rfl rfl) ?_
      refine sb_V (o' := gX10_shifts n 144 14 7 V3) (smX10_shifts rfl) (fun V4 => ?_)
      refine sb_some (s_gR rfl rfl) ?_
      refine sb_V (o' := gX10_shifts n 147 2000 1000 V4) (smX10_shifts rfl) (fun V5 => ?_)
      refine sb_some (s_gR rfl rfl) ?_
      refine sb_some (s_gR rfl rfl) ?_
      refine sb_some ((s_aI rfl).trans (rdA_at (k := 1) (by decide) (by decide))) ?_
      refine sb_V (o' := some (wA V5 145 0 ((V5.A 145 1) - 1000))) ((s_sI rfl).trans (congrArg _ (wrA_at (k := 0) (by decide) (by decide)))) (fun V7 => ?_)
      refine sb_some (s_gR rfl rfl) ?_
      refine sb_some (s_gR rfl rfl) ?_
      refine sb_some ((s_aI rfl).trans (rdA_at (k := 1) (by decide) (by decide))) ?_
      refine sb_V (o' := some (wA V7 146 0 ((V7.A 146 1) - 1000))) ((s_sI rfl).trans (congrArg _ (wrA_at (k := 0) (by decide) (by decide)))) (fun V9 => ?_)
      rfl
    · refine sb_some (s_gR rfl rfl) ?_
      refine sb_some (s_gR rfl rfl) ?_
      refine sb_bindE (s_aL rfl) (fun x10 => ?_)
      refine sb_V (o' := wrL V 140 14 v1 x10) (s_sL rfl) (fun V11 => ?_)
      exact ih (v1 + 1) V11
def gX10_lays (n : Nat)  (V : VT) : Option (VT) :=
  (gX10_shifts n 139 8 4 V).bind fun V1 =>
  gX10_lays_b10 n n 0 V1
set_option maxHeartbeats 1000000 in
theorem smX10_lays {E : VE} {n : Nat}  {V : VT}  : fX10_lays n 137 (hpV E V) = (gX10_lays n  V).map (hpV E) := by
  unfold fX10_lays gX10_lays
  refine sb_some (s_isO rfl) ?_
  refine sb_some (s_gR rfl rfl) ?_
  refine sb_V (o' := gX10_shifts n 139 8 4 V) (smX10_shifts rfl) (fun V1 => ?_)
  exact smX10_lays_b10 _ 0 V1
