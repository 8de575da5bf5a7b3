/-! Functions over the views, and that the functions over the abstract heap are these (written by gen2.py). -/
def gX10_taste_b46 (n : Nat) (K33 : Int32 → Int32 → Int32 → Int32 → Int32 → Int32 → VT → Option (Int32 × VT)) : Nat → Int32 → Int32 → Int32 → Int32 → Int32 → Int32 → Int32 → Int32 → VT → Option (Int32 × VT)
  | 0, _, _, _, _, _, _, _, _, _ => none
  | w + 1, v1, v2, v3, v4, v5, v6, v7, v8, V =>
    if (V.A 139 0) ≤ v8 then
    (if (if v7 < (v2 - v7) then (v2 - v7) else v7) < v3 then
    (K33 v1 v2 (if v7 < (v2 - v7) then (v2 - v7) else v7) ((100 * v5) + v6) v5 (v6 + 1) V)
    else
    (K33 v1 v2 v3 v4 v5 (v6 + 1) V))
    else
    (if ((v1 >>> (v8 &&& 31)) &&& 1) = 1 then
    ((rdA 70 (V.A 176) ((10 * v8) + v5)).bind fun x2 =>
    if v6 < x2 then
    (gX10_taste_b46 n K33 w v1 v2 v3 v4 v5 v6 (v7 + 0) (v8 + 1) V)
    else
    (gX10_taste_b46 n K33 w v1 v2 v3 v4 v5 v6 (v7 + 1) (v8 + 1) V))
    else
    (gX10_taste_b46 n K33 w v1 v2 v3 v4 v5 v6 (v7 + 0) (v8 + 1) V))
set_option maxHeartbeats 1000000 in
theorem smX10_taste_b46 {E : VE} {n : Nat} {K33 : Int32 → Int32 → Int32 → Int32 → Int32 → Int32 → VT → Option (Int32 × VT)} {k33 : Nat → Int32 → Int32 → Int32 → Int32 → Int32 → Int32 → qH → Option (Int32 × qH)} (hK33 : ∀ (v1 : Int32)  (v2 : Int32)  (v3 : Int32)  (v4 : Int32)  (v5 : Int32)  (v6 : Int32)  (V : VT), k33 137 v1 v2 v3 v4 v5 v6 (hpV E V) = (K33 v1 v2 v3 v4 v5 v6 V).map (fun p => (p.1, hpV E p.2))) : ∀ (w : Nat) (v1 : Int32)  (v2 : Int32)  (v3 : Int32)  (v4 : Int32)  (v5 : Int32)  (v6 : Int32)  (v7 : Int32)  (v8 : Int32)  (V : VT), fX10_taste_b46 n k33 w 137 v1 v2 v3 v4 v5 v6 v7 v8 (hpV E V) = (gX10_taste_b46 n K33 w v1 v2 v3 v4 v5 v6 v7 v8 V).map (fun p => (p.1, hpV E p.2)) := by
  intro w
  induction w with
  | zero => intro v1 v2 v3 v4 v5 v6 v7 v8 V; rfl
  | succ w ih =>
    intro v1 v2 v3 v4 v5 v6 v7 v8 V
    unfold fX10_taste_b46 gX10_taste_b46
    refine sb_some (s_gR rfl rfl) ?_
    refine sb_some ((s_aI rfl).trans (rdA_at (k := 0) (by decide) (by decide))) ?_
    refine sb_ite ?_ ?_
    · refine sb_ite ?_ ?_
      · exact hK33 v1 v2 (if v7 < (v2 - v7) then (v2 - v7) else v7) ((100 * v5) + v6) v5 (v6 + 1) V
      · exact hK33 v1 v2 v3 v4 v5 (v6 + 1) V
    · refine sb_ite ?_ ?_
      · refine sb_some (s_gR rfl rfl) ?_
        refine sb_bindE (s_aI rfl) (fun x2 => ?_)
        refine sb_ite ?_ ?_
        · exact ih v1 v2 v3 v4 v5 v6 (v7 + 0) (v8 + 1) V
        · exact ih v1 v2 v3 v4 v5 v6 (v7 + 1) (v8 + 1) V
      · exact ih v1 v2 v3 v4 v5 v6 (v7 + 0) (v8 + 1) V
def gX10_taste_b33 (n : Nat) (K23 : Int32 → Int32 → Int32 → Int32 → Int32 → VT → Option (Int32 × VT)) : Nat → Int32 → Int32 → Int32 → Int32 → Int32 → Int32 → VT → Option (Int32 × VT)
  | 0, _, _, _, _, _, _, _ => none
  | w + 1, v1, v2, v3, v4, v5, v6, V =>
    if 41 ≤ v6 then
    (K23 v1 v2 v3 v4 (v5 + 1) V)
    else
    (gX10_taste_b46 n (gX10_taste_b33 n K23 w) n v1 v2 v3 v4 v5 v6 0 0 V)
set_option maxHeartbeats 1000000 in
theorem smX10_taste_b33 {E : VE} {n : Nat} {K23 : Int32 → Int32 → Int32 → Int32 → Int32 → VT → Option (Int32 × VT)} {k23 : Nat → Int32 → Int32 → Int32 → Int32 → Int32 → qH → Option (Int32 × qH)} (hK23 : ∀ (v1 : Int32)  (v2 : Int32)  (v3 : Int32)  (v4 : Int32)  (v5 : Int32)  (V : VT), k23 137 v1 v2 v3 v4 v5 (hpV E V) = (K23 v1 v2 v3 v4 v5 V).map (fun p => (p.1, hpV E p.2))) : ∀ (w : Nat) (v1 : Int32)  (v2 : Int32)  (v3 : Int32)  (v4 : Int32)  (v5 : Int32)  (v6 : Int32)  (V : VT), fX10_taste_b33 n k23 w 137 v1 v2 v3 v4 v5 v6 (hpV E V) = (gX10_taste_b33 n K23 w v1 v2 v3 v4 v5 v6 V).map (fun p => (p.1, hpV E p.2)) := by
  intro w
  induction w with
  | zero => intro v1 v2 v3 v4 v5 v6 V; rfl
  | succ w ih =>
    intro v1 v2 v3 v4 v5 v6 V
    unfold fX10_taste_b33 gX10_taste_b33
    refine sb_ite ?_ ?_
    · exact hK23 v1 v2 v3 v4 (v5 + 1) V
    · exact smX10_taste_b46 ih _ v1 v2 v3 v4 v5 v6 0 0 V
def gX10_taste_b23 (n : Nat) : Nat → Int32 → Int32 → Int32 → Int32 → Int32 → VT → Option (Int32 × VT)
  | 0, _, _, _, _, _, _ => none
  | w + 1, v1, v2, v3, v4, v5, V =>
    if 10 ≤ v5 then
    (some (v4, V))
    else
    (gX10_taste_b33 n (gX10_taste_b23 n w) n v1 v2 v3 v4 v5 0 V)
set_option maxHeartbeats 1000000 in
theorem smX10_taste_b23 {E : VE} {n : Nat} : ∀ (w : Nat) (v1 : Int32)  (v2 : Int32)  (v3 : Int32)  (v4 : Int32)  (v5 : Int32)  (V : VT), fX10_taste_b23 n w 137 v1 v2 v3 v4 v5 (hpV E V) = (gX10_taste_b23 n w v1 v2 v3 v4 v5 V).map (fun p => (p.1, hpV E p.2)) := by
  intro w
  induction w with
  | zero => intro v1 v2 v3 v4 v5 V; rfl
  | succ w ih =>
    intro v1 v2 v3 v4 v5 V
    unfold fX10_taste_b23 gX10_taste_b23
    refine sb_ite ?_ ?_
    · rfl
    · exact smX10_taste_b33 ih _ v1 v2 v3 v4 v5 0 V
def gX10_taste (n : Nat)  (V : VT) : Option (Int32 × VT) :=
  (some (wF V 137 0 0)).bind fun V1 =>
  (gX10_who n V1).bind fun p2 =>
  (gX10_bits n p2.1 p2.2).bind fun p3 =>
  gX10_taste_b23 n n p2.1 p3.1 p3.1 ((-1)) 0 p3.2
set_option maxHeartbeats 1000000 in
theorem smX10_taste {E : VE} {n : Nat}  {V : VT}  : fX10_taste n 137 (hpV E V) = (gX10_taste n  V).map (fun p => (p.1, hpV E p.2)) := by
  unfold fX10_taste gX10_taste
  refine sb_some (s_isO rfl) ?_
  refine sb_V (o' := some (wF V 137 0 0)) (w10_0 rfl) (fun V1 => ?_)
  refine sb_P (o' := gX10_who n V1) (smX10_who) (fun p2 => ?_)
  refine sb_P (o' := gX10_bits n p2.1 p2.2) (smX10_bits) (fun p3 => ?_)
  exact smX10_taste_b23 _ p2.1 p3.1 p3.1 ((-1)) 0 p3.2
def gX10_thrown  (V : VT) : Option (Int32 × VT) :=
  some (V.F 137 0, V)
set_option maxHeartbeats 1000000 in
theorem smX10_thrown {E : VE}  {V : VT}  : fX10_thrown 137 (hpV E V) = (gX10_thrown  V).map (fun p => (p.1, hpV E p.2)) := by
  unfold fX10_thrown gX10_thrown
  refine sb_some (s_isO rfl) ?_
  refine sb_some (s_gI rfl rfl) ?_
  rfl
def gX10_undo (n : Nat)  (V : VT) : Option (Int32 × VT) :=
  (some (wF V 137 0 0)).bind fun V1 =>
  if (V1.F 137 47) = 0 then
  (some (0, V1))
  else
  ((some (wF V1 137 47 ((V1.F 137 47) - 1))).bind fun V2 =>
  (gX10_copies n 171 256 (16 * (V2.F 137 47)) 167 16 0 V2).bind fun V3 =>
  some (1, V3))
set_option maxHeartbeats 1000000 in
theorem smX10_undo {E : VE} {n : Nat}  {V : VT}  : fX10_undo n 137 (hpV E V) = (gX10_undo n  V).map (fun p => (p.1, hpV E p.2)) := by
  unfold fX10_undo gX10_undo
  refine sb_some (s_isO rfl) ?_
  refine sb_V (o' := some (wF V 137 0 0)) (w10_0 rfl) (fun V1 => ?_)
  refine sb_some (s_gI rfl rfl) ?_
  refine sb_ite ?_ ?_
  · rfl
  · refine sb_some (s_gI rfl rfl) ?_
    refine sb_V (o' := some (wF V1 137 47 ((V1.F 137 47) - 1))) (w10_47 rfl) (fun V2 => ?_)
    refine sb_some (s_gR rfl rfl) ?_
    refine sb_some (s_gI rfl rfl) ?_
    refine sb_some (s_gR rfl rfl) ?_
    refine sb_V (o' := gX10_copies n 171 256 (16 * (V2.F 137 47)) 167 16 0 V2) (smX10_copies rfl rfl) (fun V3 => ?_)
    rfl
def gX10_wants (n : Nat) (v1 : Int32) (V : VT) : Option (Int32 × VT) :=
  (some (wF V 137 0 0)).bind fun V1 =>
  (gX10_isMatter v1 V1).bind fun p2 =>
  if p2.1 = 0 then
  (some ((-1), p2.2))
  else
  ((gX10_wantsOf n v1 p2.2).bind fun p3 =>
  some (p3.1, p3.2))
set_option maxHeartbeats 1000000 in
theorem smX10_wants {E : VE} {n : Nat} {v1 : Int32} {V : VT}  : fX10_wants n 137 v1 (hpV E V) = (gX10_wants n v1 V).map (fun p => (p.1, hpV E p.2)) := by
  unfold fX10_wants gX10_wants
  refine sb_some (s_isO rfl) ?_
  refine sb_V (o' := some (wF V 137 0 0)) (w10_0 rfl) (fun V1 => ?_)
  refine sb_P (o' := gX10_isMatter v1 V1) (smX10_isMatter) (fun p2 => ?_)
  refine sb_ite ?_ ?_
  · rfl
  · refine sb_P (o' := gX10_wantsOf n v1 p2.2) (smX10_wantsOf) (fun p3 => ?_)
    rfl
def gX10_ways_b121 (n : Nat) (K75 : Int32 → Int32 → Int32 → Int32 → VT → Option (Int32 × VT)) (v2 : Int32) (v3 : Int32) (v4 : Int32) (v5 : Int32) (s0 : Int32) (s1 : Int32) (s2 : Int32) (s3 : Nat) (ms3 : Nat) (V : VT) : Option (Int32 × VT) :=
  (wrA V s3 ms3 s2 (s1 + s0)).bind fun V1 =>
  K75 v2 v3 v4 (v5 + 1) V1
set_option maxHeartbeats 1000000 in
theorem smX10_ways_b121 {E : VE} {n : Nat} {K75 : Int32 → Int32 → Int32 → Int32 → VT → Option (Int32 × VT)} {k75 : Nat → Int32 → Int32 → Int32 → Int32 → qH → Option (Int32 × qH)} {v2 : Int32} {v3 : Int32} {v4 : Int32} {v5 : Int32} {s0 : Int32} {s1 : Int32} {s2 : Int32} {s3 : Nat} {ms3 : Nat} {V : VT} (hK75 : ∀ (v2 : Int32)  (v3 : Int32)  (v4 : Int32)  (v5 : Int32)  (V : VT), k75 137 v2 v3 v4 v5 (hpV E V) = (K75 v2 v3 v4 v5 V).map (fun p => (p.1, hpV E p.2)))         (hs3 : arrAt s3 = some (.int, ms3)) : fX10_ways_b121 n k75 137 v2 v3 v4 v5 s0 s1 s2 s3 (hpV E V) = (gX10_ways_b121 n K75 v2 v3 v4 v5 s0 s1 s2 s3 ms3 V).map (fun p => (p.1, hpV E p.2)) := by
  unfold fX10_ways_b121 gX10_ways_b121
  refine sb_V (o' := wrA V s3 ms3 s2 (s1 + s0)) (s_sI hs3) (fun V1 => ?_)
  exact hK75 v2 v3 v4 (v5 + 1) V1
def gX10_ways_b75 (n : Nat) (K55 : Int32 → Int32 → VT → Option (Int32 × VT)) : Nat → Int32 → Int32 → Int32 → Int32 → VT → Option (Int32 × VT)
  | 0, _, _, _, _, _ => none
  | w + 1, v2, v3, v4, v5, V =>
    if (V.A 139 0) ≤ v5 then
    (K55 v2 (v3 + 1) V)
    else
    ((rdA 7 (V.A 175) v5).bind fun x2 =>
    (rdA 14 (V.A 144) v4).bind fun x3 =>
    if ((x3 >>> (v5 &&& 31)) &&& 1) = 1 then
    ((rdA 7 (V.A 175) v4).bind fun x4 =>
    gX10_ways_b121 n (gX10_ways_b75 n K55 w) v2 v3 v4 v5 x4 x2 v5 175 7 V)
    else
    (gX10_ways_b121 n (gX10_ways_b75 n K55 w) v2 v3 v4 v5 0 x2 v5 175 7 V))
set_option maxHeartbeats 1000000 in
theorem smX10_ways_b75 {E : VE} {n : Nat} {K55 : Int32 → Int32 → VT → Option (Int32 × VT)} {k55 : Nat → Int32 → Int32 → qH → Option (Int32 × qH)} (hK55 : ∀ (v2 : Int32)  (v3 : Int32)  (V : VT), k55 137 v2 v3 (hpV E V) = (K55 v2 v3 V).map (fun p => (p.1, hpV E p.2))) : ∀ (w : Nat) (v2 : Int32)  (v3 : Int32)  (v4 : Int32)  (v5 : Int32)  (V : VT), fX10_ways_b75 n k55 w 137 v2 v3 v4 v5 (hpV E V) = (gX10_ways_b75 n K55 w v2 v3 v4 v5 V).map (fun p => (p.1, hpV E p.2)) := by
  intro w
  induction w with
  | zero => intro v2 v3 v4 v5 V; rfl
  | succ w ih =>
    intro v2 v3 v4 v5 V
    unfold fX10_ways_b75 gX10_ways_b75
    refine sb_some (s_gR rfl rfl) ?_
    refine sb_some ((s_aI rfl).trans (rdA_at (k := 0) (by decide) (by decide))) ?_
    refine sb_ite ?_ ?_
    · exact hK55 v2 (v3 + 1) V
    · refine sb_some (s_gR rfl rfl) ?_
      refine sb_bindE (s_aI rfl) (fun x2 => ?_)
      refine sb_some (s_gR rfl rfl) ?_
      refine sb_bindE (s_aI rfl) (fun x3 => ?_)
      refine sb_ite ?_ ?_
      · refine sb_some (s_gR rfl rfl) ?_
        refine sb_bindE (s_aI rfl) (fun x4 => ?_)
        exact smX10_ways_b121 ih rfl
      · exact smX10_ways_b121 ih rfl
def gX10_ways_b55 (n : Nat) : Nat → Int32 → Int32 → VT → Option (Int32 × VT)
  | 0, _, _, _ => none
  | w + 1, v2, v3, V =>
    if (V.A 139 0) ≤ v3 then
    ((rdA 7 (V.A 175) v2).bind fun x2 =>
    some (x2, V))
    else
    ((gX10_byYears n v3 V).bind fun p3 =>
    gX10_ways_b75 n (gX10_ways_b55 n w) n v2 v3 p3.1 0 p3.2)
set_option maxHeartbeats 1000000 in
theorem smX10_ways_b55 {E : VE} {n : Nat} : ∀ (w : Nat) (v2 : Int32)  (v3 : Int32)  (V : VT), fX10_ways_b55 n w 137 v2 v3 (hpV E V) = (gX10_ways_b55 n w v2 v3 V).map (fun p => (p.1, hpV E p.2)) := by
  intro w
  induction w with
  | zero => intro v2 v3 V; rfl
  | succ w ih =>
    intro v2 v3 V
    unfold fX10_ways_b55 gX10_ways_b55
    refine sb_some (s_gR rfl rfl) ?_
    refine sb_some ((s_aI rfl).trans (rdA_at (k := 0) (by decide) (by decide))) ?_
    refine sb_ite ?_ ?_
    · refine sb_some (s_gR rfl rfl) ?_
      refine sb_bindE (s_aI rfl) (fun x2 => ?_)
      rfl
    · refine sb_P (o' := gX10_byYears n v3 V) (smX10_byYears) (fun p3 => ?_)
      exact smX10_ways_b75 ih _ v2 v3 p3.1 0 p3.2
def gX10_ways_b46 (n : Nat) (K25 : Int32 → Int32 → Int32 → VT → Option (Int32 × VT)) (v1 : Int32) (v2 : Int32) (v3 : Int32) (s0 : Int32) (s1 : Int32) (s2 : Nat) (ms2 : Nat) (V : VT) : Option (Int32 × VT) :=
  (wrA V s2 ms2 s1 s0).bind fun V1 =>
  K25 v1 v2 (v3 + 1) V1
set_option maxHeartbeats 1000000 in
theorem smX10_ways_b46 {E : VE} {n : Nat} {K25 : Int32 → Int32 → Int32 → VT → Option (Int32 × VT)} {k25 : Nat → Int32 → Int32 → Int32 → qH → Option (Int32 × qH)} {v1 : Int32} {v2 : Int32} {v3 : Int32} {s0 : Int32} {s1 : Int32} {s2 : Nat} {ms2 : Nat} {V : VT} (hK25 : ∀ (v1 : Int32)  (v2 : Int32)  (v3 : Int32)  (V : VT), k25 137 v1 v2 v3 (hpV E V) = (K25 v1 v2 v3 V).map (fun p => (p.1, hpV E p.2)))       (hs2 : arrAt s2 = some (.int, ms2)) : fX10_ways_b46 n k25 137 v1 v2 v3 s0 s1 s2 (hpV E V) = (gX10_ways_b46 n K25 v1 v2 v3 s0 s1 s2 ms2 V).map (fun p => (p.1, hpV E p.2)) := by
  unfold fX10_ways_b46 gX10_ways_b46
  refine sb_V (o' := wrA V s2 ms2 s1 s0) (s_sI hs2) (fun V1 => ?_)
  exact hK25 v1 v2 (v3 + 1) V1
def gX10_ways_b25 (n : Nat) : Nat → Int32 → Int32 → Int32 → VT → Option (Int32 × VT)
  | 0, _, _, _, _ => none
  | w + 1, v1, v2, v3, V =>
    if 7 ≤ v3 then
    (gX10_ways_b55 n n v2 0 V)
    else
    (if v3 = v1 then
    (gX10_ways_b46 n (gX10_ways_b25 n w) v1 v2 v3 1 v3 175 7 V)
    else
    (gX10_ways_b46 n (gX10_ways_b25 n w) v1 v2 v3 0 v3 175 7 V))
set_option maxHeartbeats 1000000 in
theorem smX10_ways_b25 {E : VE} {n : Nat} : ∀ (w : Nat) (v1 : Int32)  (v2 : Int32)  (v3 : Int32)  (V : VT), fX10_ways_b25 n w 137 v1 v2 v3 (hpV E V) = (gX10_ways_b25 n w v1 v2 v3 V).map (fun p => (p.1, hpV E p.2)) := by
  intro w
  induction w with
  | zero => intro v1 v2 v3 V; rfl
  | succ w ih =>
    intro v1 v2 v3 V
    unfold fX10_ways_b25 gX10_ways_b25
    refine sb_ite ?_ ?_
    · exact smX10_ways_b55 _ v2 0 V
    · refine sb_some (s_gR rfl rfl) ?_
      refine sb_ite ?_ ?_
      · exact smX10_ways_b46 ih rfl
      · exact smX10_ways_b46 ih rfl
def gX10_ways (n : Nat) (v1 : Int32) (v2 : Int32) (V : VT) : Option (Int32 × VT) :=
  (some (wF V 137 0 0)).bind fun V1 =>
  (gX10_isMatter v1 V1).bind fun p2 =>
  if p2.1 = 0 then
  (some ((-1), p2.2))
  else
  ((gX10_isMatter v2 p2.2).bind fun p3 =>
  if p3.1 = 0 then
  (some ((-1), p3.2))
  else
  (gX10_ways_b25 n n v1 v2 0 p3.2))
set_option maxHeartbeats 1000000 in
theorem smX10_ways {E : VE} {n : Nat} {v1 : Int32} {v2 : Int32} {V : VT}   : fX10_ways n 137 v1 v2 (hpV E V) = (gX10_ways n v1 v2 V).map (fun p => (p.1, hpV E p.2)) := by
  unfold fX10_ways gX10_ways
  refine sb_some (s_isO rfl) ?_
  refine sb_V (o' := some (wF V 137 0 0)) (w10_0 rfl) (fun V1 => ?_)
  refine sb_P (o' := gX10_isMatter v1 V1) (smX10_isMatter) (fun p2 => ?_)
  refine sb_ite ?_ ?_
  · rfl
  · refine sb_P (o' := gX10_isMatter v2 p2.2) (smX10_isMatter) (fun p3 => ?_)
    refine sb_ite ?_ ?_
    · rfl
    · exact smX10_ways_b25 _ v1 v2 0 p3.2
def gX10_year (n : Nat)  (V : VT) : Option (Int32 × VT) :=
  (some (wF V 137 0 0)).bind fun V1 =>
  (gX10_keeps n V1).bind fun V2 =>
  (gX10_passes n V2).bind fun V3 =>
  (gX10_meantNow n V3).bind fun p4 =>
  (gX10_bits n p4.1 p4.2).bind fun p5 =>
  some (p5.1, p5.2)
set_option maxHeartbeats 1000000 in
theorem smX10_year {E : VE} {n : Nat}  {V : VT}  : fX10_year n 137 (hpV E V) = (gX10_year n  V).map (fun p => (p.1, hpV E p.2)) := by
  unfold fX10_year gX10_year
  refine sb_some (s_isO rfl) ?_
  refine sb_V (o' := some (wF V 137 0 0)) (w10_0 rfl) (fun V1 => ?_)
  refine sb_V (o' := gX10_keeps n V1) (smX10_keeps) (fun V2 => ?_)
  refine sb_V (o' := gX10_passes n V2) (smX10_passes) (fun V3 => ?_)
  refine sb_P (o' := gX10_meantNow n V3) (smX10_meantNow) (fun p4 => ?_)
  refine sb_P (o' := gX10_bits n p4.1 p4.2) (smX10_bits) (fun p5 => ?_)
  rfl
def gX10_years_b62 (n : Nat) : Nat → Int32 → Int32 → Int32 → Int32 → VT → Option (Int32 × VT)
  | 0, _, _, _, _, _ => none
  | w + 1, v2, v3, v4, v5, V =>
    if v2 ≤ v5 then
    ((gX10_meantNow n V).bind fun p1 =>
    (gX10_copies n 168 16 0 167 16 0 p1.2).bind fun V3 =>
    if v3 = 0 then
    (some (v4, V3))
    else
    (if v3 = 1 then
    (some (p1.1, V3))
    else
    (some (p1.2.A 167 1, V3))))
    else
    ((gX10_livesYear n V).bind fun p4 =>
    if p4.1 = 0 then
    (gX10_years_b62 n w v2 v3 (v4 + 0) (v5 + 1) p4.2)
    else
    (gX10_years_b62 n w v2 v3 (v4 + 1) (v5 + 1) p4.2))
set_option maxHeartbeats 1000000 in
theorem smX10_years_b62 {E : VE} {n : Nat} : ∀ (w : Nat) (v2 : Int32)  (v3 : Int32)  (v4 : Int32)  (v5 : Int32)  (V : VT), fX10_years_b62 n w 137 v2 v3 v4 v5 (hpV E V) = (gX10_years_b62 n w v2 v3 v4 v5 V).map (fun p => (p.1, hpV E p.2)) := by
  intro w
  induction w with
  | zero => intro v2 v3 v4 v5 V; rfl
  | succ w ih =>
    intro v2 v3 v4 v5 V
    unfold fX10_years_b62 gX10_years_b62
    refine sb_ite ?_ ?_
    · refine sb_P (o' := gX10_meantNow n V) (smX10_meantNow) (fun p1 => ?_)
      refine sb_some (s_gR rfl rfl) ?_
      refine sb_some ((s_aI rfl).trans (rdA_at (k := 1) (by decide) (by decide))) ?_
      refine sb_some (s_gR rfl rfl) ?_
      refine sb_some (s_gR rfl rfl) ?_
      refine sb_V (o' := gX10_copies n 168 16 0 167 16 0 p1.2) (smX10_copies rfl rfl) (fun V3 => ?_)
      refine sb_ite ?_ ?_
      · rfl
      · refine sb_ite ?_ ?_
        · rfl
        · rfl
    · refine sb_P (o' := gX10_livesYear n V) (smX10_livesYear) (fun p4 => ?_)
      refine sb_ite ?_ ?_
      · exact ih v2 v3 (v4 + 0) (v5 + 1) p4.2
      · exact ih v2 v3 (v4 + 1) (v5 + 1) p4.2
def gX10_years (n : Nat) (v1 : Int32) (v2 : Int32) (v3 : Int32) (V : VT) : Option (Int32 × VT) :=
  (some (wF V 137 0 0)).bind fun V1 =>
  (gX10_within v1 0 9999 V1).bind fun p2 =>
  if p2.1 = 0 then
  (some ((-1), p2.2))
  else
  ((gX10_within v2 1 99 p2.2).bind fun p3 =>
  if p3.1 = 0 then
  (some ((-1), p3.2))
  else
  ((gX10_within v3 0 2 p3.2).bind fun p4 =>
  if p4.1 = 0 then
  (some ((-1), p4.2))
  else
  ((some (wG p4.2 137 52 v1.toInt64)).bind fun V5 =>
  (gX10_copies n 167 16 0 168 16 0 V5).bind fun V6 =>
  gX10_years_b62 n n v2 v3 0 0 V6)))
set_option maxHeartbeats 1000000 in
theorem smX10_years {E : VE} {n : Nat} {v1 : Int32} {v2 : Int32} {v3 : Int32} {V : VT}    : fX10_years n 137 v1 v2 v3 (hpV E V) = (gX10_years n v1 v2 v3 V).map (fun p => (p.1, hpV E p.2)) := by
  unfold fX10_years gX10_years
  refine sb_some (s_isO rfl) ?_
  refine sb_V (o' := some (wF V 137 0 0)) (w10_0 rfl) (fun V1 => ?_)
  refine sb_P (o' := gX10_within v1 0 9999 V1) (smX10_within) (fun p2 => ?_)
  refine sb_ite ?_ ?_
  · rfl
  · refine sb_P (o' := gX10_within v2 1 99 p2.2) (smX10_within) (fun p3 => ?_)
    refine sb_ite ?_ ?_
    · rfl
    · refine sb_P (o' := gX10_within v3 0 2 p3.2) (smX10_within) (fun p4 => ?_)
      refine sb_ite ?_ ?_
      · rfl
      · refine sb_V (o' := some (wG p4.2 137 52 v1.toInt64)) (w10_52 rfl) (fun V5 => ?_)
        refine sb_some (s_gR rfl rfl) ?_
        refine sb_some (s_gR rfl rfl) ?_
        refine sb_V (o' := gX10_copies n 167 16 0 168 16 0 V5) (smX10_copies rfl rfl) (fun V6 => ?_)
        exact smX10_years_b62 _ v2 v3 0 0 V6
def gX1_add (v0 : Nat) (v1 : Int32) (V : VT) : Option (VT) :=
  if 1000 ≤ (V.F v0 2) then
  (some V)
  else
  ((wrA V ((v0 + 1)) 1000 (V.F v0 2) v1).bind fun V1 =>
  (some (wF V1 v0 2 ((V1.F v0 2) + 1))).bind fun V2 =>
  some V2)
set_option maxHeartbeats 1000000 in
theorem smX1_add {E : VE} {v0 : Nat} {v1 : Int32} {V : VT} (h0 : clsAt v0 = some 1)  : fX1_add v0 v1 (hpV E V) = (gX1_add v0 v1 V).map (hpV E) := by
  unfold fX1_add gX1_add
  refine sb_some (s_isO h0) ?_
  refine sb_some (s_gI h0 rfl) ?_
  refine sb_some (s_gR h0 rfl) ?_
  refine sb_some (x := 1000) (s_aN (ch1_1 h0)) ?_
  refine sb_ite ?_ ?_
  · rfl
  · refine sb_some (s_gR h0 rfl) ?_
    refine sb_some (s_gI h0 rfl) ?_
    refine sb_V (o' := wrA V ((v0 + 1)) 1000 (V.F v0 2) v1) (s_sI (ch1_1 h0)) (fun V1 => ?_)
    refine sb_some (s_gI h0 rfl) ?_
    refine sb_V (o' := some (wF V1 v0 2 ((V1.F v0 2) + 1))) (w1_2 h0) (fun V2 => ?_)
    rfl
def gX1_clear (v0 : Nat) (V : VT) : Option (VT) :=
  (some (wF V v0 2 0)).bind fun V1 =>
  some V1
set_option maxHeartbeats 1000000 in
theorem smX1_clear {E : VE} {v0 : Nat} {V : VT} (h0 : clsAt v0 = some 1) : fX1_clear v0 (hpV E V) = (gX1_clear v0 V).map (hpV E) := by
  unfold fX1_clear gX1_clear
  refine sb_some (s_isO h0) ?_
  refine sb_V (o' := some (wF V v0 2 0)) (w1_2 h0) (fun V1 => ?_)
  rfl
def gX1_joined (v0 : Int32) (v1 : Int32) (v2 : Int32) (V : VT) : Option (Int32 × VT) :=
  if v0 = 16 then
  (if v1 = 0 then
  (some (0, V))
  else
  (if v2 = 0 then
  (some (0, V))
  else
  (some (1, V))))
  else
  (if v0 = 42 then
  (some (v1 * v2, V))
  else
  (if v0 = 43 then
  (some (v1 + v2, V))
  else
  (if v0 = 45 then
  (some (v1 - v2, V))
  else
  (if v0 = 60 then
  (if v2 ≤ v1 then
  (some (0, V))
  else
  (some (1, V)))
  else
  (if v0 = 61 then
  (if v1 = v2 then
  (some (1, V))
  else
  (some (0, V)))
  else
  (if v1 = 0 then
  (if v2 = 0 then
  (some (0, V))
  else
  (some (1, V)))
  else
  (some (1, V))))))))
set_option maxHeartbeats 1000000 in
theorem smX1_joined {E : VE} {v0 : Int32} {v1 : Int32} {v2 : Int32} {V : VT}    : fX1_joined v0 v1 v2 (hpV E V) = (gX1_joined v0 v1 v2 V).map (fun p => (p.1, hpV E p.2)) := by
  unfold fX1_joined gX1_joined
  refine sb_ite ?_ ?_
  · refine sb_ite ?_ ?_
    · rfl
    · refine sb_ite ?_ ?_
      · rfl
      · rfl
  · refine sb_ite ?_ ?_
    · rfl
    · refine sb_ite ?_ ?_
      · rfl
      · refine sb_ite ?_ ?_
        · rfl
        · refine sb_ite ?_ ?_
          · refine sb_ite ?_ ?_
            · rfl
            · rfl
          · refine sb_ite ?_ ?_
            · refine sb_ite ?_ ?_
              · rfl
              · rfl
            · refine sb_ite ?_ ?_
              · refine sb_ite ?_ ?_
                · rfl
                · rfl
              · rfl
def gX1_pop (v0 : Nat) (V : VT) : Option (Int32 × VT) :=
  if 0 < (V.F v0 3) then
  ((some (wF V v0 3 ((V.F v0 3) - 1))).bind fun V1 =>
  (rdA 64 (V1.A ((v0 + 2))) (V1.F v0 3)).bind fun x2 =>
  some (x2, V1))
  else
  (some (0, V))
set_option maxHeartbeats 1000000 in
theorem smX1_pop {E : VE} {v0 : Nat} {V : VT} (h0 : clsAt v0 = some 1) : fX1_pop v0 (hpV E V) = (gX1_pop v0 V).map (fun p => (p.1, hpV E p.2)) := by
  unfold fX1_pop gX1_pop
  refine sb_some (s_isO h0) ?_
  refine sb_some (s_gI h0 rfl) ?_
  refine sb_ite ?_ ?_
  · refine sb_some (s_gI h0 rfl) ?_
    refine sb_V (o' := some (wF V v0 3 ((V.F v0 3) - 1))) (w1_3 h0) (fun V1 => ?_)
    refine sb_some (s_gR h0 rfl) ?_
    refine sb_some (s_gI h0 rfl) ?_
    refine sb_bindE (s_aI (ch1_2 h0)) (fun x2 => ?_)
    rfl
  · rfl
def gX1_push (v0 : Nat) (v1 : Int32) (V : VT) : Option (VT) :=
  if 64 ≤ (V.F v0 3) then
  (some V)
  else
  ((wrA V ((v0 + 2)) 64 (V.F v0 3) v1).bind fun V1 =>
  (some (wF V1 v0 3 ((V1.F v0 3) + 1))).bind fun V2 =>
  some V2)
set_option maxHeartbeats 1000000 in
theorem smX1_push {E : VE} {v0 : Nat} {v1 : Int32} {V : VT} (h0 : clsAt v0 = some 1)  : fX1_push v0 v1 (hpV E V) = (gX1_push v0 v1 V).map (hpV E) := by
  unfold fX1_push gX1_push
  refine sb_some (s_isO h0) ?_
  refine sb_some (s_gI h0 rfl) ?_
  refine sb_some (s_gR h0 rfl) ?_
  refine sb_some (x := 64) (s_aN (ch1_2 h0)) ?_
  refine sb_ite ?_ ?_
  · rfl
  · refine sb_some (s_gR h0 rfl) ?_
    refine sb_some (s_gI h0 rfl) ?_
    refine sb_V (o' := wrA V ((v0 + 2)) 64 (V.F v0 3) v1) (s_sI (ch1_2 h0)) (fun V1 => ?_)
    refine sb_some (s_gI h0 rfl) ?_
    refine sb_V (o' := some (wF V1 v0 3 ((V1.F v0 3) + 1))) (w1_3 h0) (fun V2 => ?_)
    rfl
def gX1_worth_b128 (n : Nat) (K8 : Nat → Int32 → Int32 → Int32 → Int32 → Int32 → VT → Option (Int32 × VT)) (v0 : Nat) (v1 : Int32) (v2 : Int32) (v3 : Int32) (v4 : Int32) (v5 : Int32) (v6 : Int32) (V : VT) : Option (Int32 × VT) :=
  if 0 ≤ v6 then
  ((gX1_pop v0 V).bind fun p1 =>
  (gX1_pop v0 p1.2).bind fun p2 =>
  (gX1_joined v6 p2.1 p1.1 p2.2).bind fun p3 =>
  (gX1_push v0 p3.1 p3.2).bind fun V4 =>
  K8 v0 v1 v2 v3 v4 (v5 + 1) V4)
  else
  ((rdA 1000 (V.A ((v0 + 1))) v5).bind fun x5 =>
  (gX1_push v0 x5 V).bind fun V6 =>
  K8 v0 v1 v2 v3 v4 (v5 + 1) V6)
set_option maxHeartbeats 1000000 in
theorem smX1_worth_b128 {E : VE} {n : Nat} {K8 : Nat → Int32 → Int32 → Int32 → Int32 → Int32 → VT → Option (Int32 × VT)} {k8 : Nat → Int32 → Int32 → Int32 → Int32 → Int32 → qH → Option (Int32 × qH)} {v0 : Nat} {v1 : Int32} {v2 : Int32} {v3 : Int32} {v4 : Int32} {v5 : Int32} {v6 : Int32} {V : VT} (hK8 : ∀ (v0 : Nat) (hv0 : clsAt v0 = some 1) (v1 : Int32)  (v2 : Int32)  (v3 : Int32)  (v4 : Int32)  (v5 : Int32)  (V : VT), k8 v0 v1 v2 v3 v4 v5 (hpV E V) = (K8 v0 v1 v2 v3 v4 v5 V).map (fun p => (p.1, hpV E p.2))) (hv0 : clsAt v0 = some 1)       : fX1_worth_b128 n k8 v0 v1 v2 v3 v4 v5 v6 (hpV E V) = (gX1_worth_b128 n K8 v0 v1 v2 v3 v4 v5 v6 V).map (fun p => (p.1, hpV E p.2)) := by
  unfold fX1_worth_b128 gX1_worth_b128
  refine sb_ite ?_ ?_
  · refine sb_P (o' := gX1_pop v0 V) (smX1_pop hv0) (fun p1 => ?_)
    refine sb_P (o' := gX1_pop v0 p1.2) (smX1_pop hv0) (fun p2 => ?_)
    refine sb_P (o' := gX1_joined v6 p2.1 p1.1 p2.2) (smX1_joined) (fun p3 => ?_)
    refine sb_V (o' := gX1_push v0 p3.1 p3.2) (smX1_push hv0) (fun V4 => ?_)
    exact hK8 v0 hv0 v1 v2 v3 v4 (v5 + 1) V4
  · refine sb_some (s_gR hv0 rfl) ?_
    refine sb_bindE (s_aI (ch1_1 hv0)) (fun x5 => ?_)
    refine sb_V (o' := gX1_push v0 x5 V) (smX1_push hv0) (fun V6 => ?_)
    exact hK8 v0 hv0 v1 v2 v3 v4 (v5 + 1) V6
def gX1_worth_b122 (n : Nat) (K8 : Nat → Int32 → Int32 → Int32 → Int32 → Int32 → VT → Option (Int32 × VT)) (v0 : Nat) (v1 : Int32) (v2 : Int32) (v3 : Int32) (v4 : Int32) (v5 : Int32) (s0 : Int32) (s1 : Nat) (V : VT) : Option (Int32 × VT) :=
  (gX1_push s1 s0 V).bind fun V1 =>
  K8 v0 v1 v2 v3 v4 (v5 + 1) V1
set_option maxHeartbeats 1000000 in
theorem smX1_worth_b122 {E : VE} {n : Nat} {K8 : Nat → Int32 → Int32 → Int32 → Int32 → Int32 → VT → Option (Int32 × VT)} {k8 : Nat → Int32 → Int32 → Int32 → Int32 → Int32 → qH → Option (Int32 × qH)} {v0 : Nat} {v1 : Int32} {v2 : Int32} {v3 : Int32} {v4 : Int32} {v5 : Int32} {s0 : Int32} {s1 : Nat} {V : VT} (hK8 : ∀ (v0 : Nat) (hv0 : clsAt v0 = some 1) (v1 : Int32)  (v2 : Int32)  (v3 : Int32)  (v4 : Int32)  (v5 : Int32)  (V : VT), k8 v0 v1 v2 v3 v4 v5 (hpV E V) = (K8 v0 v1 v2 v3 v4 v5 V).map (fun p => (p.1, hpV E p.2))) (hv0 : clsAt v0 = some 1)       (hs1 : clsAt s1 = some 1) : fX1_worth_b122 n k8 v0 v1 v2 v3 v4 v5 s0 s1 (hpV E V) = (gX1_worth_b122 n K8 v0 v1 v2 v3 v4 v5 s0 s1 V).map (fun p => (p.1, hpV E p.2)) := by
  unfold fX1_worth_b122 gX1_worth_b122
  refine sb_V (o' := gX1_push s1 s0 V) (smX1_push hs1) (fun V1 => ?_)
  exact hK8 v0 hv0 v1 v2 v3 v4 (v5 + 1) V1
def gX1_worth_b8 (n : Nat) : Nat → Nat → Int32 → Int32 → Int32 → Int32 → Int32 → VT → Option (Int32 × VT)
  | 0, _, _, _, _, _, _, _ => none
  | w + 1, v0, v1, v2, v3, v4, v5, V =>
    if (V.F v0 2) ≤ v5 then
    ((gX1_pop v0 V).bind fun p1 =>
    some (p1.1, p1.2))
    else
    ((rdA 1000 (V.A ((v0 + 1))) v5).bind fun x2 =>
    if (x2 - 10000) = 15 then
    ((gX1_pop v0 V).bind fun p3 =>
    if p3.1 = 0 then
    (gX1_worth_b122 n (gX1_worth_b8 n w) v0 v1 v2 v3 v4 v5 1 v0 p3.2)
    else
    (gX1_worth_b122 n (gX1_worth_b8 n w) v0 v1 v2 v3 v4 v5 0 v0 p3.2))
    else
    (if (x2 - 10000) = 16 then
    (gX1_worth_b128 n (gX1_worth_b8 n w) v0 v1 v2 v3 v4 v5 (x2 - 10000) V)
    else
    (if (x2 - 10000) = 17 then
    (gX1_worth_b128 n (gX1_worth_b8 n w) v0 v1 v2 v3 v4 v5 (x2 - 10000) V)
    else
    (if (x2 - 10000) = 18 then
    ((gX1_push v0 v1 V).bind fun V4 =>
    gX1_worth_b8 n w v0 v1 v2 v3 v4 (v5 + 1) V4)
    else
    (if (x2 - 10000) = 19 then
    ((gX1_push v0 v2 V).bind fun V5 =>
    gX1_worth_b8 n w v0 v1 v2 v3 v4 (v5 + 1) V5)
    else
    (if (x2 - 10000) = 20 then
    ((gX1_push v0 v3 V).bind fun V6 =>
    gX1_worth_b8 n w v0 v1 v2 v3 v4 (v5 + 1) V6)
    else
    (if (x2 - 10000) = 21 then
    ((gX1_push v0 v4 V).bind fun V7 =>
    gX1_worth_b8 n w v0 v1 v2 v3 v4 (v5 + 1) V7)
    else
    (gX1_worth_b128 n (gX1_worth_b8 n w) v0 v1 v2 v3 v4 v5 (x2 - 10000) V))))))))
set_option maxHeartbeats 1000000 in
theorem smX1_worth_b8 {E : VE} {n : Nat} : ∀ (w : Nat) (v0 : Nat) (hv0 : clsAt v0 = some 1) (v1 : Int32)  (v2 : Int32)  (v3 : Int32)  (v4 : Int32)  (v5 : Int32)  (V : VT), fX1_worth_b8 n w v0 v1 v2 v3 v4 v5 (hpV E V) = (gX1_worth_b8 n w v0 v1 v2 v3 v4 v5 V).map (fun p => (p.1, hpV E p.2)) := by
  intro w
  induction w with
  | zero => intro v0 hv0 v1 v2 v3 v4 v5 V; rfl
  | succ w ih =>
    intro v0 hv0 v1 v2 v3 v4 v5 V
    unfold fX1_worth_b8 gX1_worth_b8
    refine sb_some (s_gI hv0 rfl) ?_
    refine sb_ite ?_ ?_
    · refine sb_P (o' := gX1_pop v0 V) (smX1_pop hv0) (fun p1 => ?_)
      rfl
    · refine sb_some (s_gR hv0 rfl) ?_
      refine sb_bindE (s_aI (ch1_1 hv0)) (fun x2 => ?_)
      refine sb_ite ?_ ?_
      · refine sb_P (o' := gX1_pop v0 V) (smX1_pop hv0) (fun p3 => ?_)
        refine sb_ite ?_ ?_
        · exact smX1_worth_b122 ih hv0 hv0
        · exact smX1_worth_b122 ih hv0 hv0
      · refine sb_ite ?_ ?_
        · exact smX1_worth_b128 ih hv0
        · refine sb_ite ?_ ?_
          · exact smX1_worth_b128 ih hv0
          · refine sb_ite ?_ ?_
            · refine sb_V (o' := gX1_push v0 v1 V) (smX1_push hv0) (fun V4 => ?_)
              exact ih v0 hv0 v1 v2 v3 v4 (v5 + 1) V4
            · refine sb_ite ?_ ?_
              · refine sb_V (o' := gX1_push v0 v2 V) (smX1_push hv0) (fun V5 => ?_)
                exact ih v0 hv0 v1 v2 v3 v4 (v5 + 1) V5
              · refine sb_ite ?_ ?_
                · refine sb_V (o' := gX1_push v0 v3 V) (smX1_push hv0) (fun V6 => ?_)
                  exact ih v0 hv0 v1 v2 v3 v4 (v5 + 1) V6
                · refine sb_ite ?_ ?_
                  · refine sb_V (o' := gX1_push v0 v4 V) (smX1_push hv0) (fun V7 => ?_)
                    exact ih v0 hv0 v1 v2 v3 v4 (v5 + 1) V7
                  · exact smX1_worth_b128 ih hv0
def gX1_worth (n : Nat) (v0 : Nat) (v1 : Int32) (v2 : Int32) (v3 : Int32) (v4 : Int32) (V : VT) : Option (Int32 × VT) :=
  (some (wF V v0 3 0)).bind fun V1 =>
  gX1_worth_b8 n n v0 v1 v2 v3 v4 0 V1
set_option maxHeartbeats 1000000 in
theorem smX1_worth {E : VE} {n : Nat} {v0 : Nat} {v1 : Int32} {v2 : Int32} {v3 : Int32} {v4 : Int32} {V : VT} (h0 : clsAt v0 = some 1)     : fX1_worth n v0 v1 v2 v3 v4 (hpV E V) = (gX1_worth n v0 v1 v2 v3 v4 V).map (fun p => (p.1, hpV E p.2)) := by
  unfold fX1_worth gX1_worth
  refine sb_some (s_isO h0) ?_
  refine sb_V (o' := some (wF V v0 3 0)) (w1_3 h0) (fun V1 => ?_)
  exact smX1_worth_b8 _ v0 h0 v1 v2 v3 v4 0 V1
def gX2_add (v0 : Nat) (v1 : Int32) (v2 : Int32) (V : VT) : Option (VT) :=
  if 40 ≤ (V.F v0 2) then
  (some V)
  else
  ((wrA V ((v0 + 1)) 40 (V.F v0 2) v1).bind fun V1 =>
  (wrA V1 ((v0 + 2)) 40 (V1.F v0 2) v2).bind fun V2 =>
  (some (wF V2 v0 2 ((V2.F v0 2) + 1))).bind fun V3 =>
  some V3)
set_option maxHeartbeats 1000000 in
theorem smX2_add {E : VE} {v0 : Nat} {v1 : Int32} {v2 : Int32} {V : VT} (h0 : clsAt v0 = some 2)   : fX2_add v0 v1 v2 (hpV E V) = (gX2_add v0 v1 v2 V).map (hpV E) := by
  unfold fX2_add gX2_add
  refine sb_some (s_isO h0) ?_
  refine sb_some (s_gI h0 rfl) ?_
  refine sb_some (s_gR h0 rfl) ?_
  refine sb_some (x := 40) (s_aN (ch2_1 h0)) ?_
  refine sb_ite ?_ ?_
  · rfl
  · refine sb_some (s_gR h0 rfl) ?_
    refine sb_some (s_gI h0 rfl) ?_
    refine sb_V (o' := wrA V ((v0 + 1)) 40 (V.F v0 2) v1) (s_sI (ch2_1 h0)) (fun V1 => ?_)
    refine sb_some (s_gR h0 rfl) ?_
    refine sb_some (s_gI h0 rfl) ?_
    refine sb_V (o' := wrA V1 ((v0 + 2)) 40 (V1.F v0 2) v2) (s_sI (ch2_2 h0)) (fun V2 => ?_)
    refine sb_some (s_gI h0 rfl) ?_
    refine sb_V (o' := some (wF V2 v0 2 ((V2.F v0 2) + 1))) (w2_2 h0) (fun V3 => ?_)
    rfl
def gX2_clear (v0 : Nat) (V : VT) : Option (VT) :=
  (some (wF V v0 2 0)).bind fun V1 =>
  some V1
set_option maxHeartbeats 1000000 in
theorem smX2_clear {E : VE} {v0 : Nat} {V : VT} (h0 : clsAt v0 = some 2) : fX2_clear v0 (hpV E V) = (gX2_clear v0 V).map (hpV E) := by
  unfold fX2_clear gX2_clear
  refine sb_some (s_isO h0) ?_
  refine sb_V (o' := some (wF V v0 2 0)) (w2_2 h0) (fun V1 => ?_)
  rfl
def gX2_copy_b10 (n : Nat) : Nat → Nat → Nat → Int32 → VT → Option (VT)
  | 0, _, _, _, _ => none
  | w + 1, v0, v1, v2, V =>
    if (V.F v0 2) ≤ v2 then
    (some V)
    else
    ((rdA 40 (V.A ((v1 + 1))) v2).bind fun x1 =>
    (wrA V ((v0 + 1)) 40 v2 x1).bind fun V2 =>
    (rdA 40 (V2.A ((v1 + 2))) v2).bind fun x3 =>
    (wrA V2 ((v0 + 2)) 40 v2 x3).bind fun V4 =>
    gX2_copy_b10 n w v0 v1 (v2 + 1) V4)
set_option maxHeartbeats 1000000 in
theorem smX2_copy_b10 {E : VE} {n : Nat} : ∀ (w : Nat) (v0 : Nat) (hv0 : clsAt v0 = some 2) (v1 : Nat) (hv1 : clsAt v1 = some 2) (v2 : Int32)  (V : VT), fX2_copy_b10 n w v0 v1 v2 (hpV E V) = (gX2_copy_b10 n w v0 v1 v2 V).map (hpV E) := by
  intro w
  induction w with
  | zero => intro v0 hv0 v1 hv1 v2 V; rfl
  | succ w ih =>
    intro v0 hv0 v1 hv1 v2 V
    unfold fX2_copy_b10 gX2_copy_b10
    refine sb_some (s_gI hv0 rfl) ?_
    refine sb_ite ?_ ?_
    · rfl
    · refine sb_some (s_gR hv0 rfl) ?_
      refine sb_some (s_gR hv1 rfl) ?_
      refine sb_bindE (s_aI (ch2_1 hv1)) (fun x1 => ?_)
      refine sb_V (o' := wrA V ((v0 + 1)) 40 v2 x1) (s_sI (ch2_1 hv0)) (fun V2 => ?_)
      refine sb_some (s_gR hv0 rfl) ?_
      refine sb_some (s_gR hv1 rfl) ?_
      refine sb_bindE (s_aI (ch2_2 hv1)) (fun x3 => ?_)
      refine sb_V (o' := wrA V2 ((v0 + 2)) 40 v2 x3) (s_sI (ch2_2 hv0)) (fun V4 => ?_)
      exact ih v0 hv0 v1 hv1 (v2 + 1) V4
def gX2_copy (n : Nat) (v0 : Nat) (v1 : Nat) (V : VT) : Option (VT) :=
  (some (wF V v0 2 (V.F v1 2))).bind fun V1 =>
  gX2_copy_b10 n n v0 v1 0 V1
set_option maxHeartbeats 1000000 in
theorem smX2_copy {E : VE} {n : Nat} {v0 : Nat} {v1 : Nat} {V : VT} (h0 : clsAt v0 = some 2) (h1 : clsAt v1 = some 2) : fX2_copy n v0 v1 (hpV E V) = (gX2_copy n v0 v1 V).map (hpV E) := by
  unfold fX2_copy gX2_copy
  refine sb_some (s_isO h0) ?_
  refine sb_some (s_gI h1 rfl) ?_
  refine sb_V (o' := some (wF V v0 2 (V.F v1 2))) (w2_2 h0) (fun V1 => ?_)
  exact smX2_copy_b10 _ v0 h0 v1 h1 0 V1
def gX7_copy_b10 (n : Nat) : Nat → Nat → Nat → Int32 → VT → Option (VT)
  | 0, _, _, _, _ => none
  | w + 1, v0, v1, v2, V =>
    if (V.F v0 3) ≤ v2 then
    (some V)
    else
    ((rdA 8 (V.A ((v1 + 1))) v2).bind fun x1 =>
    (wrA V ((v0 + 1)) 8 v2 x1).bind fun V2 =>
    (rdA 8 (V2.A ((v1 + 2))) v2).bind fun x3 =>
    (wrA V2 ((v0 + 2)) 8 v2 x3).bind fun V4 =>
    (rdA 8 (V4.A ((v1 + 3))) v2).bind fun x5 =>
    (wrA V4 ((v0 + 3)) 8 v2 (qnar .boolean x5)).bind fun V6 =>
    gX7_copy_b10 n w v0 v1 (v2 + 1) V6)
set_option maxHeartbeats 1000000 in
theorem smX7_copy_b10 {E : VE} {n : Nat} : ∀ (w : Nat) (v0 : Nat) (hv0 : clsAt v0 = some 7) (v1 : Nat) (hv1 : clsAt v1 = some 7) (v2 : Int32)  (V : VT), fX7_copy_b10 n w v0 v1 v2 (hpV E V) = (gX7_copy_b10 n w v0 v1 v2 V).map (hpV E) := by
  intro w
  induction w with
  | zero => intro v0 hv0 v1 hv1 v2 V; rfl
  | succ w ih =>
    intro v0 hv0 v1 hv1 v2 V
    unfold fX7_copy_b10 gX7_copy_b10
    refine sb_some (s_gI hv0 rfl) ?_
    refine sb_ite ?_ ?_
    · rfl
    · refine sb_some (s_gR hv0 rfl) ?_
      refine sb_some (s_gR hv1 rfl) ?_
      refine sb_bindE (s_aI (ch7_1 hv1)) (fun x1 => ?_)
      refine sb_V (o' := wrA V ((v0 + 1)) 8 v2 x1) (s_sI (ch7_1 hv0)) (fun V2 => ?_)
      refine sb_some (s_gR hv0 rfl) ?_
      refine sb_some (s_gR hv1 rfl) ?_
      refine sb_bindE (s_aI (ch7_2 hv1)) (fun x3 => ?_)
      refine sb_V (o' := wrA V2 ((v0 + 2)) 8 v2 x3) (s_sI (ch7_2 hv0)) (fun V4 => ?_)
      refine sb_some (s_gR hv0 rfl) ?_
      refine sb_some (s_gR hv1 rfl) ?_
      refine sb_bindE (s_aI (ch7_3 hv1)) (fun x5 => ?_)
      refine sb_V (o' := wrA V4 ((v0 + 3)) 8 v2 (qnar .boolean x5)) (s_sI (ch7_3 hv0)) (fun V6 => ?_)
      exact ih v0 hv0 v1 hv1 (v2 + 1) V6
def gX7_copy (n : Nat) (v0 : Nat) (v1 : Nat) (V : VT) : Option (VT) :=
  (some (wF V v0 3 (V.F v1 3))).bind fun V1 =>
  gX7_copy_b10 n n v0 v1 0 V1
set_option maxHeartbeats 1000000 in
theorem smX7_copy {E : VE} {n : Nat} {v0 : Nat} {v1 : Nat} {V : VT} (h0 : clsAt v0 = some 7) (h1 : clsAt v1 = some 7) : fX7_copy n v0 v1 (hpV E V) = (gX7_copy n v0 v1 V).map (hpV E) := by
  unfold fX7_copy gX7_copy
  refine sb_some (s_isO h0) ?_
  refine sb_some (s_gI h1 rfl) ?_
  refine sb_V (o' := some (wF V v0 3 (V.F v1 3))) (w7_3 h0) (fun V1 => ?_)
  exact smX7_copy_b10 _ v0 h0 v1 h1 0 V1
def gX3_lay (n : Nat) (v0 : Nat) (v1 : Nat) (v2 : Nat) (v3 : Nat) (V : VT) : Option (VT) :=
  (gX8_copy n ((v0 + 1)) v1 V).bind fun V1 =>
  (gX2_copy n ((v0 + 4)) v2 V1).bind fun V2 =>
  (gX7_copy n ((v0 + 7)) v3 V2).bind fun V3 =>
  (some (wF V3 v0 3 1)).bind fun V4 =>
  some V4
set_option maxHeartbeats 1000000 in
theorem smX3_lay {E : VE} {n : Nat} {v0 : Nat} {v1 : Nat} {v2 : Nat} {v3 : Nat} {V : VT} (h0 : clsAt v0 = some 3) (h1 : clsAt v1 = some 8) (h2 : clsAt v2 = some 2) (h3 : clsAt v3 = some 7) : fX3_lay n v0 v1 v2 v3 (hpV E V) = (gX3_lay n v0 v1 v2 v3 V).map (hpV E) := by
  unfold fX3_lay gX3_lay
  refine sb_some (s_isO h0) ?_
  refine sb_some (s_gR h0 rfl) ?_
  refine sb_V (o' := gX8_copy n ((v0 + 1)) v1 V) (smX8_copy (ch3o_1 h0) h1) (fun V1 => ?_)
  refine sb_some (s_gR h0 rfl) ?_
  refine sb_V (o' := gX2_copy n ((v0 + 4)) v2 V1) (smX2_copy (ch3o_4 h0) h2) (fun V2 => ?_)
  refine sb_some (s_gR h0 rfl) ?_
  refine sb_V (o' := gX7_copy n ((v0 + 7)) v3 V2) (smX7_copy (ch3o_7 h0) h3) (fun V3 => ?_)
  refine sb_V (o' := some (wF V3 v0 3 1)) (w3_3 h0) (fun V4 => ?_)
  rfl
def gX5_find_b2 (n : Nat) : Nat → Nat → Int64 → Int32 → VT → Option (Int32 × VT)
  | 0, _, _, _, _ => none
  | w + 1, v0, v1, v3, V =>
    if (V.F v0 6) ≤ v3 then
    (some ((-1), V))
    else
    ((rdL 7 (V.L ((v0 + 1))) v3).bind fun x1 =>
    if (lg_cmp x1 v1) = 0 then
    (some (v3, V))
    else
    (gX5_find_b2 n w v0 v1 (v3 + 1) V))
set_option maxHeartbeats 1000000 in
theorem smX5_find_b2 {E : VE} {n : Nat} : ∀ (w : Nat) (v0 : Nat) (hv0 : clsAt v0 = some 5) (v1 : Int64)  (v3 : Int32)  (V : VT), fX5_find_b2 n w v0 v1 v3 (hpV E V) = (gX5_find_b2 n w v0 v1 v3 V).map (fun p => (p.1, hpV E p.2)) := by
  intro w
  induction w with
  | zero => intro v0 hv0 v1 v3 V; rfl
  | succ w ih =>
    intro v0 hv0 v1 v3 V
    unfold fX5_find_b2 gX5_find_b2
    refine sb_some (s_gI hv0 rfl) ?_
    refine sb_ite ?_ ?_
    · rfl
    · refine sb_some (s_gR hv0 rfl) ?_
      refine sb_bindE (s_aL (ch5_1 hv0)) (fun x1 => ?_)
      refine sb_ite ?_ ?_
      · rfl
      · exact ih v0 hv0 v1 (v3 + 1) V
def gX5_find (n : Nat) (v0 : Nat) (v1 : Int64) (V : VT) : Option (Int32 × VT) :=
  gX5_find_b2 n n v0 v1 0 V
set_option maxHeartbeats 1000000 in
theorem smX5_find {E : VE} {n : Nat} {v0 : Nat} {v1 : Int64} {V : VT} (h0 : clsAt v0 = some 5)  : fX5_find n v0 v1 (hpV E V) = (gX5_find n v0 v1 V).map (fun p => (p.1, hpV E p.2)) := by
  unfold fX5_find gX5_find
  refine sb_some (s_isO h0) ?_
  exact smX5_find_b2 _ v0 h0 v1 0 V
def gX6_fail (v1 : Int32) (V : VT) : Option (VT) :=
  if (V.F 3 8) = 0 then
  ((some (wF V 3 8 (v1 + (16 * (V.F 3 3))))).bind fun V1 =>
  some V1)
  else
  (some V)
set_option maxHeartbeats 1000000 in
theorem smX6_fail {E : VE} {v1 : Int32} {V : VT}  : fX6_fail 3 v1 (hpV E V) = (gX6_fail v1 V).map (hpV E) := by
  unfold fX6_fail gX6_fail
  refine sb_some (s_isO rfl) ?_
  refine sb_some (s_gI rfl rfl) ?_
  refine sb_ite ?_ ?_
  · refine sb_some (s_gI rfl rfl) ?_
    refine sb_V (o' := some (wF V 3 8 (v1 + (16 * (V.F 3 3))))) (w6_8 rfl) (fun V1 => ?_)
    rfl
  · rfl
def gX6_isType (v1 : Int32) (V : VT) : Option (Int32 × VT) :=
  if (V.F 3 8) = 0 then
  (if (V.F 3 4) = v1 then
  (some (1, V))
  else
  (some (0, V)))
  else
  (some (0, V))
set_option maxHeartbeats 1000000 in
theorem smX6_isType {E : VE} {v1 : Int32} {V : VT}  : fX6_isType 3 v1 (hpV E V) = (gX6_isType v1 V).map (fun p => (p.1, hpV E p.2)) := by
  unfold fX6_isType gX6_isType
  refine sb_some (s_isO rfl) ?_
  refine sb_some (s_gI rfl rfl) ?_
  refine sb_ite ?_ ?_
  · refine sb_some (s_gI rfl rfl) ?_
    refine sb_ite ?_ ?_
    · rfl
    · rfl
  · rfl
def gX6_isName  (V : VT) : Option (Int32 × VT) :=
  (gX6_isType 2 V).bind fun p1 =>
  if p1.1 = 0 then
  (some (0, p1.2))
  else
  (if (p1.2.F 3 7) < 18 then
  (some (0, p1.2))
  else
  (some (1, p1.2)))
set_option maxHeartbeats 1000000 in
theorem smX6_isName {E : VE}  {V : VT}  : fX6_isName 3 (hpV E V) = (gX6_isName  V).map (fun p => (p.1, hpV E p.2)) := by
  unfold fX6_isName gX6_isName
  refine sb_some (s_isO rfl) ?_
  refine sb_P (o' := gX6_isType 2 V) (smX6_isType) (fun p1 => ?_)
  refine sb_ite ?_ ?_
  · rfl
  · refine sb_some (s_gI rfl rfl) ?_
    refine sb_ite ?_ ?_
    · rfl
    · rfl
def gX4_matterHere (n : Nat) (v1 : Nat) (V : VT) : Option (Int32 × VT) :=
  (gX6_isName V).bind fun p1 =>
  if p1.1 = 0 then
  ((gX6_fail 1 p1.2).bind fun V4 =>
  some ((-1), V4))
  else
  ((gX5_find n v1 (p1.2.G 3 6) p1.2).bind fun p2 =>
  if p2.1 = ((-1)) then
  ((gX6_fail 2 p2.2).bind fun V3 =>
  some (p2.1, V3))
  else
  (some (p2.1, p2.2)))
set_option maxHeartbeats 1000000 in
theorem smX4_matterHere {E : VE} {n : Nat} {v1 : Nat} {V : VT} (h1 : clsAt v1 = some 5) : fX4_matterHere n 5 v1 (hpV E V) = (gX4_matterHere n v1 V).map (fun p => (p.1, hpV E p.2)) := by
  unfold fX4_matterHere gX4_matterHere
  refine sb_some (s_isO rfl) ?_
  refine sb_some (s_gR rfl rfl) ?_
  refine sb_P (o' := gX6_isName V) (smX6_isName) (fun p1 => ?_)
  refine sb_ite ?_ ?_
  · refine sb_some (s_gR rfl rfl) ?_
    refine sb_V (o' := gX6_fail 1 p1.2) (smX6_fail) (fun V4 => ?_)
    rfl
  · refine sb_some (s_gR rfl rfl) ?_
    refine sb_some (s_gL rfl rfl) ?_
    refine sb_P (o' := gX5_find n v1 (p1.2.G 3 6) p1.2) (smX5_find h1) (fun p2 => ?_)
    refine sb_ite ?_ ?_
    · refine sb_some (s_gR rfl rfl) ?_
      refine sb_V (o' := gX6_fail 2 p2.2) (smX6_fail) (fun V3 => ?_)
      rfl
    · rfl
def gX6_isDigit (v0 : Int32) (V : VT) : Option (Int32 × VT) :=
  if v0 < 48 then
  (some (0, V))
  else
  (if 57 < v0 then
  (some (0, V))
  else
  (some (1, V)))
set_option maxHeartbeats 1000000 in
theorem smX6_isDigit {E : VE} {v0 : Int32} {V : VT}  : fX6_isDigit v0 (hpV E V) = (gX6_isDigit v0 V).map (fun p => (p.1, hpV E p.2)) := by
  unfold fX6_isDigit gX6_isDigit
  refine sb_ite ?_ ?_
  · rfl
  · refine sb_ite ?_ ?_
    · rfl
    · rfl
def gX6_isLetter (v0 : Int32) (V : VT) : Option (Int32 × VT) :=
  if v0 < 97 then
  (some (0, V))
  else
  (if 122 < v0 then
  (some (0, V))
  else
  (some (1, V)))
set_option maxHeartbeats 1000000 in
theorem smX6_isLetter {E : VE} {v0 : Int32} {V : VT}  : fX6_isLetter v0 (hpV E V) = (gX6_isLetter v0 V).map (fun p => (p.1, hpV E p.2)) := by
  unfold fX6_isLetter gX6_isLetter
  refine sb_ite ?_ ?_
  · rfl
  · refine sb_ite ?_ ?_
    · rfl
    · rfl
def gX6_isSign (v0 : Int32) (V : VT) : Option (Int32 × VT) :=
  if v0 = 40 then
  (some (1, V))
  else
  (if v0 = 41 then
  (some (1, V))
  else
  (if v0 = 42 then
  (some (1, V))
  else
  (if v0 = 43 then
  (some (1, V))
  else
  (if v0 = 44 then
  (some (0, V))
  else
  (if v0 = 45 then
  (some (1, V))
  else
  (if v0 = 46 then
  (some (0, V))
  else
  (if v0 = 47 then
  (some (0, V))
  else
  (if v0 = 48 then
  (some (0, V))
  else
  (if v0 = 49 then
  (some (0, V))
  else
  (if v0 = 50 then
  (some (0, V))
  else
  (if v0 = 51 then
  (some (0, V))
  else
  (if v0 = 52 then
  (some (0, V))
  else
  (if v0 = 53 then
  (some (0, V))
  else
  (if v0 = 54 then
  (some (0, V))
  else
  (if v0 = 55 then
  (some (0, V))
  else
  (if v0 = 56 then
  (some (0, V))
  else
  (if v0 = 57 then
  (some (0, V))
  else
  (if v0 = 58 then
  (some (0, V))
  else
  (if v0 = 59 then
  (some (1, V))
  else
  (if v0 = 60 then
  (some (1, V))
  else
  (if v0 = 61 then
  (some (1, V))
  else
  (some (0, V)))))))))))))))))))))))
set_option maxHeartbeats 1000000 in
theorem smX6_isSign {E : VE} {v0 : Int32} {V : VT}  : fX6_isSign v0 (hpV E V) = (gX6_isSign v0 V).map (fun p => (p.1, hpV E p.2)) := by
  unfold fX6_isSign gX6_isSign
  refine sb_ite ?_ ?_
  · rfl
  · refine sb_ite ?_ ?_
    · rfl
    · refine sb_ite ?_ ?_
      · rfl
      · refine sb_ite ?_ ?_
        · rfl
        · refine sb_ite ?_ ?_
          · rfl
          · refine sb_ite ?_ ?_
            · rfl
            · refine sb_ite ?_ ?_
              · rfl
              · refine sb_ite ?_ ?_
                · rfl
                · refine sb_ite ?_ ?_
                  · rfl
                  · refine sb_ite ?_ ?_
                    · rfl
                    · refine sb_ite ?_ ?_
                      · rfl
                      · refine sb_ite ?_ ?_
                        · rfl
                        · refine sb_ite ?_ ?_
                          · rfl
                          · refine sb_ite ?_ ?_
                            · rfl
                            · refine sb_ite ?_ ?_
                              · rfl
                              · refine sb_ite ?_ ?_
                                · rfl
                                · refine sb_ite ?_ ?_
                                  · rfl
                                  · refine sb_ite ?_ ?_
                                    · rfl
                                    · refine sb_ite ?_ ?_
                                      · rfl
                                      · refine sb_ite ?_ ?_
                                        · rfl
                                        · refine sb_ite ?_ ?_
                                          · rfl
                                          · refine sb_ite ?_ ?_
                                            · rfl
                                            · rfl
def gX6_signAt (v1 : Int32) (V : VT) : Option (Int32 × VT) :=
  if v1 < 0 then
  (some (0, V))
  else
  (if (V.F 3 1) ≤ v1 then
  (some (0, V))
  else
  (if 1000 ≤ v1 then
  (some (0, V))
  else
  ((rdA 1000 (V.A 4) v1).bind fun x1 =>
  some (x1, V))))
set_option maxHeartbeats 1000000 in
theorem smX6_signAt {E : VE} {v1 : Int32} {V : VT}  : fX6_signAt 3 v1 (hpV E V) = (gX6_signAt v1 V).map (fun p => (p.1, hpV E p.2)) := by
  unfold fX6_signAt gX6_signAt
  refine sb_some (s_isO rfl) ?_
  refine sb_ite ?_ ?_
  · rfl
  · refine sb_some (s_gI rfl rfl) ?_
    refine sb_ite ?_ ?_
    · rfl
    · refine sb_some (s_gR rfl rfl) ?_
      refine sb_some (x := 1000) (s_aN rfl) ?_
      refine sb_ite ?_ ?_
      · rfl
      · refine sb_some (s_gR rfl rfl) ?_
        refine sb_bindE (s_aI rfl) (fun x1 => ?_)
        rfl
def gX6_readNumber_b86 (n : Nat) (s0 : Int32) (V : VT) : Option (VT) :=
  (some (wF V 3 4 s0)).bind fun V1 =>
  some V1
set_option maxHeartbeats 1000000 in
theorem smX6_readNumber_b86 {E : VE} {n : Nat} {s0 : Int32} {V : VT}  : fX6_readNumber_b86 n s0 3 (hpV E V) = (gX6_readNumber_b86 n s0 V).map (hpV E) := by
  unfold fX6_readNumber_b86 gX6_readNumber_b86
  refine sb_V (o' := some (wF V 3 4 s0)) (w6_4 rfl) (fun V1 => ?_)
  rfl
def gX6_readNumber_b67 (n : Nat)  (V : VT) : Option (VT) :=
  if 4 < ((V.F 3 2) - (V.F 3 3)) then
  (gX6_readNumber_b86 n 1 V)
  else
  (gX6_readNumber_b86 n 3 V)
set_option maxHeartbeats 1000000 in
theorem smX6_readNumber_b67 {E : VE} {n : Nat}  {V : VT}  : fX6_readNumber_b67 n 3 (hpV E V) = (gX6_readNumber_b67 n  V).map (hpV E) := by
  unfold fX6_readNumber_b67 gX6_readNumber_b67
  refine sb_some (s_gI rfl rfl) ?_
  refine sb_some (s_gI rfl rfl) ?_
  refine sb_ite ?_ ?_
  · exact smX6_readNumber_b86
  · exact smX6_readNumber_b86
def gX6_readNumber_b7 (n : Nat) : Nat → Int32 → VT → Option (VT)
  | 0, _, _ => none
  | w + 1, v1, V =>
    if 1000 ≤ v1 then
    (gX6_readNumber_b67 n V)
    else
    ((gX6_signAt (V.F 3 2) V).bind fun p1 =>
    (gX6_isDigit p1.1 p1.2).bind fun p2 =>
    if p2.1 = 0 then
    (gX6_readNumber_b67 n p2.2)
    else
    ((gX6_signAt (p2.2.F 3 2) p2.2).bind fun p3 =>
    (some (wF p3.2 3 5 (((p2.2.F 3 5) * 10) + (p3.1 - 48)))).bind fun V4 =>
    (some (wF V4 3 2 ((V4.F 3 2) + 1))).bind fun V5 =>
    gX6_readNumber_b7 n w (v1 + 1) V5))
set_option maxHeartbeats 1000000 in
theorem smX6_readNumber_b7 {E : VE} {n : Nat} : ∀ (w : Nat) (v1 : Int32)  (V : VT), fX6_readNumber_b7 n w 3 v1 (hpV E V) = (gX6_readNumber_b7 n w v1 V).map (hpV E) := by
  intro w
  induction w with
  | zero => intro v1 V; rfl
  | succ w ih =>
    intro v1 V
    unfold fX6_readNumber_b7 gX6_readNumber_b7
    refine sb_ite ?_ ?_
    · exact smX6_readNumber_b67
    · refine sb_some (s_gI rfl rfl) ?_
      refine sb_P (o' := gX6_signAt (V.F 3 2) V) (smX6_signAt) (fun p1 => ?_)
      refine sb_P (o' := gX6_isDigit p1.1 p1.2) (smX6_isDigit) (fun p2 => ?_)
      refine sb_ite ?_ ?_
      · exact smX6_readNumber_b67
      · refine sb_some (s_gI rfl rfl) ?_
        refine sb_some (s_gI rfl rfl) ?_
        refine sb_P (o' := gX6_signAt (p2.2.F 3 2) p2.2) (smX6_signAt) (fun p3 => ?_)
        refine sb_V (o' := some (wF p3.2 3 5 (((p2.2.F 3 5) * 10) + (p3.1 - 48)))) (w6_5 rfl) (fun V4 => ?_)
        refine sb_some (s_gI rfl rfl) ?_
        refine sb_V (o' := some (wF V4 3 2 ((V4.F 3 2) + 1))) (w6_2 rfl) (fun V5 => ?_)
        exact ih (v1 + 1) V5
def gX6_readNumber (n : Nat)  (V : VT) : Option (VT) :=
  (some (wF V 3 5 0)).bind fun V1 =>
  gX6_readNumber_b7 n n 0 V1
set_option maxHeartbeats 1000000 in
theorem smX6_readNumber {E : VE} {n : Nat}  {V : VT}  : fX6_readNumber n 3 (hpV E V) = (gX6_readNumber n  V).map (hpV E) := by
  unfold fX6_readNumber gX6_readNumber
  refine sb_some (s_isO rfl) ?_
  refine sb_V (o' := some (wF V 3 5 0)) (w6_5 rfl) (fun V1 => ?_)
  exact smX6_readNumber_b7 _ 0 V1
def gX6_keyOf_b7 (n : Nat) : Nat → Int64 → Int32 → Int64 → Int32 → VT → Option (Int32 × VT)
  | 0, _, _, _, _, _ => none
  | w + 1, v0, v2, v3, v5, V =>
    if sLen ≤ v5 then
    (some (22, V))
    else
    ((sAt v5).bind fun x1 =>
    if x1 = 32 then
    (if (lg_cmp v3 v0) = 0 then
    (some (v2, V))
    else
    (gX6_keyOf_b7 n w v0 (v2 + 1) 0 (v5 + 1) V))
    else
    (gX6_keyOf_b7 n w v0 v2 ((v3 * 32) + (((x1 - 97) + 1).toInt64)) (v5 + 1) V))
set_option maxHeartbeats 1000000 in
theorem smX6_keyOf_b7 {E : VE} {n : Nat} : ∀ (w : Nat) (v0 : Int64)  (v2 : Int32)  (v3 : Int64)  (v5 : Int32)  (V : VT), fX6_keyOf_b7 n w v0 v2 v3 v5 (hpV E V) = (gX6_keyOf_b7 n w v0 v2 v3 v5 V).map (fun p => (p.1, hpV E p.2)) := by
  intro w
  induction w with
  | zero => intro v0 v2 v3 v5 V; rfl
  | succ w ih =>
    intro v0 v2 v3 v5 V
    unfold fX6_keyOf_b7 gX6_keyOf_b7
    refine sb_ite ?_ ?_
    · rfl
    · refine sb_bind (fun x1 => ?_)
      refine sb_ite ?_ ?_
      · refine sb_ite ?_ ?_
        · rfl
        · exact ih v0 (v2 + 1) 0 (v5 + 1) V
      · exact ih v0 v2 ((v3 * 32) + (((x1 - 97) + 1).toInt64)) (v5 + 1) V
def gX6_keyOf (n : Nat) (v0 : Int64) (V : VT) : Option (Int32 × VT) :=
  gX6_keyOf_b7 n n v0 0 0 0 V
set_option maxHeartbeats 1000000 in
theorem smX6_keyOf {E : VE} {n : Nat} {v0 : Int64} {V : VT}  : fX6_keyOf n v0 (hpV E V) = (gX6_keyOf n v0 V).map (fun p => (p.1, hpV E p.2)) := by
  unfold fX6_keyOf gX6_keyOf
  exact smX6_keyOf_b7 _ v0 0 0 0 V
def gX6_readWord_b91 (n : Nat) (s0 : Int32) (V : VT) : Option (VT) :=
  (some (wF V 3 4 s0)).bind fun V1 =>
  (gX6_keyOf n (V1.G 3 6) V1).bind fun p2 =>
  (some (wF p2.2 3 7 p2.1)).bind fun V3 =>
  some V3
set_option maxHeartbeats 1000000 in
theorem smX6_readWord_b91 {E : VE} {n : Nat} {s0 : Int32} {V : VT}  : fX6_readWord_b91 n 3 s0 3 (hpV E V) = (gX6_readWord_b91 n s0 V).map (hpV E) := by
  unfold fX6_readWord_b91 gX6_readWord_b91
  refine sb_V (o' := some (wF V 3 4 s0)) (w6_4 rfl) (fun V1 => ?_)
  refine sb_some (s_gL rfl rfl) ?_
  refine sb_P (o' := gX6_keyOf n (V1.G 3 6) V1) (smX6_keyOf) (fun p2 => ?_)
  refine sb_V (o' := some (wF p2.2 3 7 p2.1)) (w6_7 rfl) (fun V3 => ?_)
  rfl
def gX6_readWord_b71 (n : Nat)  (V : VT) : Option (VT) :=
  if 8 < ((V.F 3 2) - (V.F 3 3)) then
  (gX6_readWord_b91 n 1 V)
  else
  (gX6_readWord_b91 n 2 V)
set_option maxHeartbeats 1000000 in
theorem smX6_readWord_b71 {E : VE} {n : Nat}  {V : VT}  : fX6_readWord_b71 n 3 (hpV E V) = (gX6_readWord_b71 n  V).map (hpV E) := by
  unfold fX6_readWord_b71 gX6_readWord_b71
  refine sb_some (s_gI rfl rfl) ?_
  refine sb_some (s_gI rfl rfl) ?_
  refine sb_ite ?_ ?_
  · exact smX6_readWord_b91
  · exact smX6_readWord_b91
def gX6_readWord_b7 (n : Nat) : Nat → Int32 → VT → Option (VT)
  | 0, _, _ => none
  | w + 1, v1, V =>
    if 1000 ≤ v1 then
    (gX6_readWord_b71 n V)
    else
    ((gX6_signAt (V.F 3 2) V).bind fun p1 =>
    (gX6_isLetter p1.1 p1.2).bind fun p2 =>
    if p2.1 = 0 then
    (gX6_readWord_b71 n p2.2)
    else
    ((gX6_signAt (p2.2.F 3 2) p2.2).bind fun p3 =>
    (some (wG p3.2 3 6 (((p2.2.G 3 6) * 32) + (((p3.1 - 97) + 1).toInt64)))).bind fun V4 =>
    (some (wF V4 3 2 ((V4.F 3 2) + 1))).bind fun V5 =>
    gX6_readWord_b7 n w (v1 + 1) V5))
set_option maxHeartbeats 1000000 in
theorem smX6_readWord_b7 {E : VE} {n : Nat} : ∀ (w : Nat) (v1 : Int32)  (V : VT), fX6_readWord_b7 n w 3 v1 (hpV E V) = (gX6_readWord_b7 n w v1 V).map (hpV E) := by
  intro w
  induction w with
  | zero => intro v1 V; rfl
  | succ w ih =>
    intro v1 V
    unfold fX6_readWord_b7 gX6_readWord_b7
    refine sb_ite ?_ ?_
    · exact smX6_readWord_b71
    · refine sb_some (s_gI rfl rfl) ?_
      refine sb_P (o' := gX6_signAt (V.F 3 2) V) (smX6_signAt) (fun p1 => ?_)
      refine sb_P (o' := gX6_isLetter p1.1 p1.2) (smX6_isLetter) (fun p2 => ?_)
      refine sb_ite ?_ ?_
      · exact smX6_readWord_b71
      · refine sb_some (s_gL rfl rfl) ?_
        refine sb_some (s_gI rfl rfl) ?_
        refine sb_P (o' := gX6_signAt (p2.2.F 3 2) p2.2) (smX6_signAt) (fun p3 => ?_)
        refine sb_V (o' := some (wG p3.2 3 6 (((p2.2.G 3 6) * 32) + (((p3.1 - 97) + 1).toInt64)))) (w6_6 rfl) (fun V4 => ?_)
        refine sb_some (s_gI rfl rfl) ?_
        refine sb_V (o' := some (wF V4 3 2 ((V4.F 3 2) + 1))) (w6_2 rfl) (fun V5 => ?_)
        exact ih (v1 + 1) V5
def gX6_readWord (n : Nat)  (V : VT) : Option (VT) :=
  (some (wG V 3 6 0)).bind fun V1 =>
  gX6_readWord_b7 n n 0 V1
set_option maxHeartbeats 1000000 in
theorem smX6_readWord {E : VE} {n : Nat}  {V : VT}  : fX6_readWord n 3 (hpV E V) = (gX6_readWord n  V).map (hpV E) := by
  unfold fX6_readWord gX6_readWord
  refine sb_some (s_isO rfl) ?_
  refine sb_V (o' := some (wG V 3 6 0)) (w6_6 rfl) (fun V1 => ?_)
  exact smX6_readWord_b7 _ 0 V1
def gX6_advance_b127 (n : Nat) (s0 : Int32) (V : VT) : Option (VT) :=
  (some (wF V 3 4 s0)).bind fun V1 =>
  (some (wF V1 3 2 ((V1.F 3 2) + 1))).bind fun V2 =>
  some V2
set_option maxHeartbeats 1000000 in
theorem smX6_advance_b127 {E : VE} {n : Nat} {s0 : Int32} {V : VT}  : fX6_advance_b127 n 3 s0 3 (hpV E V) = (gX6_advance_b127 n s0 V).map (hpV E) := by
  unfold fX6_advance_b127 gX6_advance_b127
  refine sb_V (o' := some (wF V 3 4 s0)) (w6_4 rfl) (fun V1 => ?_)
  refine sb_some (s_gI rfl rfl) ?_
  refine sb_V (o' := some (wF V1 3 2 ((V1.F 3 2) + 1))) (w6_2 rfl) (fun V2 => ?_)
  rfl
def gX6_advance_b50 (n : Nat)  (V : VT) : Option (VT) :=
  (some (wF V 3 3 (V.F 3 2))).bind fun V1 =>
  (gX6_signAt (V1.F 3 2) V1).bind fun p2 =>
  if (p2.2.F 3 2) < (p2.2.F 3 1) then
  ((gX6_isLetter p2.1 p2.2).bind fun p3 =>
  if p3.1 = 0 then
  ((gX6_isDigit p2.1 p3.2).bind fun p4 =>
  if p4.1 = 0 then
  ((gX6_isSign p2.1 p4.2).bind fun p5 =>
  if p5.1 = 0 then
  (gX6_advance_b127 n 1 p5.2)
  else
  (gX6_advance_b127 n p2.1 p5.2))
  else
  ((gX6_readNumber n p4.2).bind fun V6 =>
  some V6))
  else
  ((gX6_readWord n p3.2).bind fun V7 =>
  some V7))
  else
  ((some (wF p2.2 3 4 0)).bind fun V8 =>
  some V8)
set_option maxHeartbeats 1000000 in
theorem smX6_advance_b50 {E : VE} {n : Nat}  {V : VT}  : fX6_advance_b50 n 3 (hpV E V) = (gX6_advance_b50 n  V).map (hpV E) := by
  unfold fX6_advance_b50 gX6_advance_b50
  refine sb_some (s_gI rfl rfl) ?_
  refine sb_V (o' := some (wF V 3 3 (V.F 3 2))) (w6_3 rfl) (fun V1 => ?_)
  refine sb_some (s_gI rfl rfl) ?_
  refine sb_P (o' := gX6_signAt (V1.F 3 2) V1) (smX6_signAt) (fun p2 => ?_)
  refine sb_some (s_gI rfl rfl) ?_
  refine sb_some (s_gI rfl rfl) ?_
  refine sb_ite ?_ ?_
  · refine sb_P (o' := gX6_isLetter p2.1 p2.2) (smX6_isLetter) (fun p3 => ?_)
    refine sb_ite ?_ ?_
    · refine sb_P (o' := gX6_isDigit p2.1 p3.2) (smX6_isDigit) (fun p4 => ?_)
      refine sb_ite ?_ ?_
      · refine sb_P (o' := gX6_isSign p2.1 p4.2) (smX6_isSign) (fun p5 => ?_)
        refine sb_ite ?_ ?_
        · exact smX6_advance_b127
        · exact smX6_advance_b127
      · refine sb_V (o' := gX6_readNumber n p4.2) (smX6_readNumber) (fun V6 => ?_)
        rfl
    · refine sb_V (o' := gX6_readWord n p3.2) (smX6_readWord) (fun V7 => ?_)
      rfl
  · refine sb_V (o' := some (wF p2.2 3 4 0)) (w6_4 rfl) (fun V8 => ?_)
    rfl
def gX6_advance_b37 (n : Nat) (K0 : VT → Option (VT))  (V : VT) : Option (VT) :=
  (some (wF V 3 2 ((V.F 3 2) + 1))).bind fun V1 =>
  K0 V1
set_option maxHeartbeats 1000000 in
theorem smX6_advance_b37 {E : VE} {n : Nat} {K0 : VT → Option (VT)} {k0 : Nat → qH → Option (qH)}  {V : VT} (hK0 : ∀ (V : VT), k0 3 (hpV E V) = (K0  V).map (hpV E))  : fX6_advance_b37 n k0 3 (hpV E V) = (gX6_advance_b37 n K0  V).map (hpV E) := by
  unfold fX6_advance_b37 gX6_advance_b37
  refine sb_some (s_gI rfl rfl) ?_
  refine sb_V (o' := some (wF V 3 2 ((V.F 3 2) + 1))) (w6_2 rfl) (fun V1 => ?_)
  exact hK0 V1
def gX6_advance_b0 (n : Nat) : Nat → VT → Option (VT)
  | 0, _ => none
  | w + 1, V =>
    if (V.F 3 1) ≤ (V.F 3 2) then
    (gX6_advance_b50 n V)
    else
    ((gX6_signAt (V.F 3 2) V).bind fun p1 =>
    if p1.1 = 32 then
    (gX6_advance_b37 n (gX6_advance_b0 n w) p1.2)
    else
    ((gX6_signAt (p1.2.F 3 2) p1.2).bind fun p2 =>
    if p2.1 = 10 then
    (gX6_advance_b37 n (gX6_advance_b0 n w) p2.2)
    else
    (gX6_advance_b50 n p2.2)))
set_option maxHeartbeats 1000000 in
theorem smX6_advance_b0 {E : VE} {n : Nat} : ∀ (w : Nat) (V : VT), fX6_advance_b0 n w 3 (hpV E V) = (gX6_advance_b0 n w  V).map (hpV E) := by
  intro w
  induction w with
  | zero => intro  V; rfl
  | succ w ih =>
    intro  V
    unfold fX6_advance_b0 gX6_advance_b0
    refine sb_some (s_gI rfl rfl) ?_
    refine sb_some (s_gI rfl rfl) ?_
    refine sb_ite ?_ ?_
    · exact smX6_advance_b50
    · refine sb_some (s_gI rfl rfl) ?_
      refine sb_P (o' := gX6_signAt (V.F 3 2) V) (smX6_signAt) (fun p1 => ?_)
      refine sb_ite ?_ ?_
      · exact smX6_advance_b37 ih
      · refine sb_some (s_gI rfl rfl) ?_
        refine sb_P (o' := gX6_signAt (p1.2.F 3 2) p1.2) (smX6_signAt) (fun p2 => ?_)
        refine sb_ite ?_ ?_
        · exact smX6_advance_b37 ih
        · exact smX6_advance_b50
def gX6_advance (n : Nat)  (V : VT) : Option (VT) :=
  gX6_advance_b0 n n V
set_option maxHeartbeats 1000000 in
theorem smX6_advance {E : VE} {n : Nat}  {V : VT}  : fX6_advance n 3 (hpV E V) = (gX6_advance n  V).map (hpV E) := by
  unfold fX6_advance gX6_advance
  refine sb_some (s_isO rfl) ?_
  exact smX6_advance_b0 _ V
