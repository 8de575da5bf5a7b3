/-! Functions over the views, and that the functions over the abstract heap are these (written by gen2.py). -/
def gX10_puts (v1 : Int32) (V : VT) : Option (VT) :=
  (wrA V 147 2000 (V.F 137 19) v1).bind fun V1 =>
  (some (wF V1 137 19 ((V1.F 137 19) + 1))).bind fun V2 =>
  some V2
set_option maxHeartbeats 1000000 in
theorem smX10_puts {E : VE} {v1 : Int32} {V : VT}  : fX10_puts 137 v1 (hpV E V) = (gX10_puts v1 V).map (hpV E) := by
  unfold fX10_puts gX10_puts
  refine sb_some (s_isO rfl) ?_
  refine sb_some (s_gR rfl rfl) ?_
  refine sb_some (s_gI rfl rfl) ?_
  refine sb_V (o' := wrA V 147 2000 (V.F 137 19) v1) (s_sI rfl) (fun V1 => ?_)
  refine sb_some (s_gI rfl rfl) ?_
  refine sb_V (o' := some (wF V1 137 19 ((V1.F 137 19) + 1))) (w10_19 rfl) (fun V2 => ?_)
  rfl
def gX10_reads_b424 (n : Nat) (K11 : Int32 → Int32 → VT → Option (Int32 × VT)) (v1 : Int32) (v2 : Int32) (V : VT) : Option (Int32 × VT) :=
  (gX10_nextToken n V).bind fun V1 =>
  K11 v1 v2 V1
set_option maxHeartbeats 1000000 in
theorem smX10_reads_b424 {E : VE} {n : Nat} {K11 : Int32 → Int32 → VT → Option (Int32 × VT)} {k11 : Nat → Int32 → Int32 → qH → Option (Int32 × qH)} {v1 : Int32} {v2 : Int32} {V : VT} (hK11 : ∀ (v1 : Int32)  (v2 : Int32)  (V : VT), k11 137 v1 v2 (hpV E V) = (K11 v1 v2 V).map (fun p => (p.1, hpV E p.2)))   : fX10_reads_b424 n k11 137 v1 v2 (hpV E V) = (gX10_reads_b424 n K11 v1 v2 V).map (fun p => (p.1, hpV E p.2)) := by
  unfold fX10_reads_b424 gX10_reads_b424
  refine sb_V (o' := gX10_nextToken n V) (smX10_nextToken) (fun V1 => ?_)
  exact hK11 v1 v2 V1
def gX10_reads_b418 (n : Nat)  (V : VT) : Option (Int32 × VT) :=
  (gX10_fails 1 V).bind fun p1 =>
  (qB p1.1).bind fun _ =>
  some (p1.1, p1.2)
set_option maxHeartbeats 1000000 in
theorem smX10_reads_b418 {E : VE} {n : Nat}  {V : VT}  : fX10_reads_b418 n 137 (hpV E V) = (gX10_reads_b418 n  V).map (fun p => (p.1, hpV E p.2)) := by
  unfold fX10_reads_b418 gX10_reads_b418
  refine sb_P (o' := gX10_fails 1 V) (smX10_fails) (fun p1 => ?_)
  refine sb_bind (fun _ => ?_)
  rfl
def gX10_reads_b399 (n : Nat) (v1 : Int32) (V : VT) : Option (Int32 × VT) :=
  if v1 = 0 then
  ((gX10_isSign 59 V).bind fun p1 =>
  if p1.1 = 0 then
  (gX10_reads_b418 n p1.2)
  else
  ((gX10_nextToken n p1.2).bind fun V2 =>
  some (1, V2)))
  else
  (gX10_reads_b418 n V)
set_option maxHeartbeats 1000000 in
theorem smX10_reads_b399 {E : VE} {n : Nat} {v1 : Int32} {V : VT}  : fX10_reads_b399 n 137 v1 (hpV E V) = (gX10_reads_b399 n v1 V).map (fun p => (p.1, hpV E p.2)) := by
  unfold fX10_reads_b399 gX10_reads_b399
  refine sb_ite ?_ ?_
  · refine sb_P (o' := gX10_isSign 59 V) (smX10_isSign) (fun p1 => ?_)
    refine sb_ite ?_ ?_
    · exact smX10_reads_b418
    · refine sb_V (o' := gX10_nextToken n p1.2) (smX10_nextToken) (fun V2 => ?_)
      rfl
  · exact smX10_reads_b418
def gX10_reads_b379 (n : Nat) (K11 : Int32 → Int32 → VT → Option (Int32 × VT)) : Nat → Int32 → Int32 → VT → Option (Int32 × VT)
  | 0, _, _, _ => none
  | w + 1, v1, v2, V =>
    if v1 ≤ 0 then
    (gX10_reads_b424 n K11 v1 v2 V)
    else
    ((rdA 7 (V.A 148) v1).bind fun x1 =>
    if x1 = 1 then
    (gX10_reads_b379 n K11 w (v1 + (-1)) v2 V)
    else
    (gX10_reads_b424 n K11 v1 v2 V))
set_option maxHeartbeats 1000000 in
theorem smX10_reads_b379 {E : VE} {n : Nat} {K11 : Int32 → Int32 → VT → Option (Int32 × VT)} {k11 : Nat → Int32 → Int32 → qH → Option (Int32 × qH)} (hK11 : ∀ (v1 : Int32)  (v2 : Int32)  (V : VT), k11 137 v1 v2 (hpV E V) = (K11 v1 v2 V).map (fun p => (p.1, hpV E p.2))) : ∀ (w : Nat) (v1 : Int32)  (v2 : Int32)  (V : VT), fX10_reads_b379 n k11 w 137 v1 v2 (hpV E V) = (gX10_reads_b379 n K11 w v1 v2 V).map (fun p => (p.1, hpV E p.2)) := by
  intro w
  induction w with
  | zero => intro v1 v2 V; rfl
  | succ w ih =>
    intro v1 v2 V
    unfold fX10_reads_b379 gX10_reads_b379
    refine sb_ite ?_ ?_
    · exact smX10_reads_b424 hK11
    · refine sb_some (s_gR rfl rfl) ?_
      refine sb_bindE (s_aI rfl) (fun x1 => ?_)
      refine sb_ite ?_ ?_
      · exact ih (v1 + (-1)) v2 V
      · exact smX10_reads_b424 hK11
def gX10_reads_b342 (n : Nat) (K11 : Int32 → Int32 → VT → Option (Int32 × VT)) (v1 : Int32) (s0 : Int32) (V : VT) : Option (Int32 × VT) :=
  (gX10_puts s0 V).bind fun V1 =>
  (wrA V1 149 7 v1 (qnar .boolean 0)).bind fun V2 =>
  gX10_reads_b424 n K11 v1 1 V2
set_option maxHeartbeats 1000000 in
theorem smX10_reads_b342 {E : VE} {n : Nat} {K11 : Int32 → Int32 → VT → Option (Int32 × VT)} {k11 : Nat → Int32 → Int32 → qH → Option (Int32 × qH)} {v1 : Int32} {s0 : Int32} {V : VT} (hK11 : ∀ (v1 : Int32)  (v2 : Int32)  (V : VT), k11 137 v1 v2 (hpV E V) = (K11 v1 v2 V).map (fun p => (p.1, hpV E p.2)))   : fX10_reads_b342 n k11 137 v1 s0 137 (hpV E V) = (gX10_reads_b342 n K11 v1 s0 V).map (fun p => (p.1, hpV E p.2)) := by
  unfold fX10_reads_b342 gX10_reads_b342
  refine sb_V (o' := gX10_puts s0 V) (smX10_puts) (fun V1 => ?_)
  refine sb_some (s_gR rfl rfl) ?_
  refine sb_V (o' := wrA V1 149 7 v1 (qnar .boolean 0)) (s_sI rfl) (fun V2 => ?_)
  exact smX10_reads_b424 hK11
def gX10_reads_b324 (n : Nat) (K11 : Int32 → Int32 → VT → Option (Int32 × VT)) (v1 : Int32) (V : VT) : Option (Int32 × VT) :=
  (gX10_isWord 1111 V).bind fun p1 =>
  if p1.1 = 0 then
  (gX10_reads_b342 n K11 v1 27 p1.2)
  else
  (gX10_reads_b342 n K11 v1 26 p1.2)
set_option maxHeartbeats 1000000 in
theorem smX10_reads_b324 {E : VE} {n : Nat} {K11 : Int32 → Int32 → VT → Option (Int32 × VT)} {k11 : Nat → Int32 → Int32 → qH → Option (Int32 × qH)} {v1 : Int32} {V : VT} (hK11 : ∀ (v1 : Int32)  (v2 : Int32)  (V : VT), k11 137 v1 v2 (hpV E V) = (K11 v1 v2 V).map (fun p => (p.1, hpV E p.2)))  : fX10_reads_b324 n k11 137 v1 (hpV E V) = (gX10_reads_b324 n K11 v1 V).map (fun p => (p.1, hpV E p.2)) := by
  unfold fX10_reads_b324 gX10_reads_b324
  refine sb_P (o' := gX10_isWord 1111 V) (smX10_isWord) (fun p1 => ?_)
  refine sb_ite ?_ ?_
  · exact smX10_reads_b342 hK11
  · exact smX10_reads_b342 hK11
def gX10_reads_b304 (n : Nat) (K11 : Int32 → Int32 → VT → Option (Int32 × VT)) (v1 : Int32) (v2 : Int32) (V : VT) : Option (Int32 × VT) :=
  (gX10_isWord 1111 V).bind fun p1 =>
  if p1.1 = 0 then
  ((gX10_isWord 423 p1.2).bind fun p2 =>
  if p2.1 = 0 then
  ((gX10_isSign 41 p2.2).bind fun p3 =>
  if p3.1 = 0 then
  (gX10_reads_b399 n v1 p3.2)
  else
  (if v1 ≤ 0 then
  (gX10_reads_b399 n v1 p3.2)
  else
  ((gX10_puts 29 p3.2).bind fun V4 =>
  gX10_reads_b379 n K11 n (v1 + (-1)) v2 V4)))
  else
  (gX10_reads_b324 n K11 v1 p2.2))
  else
  (gX10_reads_b324 n K11 v1 p1.2)
set_option maxHeartbeats 1000000 in
theorem smX10_reads_b304 {E : VE} {n : Nat} {K11 : Int32 → Int32 → VT → Option (Int32 × VT)} {k11 : Nat → Int32 → Int32 → qH → Option (Int32 × qH)} {v1 : Int32} {v2 : Int32} {V : VT} (hK11 : ∀ (v1 : Int32)  (v2 : Int32)  (V : VT), k11 137 v1 v2 (hpV E V) = (K11 v1 v2 V).map (fun p => (p.1, hpV E p.2)))   : fX10_reads_b304 n k11 137 v1 v2 (hpV E V) = (gX10_reads_b304 n K11 v1 v2 V).map (fun p => (p.1, hpV E p.2)) := by
  unfold fX10_reads_b304 gX10_reads_b304
  refine sb_P (o' := gX10_isWord 1111 V) (smX10_isWord) (fun p1 => ?_)
  refine sb_ite ?_ ?_
  · refine sb_P (o' := gX10_isWord 423 p1.2) (smX10_isWord) (fun p2 => ?_)
    refine sb_ite ?_ ?_
    · refine sb_P (o' := gX10_isSign 41 p2.2) (smX10_isSign) (fun p3 => ?_)
      refine sb_ite ?_ ?_
      · exact smX10_reads_b399
      · refine sb_ite ?_ ?_
        · exact smX10_reads_b399
        · refine sb_V (o' := gX10_puts 29 p3.2) (smX10_puts) (fun V4 => ?_)
          exact smX10_reads_b379 hK11 _ (v1 + (-1)) v2 V4
    · exact smX10_reads_b324 hK11
  · exact smX10_reads_b324 hK11
def gX10_reads_b289 (n : Nat) (K11 : Int32 → Int32 → VT → Option (Int32 × VT)) (v1 : Int32) (s0 : Int32) (V : VT) : Option (Int32 × VT) :=
  (gX10_puts s0 V).bind fun V1 =>
  (wrA V1 149 7 v1 (qnar .boolean 1)).bind fun V2 =>
  gX10_reads_b424 n K11 v1 1 V2
set_option maxHeartbeats 1000000 in
theorem smX10_reads_b289 {E : VE} {n : Nat} {K11 : Int32 → Int32 → VT → Option (Int32 × VT)} {k11 : Nat → Int32 → Int32 → qH → Option (Int32 × qH)} {v1 : Int32} {s0 : Int32} {V : VT} (hK11 : ∀ (v1 : Int32)  (v2 : Int32)  (V : VT), k11 137 v1 v2 (hpV E V) = (K11 v1 v2 V).map (fun p => (p.1, hpV E p.2)))   : fX10_reads_b289 n k11 137 v1 s0 137 (hpV E V) = (gX10_reads_b289 n K11 v1 s0 V).map (fun p => (p.1, hpV E p.2)) := by
  unfold fX10_reads_b289 gX10_reads_b289
  refine sb_V (o' := gX10_puts s0 V) (smX10_puts) (fun V1 => ?_)
  refine sb_some (s_gR rfl rfl) ?_
  refine sb_V (o' := wrA V1 149 7 v1 (qnar .boolean 1)) (s_sI rfl) (fun V2 => ?_)
  exact smX10_reads_b424 hK11
def gX10_reads_b263 (n : Nat) (K11 : Int32 → Int32 → VT → Option (Int32 × VT)) (v1 : Int32) (v2 : Int32) (V : VT) : Option (Int32 × VT) :=
  (rdA 7 (V.A 149) v1).bind fun x1 =>
  if x1 = 0 then
  ((gX10_isSign 60 V).bind fun p2 =>
  if p2.1 = 0 then
  (gX10_reads_b289 n K11 v1 25 p2.2)
  else
  (gX10_reads_b289 n K11 v1 24 p2.2))
  else
  (gX10_reads_b304 n K11 v1 v2 V)
set_option maxHeartbeats 1000000 in
theorem smX10_reads_b263 {E : VE} {n : Nat} {K11 : Int32 → Int32 → VT → Option (Int32 × VT)} {k11 : Nat → Int32 → Int32 → qH → Option (Int32 × qH)} {v1 : Int32} {v2 : Int32} {V : VT} (hK11 : ∀ (v1 : Int32)  (v2 : Int32)  (V : VT), k11 137 v1 v2 (hpV E V) = (K11 v1 v2 V).map (fun p => (p.1, hpV E p.2)))   : fX10_reads_b263 n k11 137 v1 v2 (hpV E V) = (gX10_reads_b263 n K11 v1 v2 V).map (fun p => (p.1, hpV E p.2)) := by
  unfold fX10_reads_b263 gX10_reads_b263
  refine sb_some (s_gR rfl rfl) ?_
  refine sb_bindE (s_aI rfl) (fun x1 => ?_)
  refine sb_ite ?_ ?_
  · refine sb_P (o' := gX10_isSign 60 V) (smX10_isSign) (fun p2 => ?_)
    refine sb_ite ?_ ?_
    · exact smX10_reads_b289 hK11
    · exact smX10_reads_b289 hK11
  · exact smX10_reads_b304 hK11
def gX10_reads_b237 (n : Nat) (K11 : Int32 → Int32 → VT → Option (Int32 × VT)) (v1 : Int32) (s0 : Int32) (V : VT) : Option (Int32 × VT) :=
  (gX10_puts s0 V).bind fun V1 =>
  gX10_reads_b424 n K11 v1 1 V1
set_option maxHeartbeats 1000000 in
theorem smX10_reads_b237 {E : VE} {n : Nat} {K11 : Int32 → Int32 → VT → Option (Int32 × VT)} {k11 : Nat → Int32 → Int32 → qH → Option (Int32 × qH)} {v1 : Int32} {s0 : Int32} {V : VT} (hK11 : ∀ (v1 : Int32)  (v2 : Int32)  (V : VT), k11 137 v1 v2 (hpV E V) = (K11 v1 v2 V).map (fun p => (p.1, hpV E p.2)))   : fX10_reads_b237 n k11 137 v1 s0 137 (hpV E V) = (gX10_reads_b237 n K11 v1 s0 V).map (fun p => (p.1, hpV E p.2)) := by
  unfold fX10_reads_b237 gX10_reads_b237
  refine sb_V (o' := gX10_puts s0 V) (smX10_puts) (fun V1 => ?_)
  exact smX10_reads_b424 hK11
def gX10_reads_b206 (n : Nat) (K11 : Int32 → Int32 → VT → Option (Int32 × VT)) (v1 : Int32) (V : VT) : Option (Int32 × VT) :=
  (gX10_isSign 43 V).bind fun p1 =>
  if p1.1 = 0 then
  ((gX10_isSign 45 p1.2).bind fun p2 =>
  if p2.1 = 0 then
  (gX10_reads_b237 n K11 v1 22 p2.2)
  else
  (gX10_reads_b237 n K11 v1 21 p2.2))
  else
  (gX10_reads_b237 n K11 v1 20 p1.2)
set_option maxHeartbeats 1000000 in
theorem smX10_reads_b206 {E : VE} {n : Nat} {K11 : Int32 → Int32 → VT → Option (Int32 × VT)} {k11 : Nat → Int32 → Int32 → qH → Option (Int32 × qH)} {v1 : Int32} {V : VT} (hK11 : ∀ (v1 : Int32)  (v2 : Int32)  (V : VT), k11 137 v1 v2 (hpV E V) = (K11 v1 v2 V).map (fun p => (p.1, hpV E p.2)))  : fX10_reads_b206 n k11 137 v1 (hpV E V) = (gX10_reads_b206 n K11 v1 V).map (fun p => (p.1, hpV E p.2)) := by
  unfold fX10_reads_b206 gX10_reads_b206
  refine sb_P (o' := gX10_isSign 43 V) (smX10_isSign) (fun p1 => ?_)
  refine sb_ite ?_ ?_
  · refine sb_P (o' := gX10_isSign 45 p1.2) (smX10_isSign) (fun p2 => ?_)
    refine sb_ite ?_ ?_
    · exact smX10_reads_b237 hK11
    · exact smX10_reads_b237 hK11
  · exact smX10_reads_b237 hK11
def gX10_reads_b172 (n : Nat) (K11 : Int32 → Int32 → VT → Option (Int32 × VT)) (v1 : Int32) (v2 : Int32) (V : VT) : Option (Int32 × VT) :=
  (gX10_nextToken n V).bind fun V1 =>
  K11 v1 v2 V1
set_option maxHeartbeats 1000000 in
theorem smX10_reads_b172 {E : VE} {n : Nat} {K11 : Int32 → Int32 → VT → Option (Int32 × VT)} {k11 : Nat → Int32 → Int32 → qH → Option (Int32 × qH)} {v1 : Int32} {v2 : Int32} {V : VT} (hK11 : ∀ (v1 : Int32)  (v2 : Int32)  (V : VT), k11 137 v1 v2 (hpV E V) = (K11 v1 v2 V).map (fun p => (p.1, hpV E p.2)))   : fX10_reads_b172 n k11 137 v1 v2 (hpV E V) = (gX10_reads_b172 n K11 v1 v2 V).map (fun p => (p.1, hpV E p.2)) := by
  unfold fX10_reads_b172 gX10_reads_b172
  refine sb_V (o' := gX10_nextToken n V) (smX10_nextToken) (fun V1 => ?_)
  exact hK11 v1 v2 V1
def gX10_reads_b152 (n : Nat) (K11 : Int32 → Int32 → VT → Option (Int32 × VT)) : Nat → Int32 → Int32 → VT → Option (Int32 × VT)
  | 0, _, _, _ => none
  | w + 1, v1, v2, V =>
    if v1 ≤ 0 then
    (gX10_reads_b172 n K11 v1 v2 V)
    else
    ((rdA 7 (V.A 148) v1).bind fun x1 =>
    if x1 = 1 then
    (gX10_reads_b152 n K11 w (v1 + (-1)) v2 V)
    else
    (gX10_reads_b172 n K11 v1 v2 V))
set_option maxHeartbeats 1000000 in
theorem smX10_reads_b152 {E : VE} {n : Nat} {K11 : Int32 → Int32 → VT → Option (Int32 × VT)} {k11 : Nat → Int32 → Int32 → qH → Option (Int32 × qH)} (hK11 : ∀ (v1 : Int32)  (v2 : Int32)  (V : VT), k11 137 v1 v2 (hpV E V) = (K11 v1 v2 V).map (fun p => (p.1, hpV E p.2))) : ∀ (w : Nat) (v1 : Int32)  (v2 : Int32)  (V : VT), fX10_reads_b152 n k11 w 137 v1 v2 (hpV E V) = (gX10_reads_b152 n K11 w v1 v2 V).map (fun p => (p.1, hpV E p.2)) := by
  intro w
  induction w with
  | zero => intro v1 v2 V; rfl
  | succ w ih =>
    intro v1 v2 V
    unfold fX10_reads_b152 gX10_reads_b152
    refine sb_ite ?_ ?_
    · exact smX10_reads_b172 hK11
    · refine sb_some (s_gR rfl rfl) ?_
      refine sb_bindE (s_aI rfl) (fun x1 => ?_)
      refine sb_ite ?_ ?_
      · exact ih (v1 + (-1)) v2 V
      · exact smX10_reads_b172 hK11
def gX10_reads_b147 (n : Nat) (K11 : Int32 → Int32 → VT → Option (Int32 × VT)) (v1 : Int32) (s0 : Int32) (V : VT) : Option (Int32 × VT) :=
  (gX10_puts s0 V).bind fun V1 =>
  gX10_reads_b152 n K11 n v1 0 V1
set_option maxHeartbeats 1000000 in
theorem smX10_reads_b147 {E : VE} {n : Nat} {K11 : Int32 → Int32 → VT → Option (Int32 × VT)} {k11 : Nat → Int32 → Int32 → qH → Option (Int32 × qH)} {v1 : Int32} {s0 : Int32} {V : VT} (hK11 : ∀ (v1 : Int32)  (v2 : Int32)  (V : VT), k11 137 v1 v2 (hpV E V) = (K11 v1 v2 V).map (fun p => (p.1, hpV E p.2)))   : fX10_reads_b147 n k11 137 v1 s0 137 (hpV E V) = (gX10_reads_b147 n K11 v1 s0 V).map (fun p => (p.1, hpV E p.2)) := by
  unfold fX10_reads_b147 gX10_reads_b147
  refine sb_V (o' := gX10_puts s0 V) (smX10_puts) (fun V1 => ?_)
  exact smX10_reads_b152 hK11 _ v1 0 V1
def gX10_reads_b120 (n : Nat) (K11 : Int32 → Int32 → VT → Option (Int32 × VT)) (v1 : Int32) (v2 : Int32) (s0 : Int32) (s1 : Int32) (s2 : Nat) (ms2 : Nat) (V : VT) : Option (Int32 × VT) :=
  (wrA V s2 ms2 s1 s0).bind fun V1 =>
  (wrA V1 149 7 v1 (qnar .boolean 0)).bind fun V2 =>
  gX10_reads_b172 n K11 v1 v2 V2
set_option maxHeartbeats 1000000 in
theorem smX10_reads_b120 {E : VE} {n : Nat} {K11 : Int32 → Int32 → VT → Option (Int32 × VT)} {k11 : Nat → Int32 → Int32 → qH → Option (Int32 × qH)} {v1 : Int32} {v2 : Int32} {s0 : Int32} {s1 : Int32} {s2 : Nat} {ms2 : Nat} {V : VT} (hK11 : ∀ (v1 : Int32)  (v2 : Int32)  (V : VT), k11 137 v1 v2 (hpV E V) = (K11 v1 v2 V).map (fun p => (p.1, hpV E p.2)))      (hs2 : arrAt s2 = some (.int, ms2)) : fX10_reads_b120 n k11 137 v1 v2 s0 s1 s2 (hpV E V) = (gX10_reads_b120 n K11 v1 v2 s0 s1 s2 ms2 V).map (fun p => (p.1, hpV E p.2)) := by
  unfold fX10_reads_b120 gX10_reads_b120
  refine sb_V (o' := wrA V s2 ms2 s1 s0) (s_sI hs2) (fun V1 => ?_)
  refine sb_some (s_gR rfl rfl) ?_
  refine sb_V (o' := wrA V1 149 7 v1 (qnar .boolean 0)) (s_sI rfl) (fun V2 => ?_)
  exact smX10_reads_b172 hK11
def gX10_reads_b99 (n : Nat) (K11 : Int32 → Int32 → VT → Option (Int32 × VT)) (v1 : Int32) (v2 : Int32) (v4 : Int32) (s0 : Int32) (V : VT) : Option (Int32 × VT) :=
  (gX10_puts s0 V).bind fun V1 =>
  if v4 = 0 then
  (gX10_reads_b120 n K11 (v1 + 1) v2 2 (v1 + 1) 148 7 V1)
  else
  (gX10_reads_b120 n K11 (v1 + 1) v2 1 (v1 + 1) 148 7 V1)
set_option maxHeartbeats 1000000 in
theorem smX10_reads_b99 {E : VE} {n : Nat} {K11 : Int32 → Int32 → VT → Option (Int32 × VT)} {k11 : Nat → Int32 → Int32 → qH → Option (Int32 × qH)} {v1 : Int32} {v2 : Int32} {v4 : Int32} {s0 : Int32} {V : VT} (hK11 : ∀ (v1 : Int32)  (v2 : Int32)  (V : VT), k11 137 v1 v2 (hpV E V) = (K11 v1 v2 V).map (fun p => (p.1, hpV E p.2)))     : fX10_reads_b99 n k11 137 v1 v2 v4 s0 137 (hpV E V) = (gX10_reads_b99 n K11 v1 v2 v4 s0 V).map (fun p => (p.1, hpV E p.2)) := by
  unfold fX10_reads_b99 gX10_reads_b99
  refine sb_V (o' := gX10_puts s0 V) (smX10_puts) (fun V1 => ?_)
  refine sb_some (s_gR rfl rfl) ?_
  refine sb_ite ?_ ?_
  · exact smX10_reads_b120 hK11 rfl
  · exact smX10_reads_b120 hK11 rfl
def gX10_reads_b86 (n : Nat) (K11 : Int32 → Int32 → VT → Option (Int32 × VT)) (v1 : Int32) (v2 : Int32) (v4 : Int32) (V : VT) : Option (Int32 × VT) :=
  if v4 = 0 then
  (gX10_reads_b99 n K11 v1 v2 v4 28 V)
  else
  (gX10_reads_b99 n K11 v1 v2 v4 30 V)
set_option maxHeartbeats 1000000 in
theorem smX10_reads_b86 {E : VE} {n : Nat} {K11 : Int32 → Int32 → VT → Option (Int32 × VT)} {k11 : Nat → Int32 → Int32 → qH → Option (Int32 × qH)} {v1 : Int32} {v2 : Int32} {v4 : Int32} {V : VT} (hK11 : ∀ (v1 : Int32)  (v2 : Int32)  (V : VT), k11 137 v1 v2 (hpV E V) = (K11 v1 v2 V).map (fun p => (p.1, hpV E p.2)))    : fX10_reads_b86 n k11 137 v1 v2 v4 (hpV E V) = (gX10_reads_b86 n K11 v1 v2 v4 V).map (fun p => (p.1, hpV E p.2)) := by
  unfold fX10_reads_b86 gX10_reads_b86
  refine sb_ite ?_ ?_
  · exact smX10_reads_b99 hK11
  · exact smX10_reads_b99 hK11
def gX10_reads_b65 (n : Nat) (K11 : Int32 → Int32 → VT → Option (Int32 × VT)) (v1 : Int32) (v2 : Int32) (v3 : Int32) (v4 : Int32) (v5 : Int32) (V : VT) : Option (Int32 × VT) :=
  if v1 = 5 then
  ((gX10_fails 5 V).bind fun p1 =>
  (qB p1.1).bind fun _ =>
  some (p1.1, p1.2))
  else
  (if v4 = 0 then
  (if v5 = 0 then
  (if v3 ≤ 0 then
  (gX10_reads_b147 n K11 v1 (100 + (V.F 137 8)) V)
  else
  (gX10_reads_b147 n K11 v1 v3 V))
  else
  (gX10_reads_b86 n K11 v1 v2 v4 V))
  else
  (gX10_reads_b86 n K11 v1 v2 v4 V))
set_option maxHeartbeats 1000000 in
theorem smX10_reads_b65 {E : VE} {n : Nat} {K11 : Int32 → Int32 → VT → Option (Int32 × VT)} {k11 : Nat → Int32 → Int32 → qH → Option (Int32 × qH)} {v1 : Int32} {v2 : Int32} {v3 : Int32} {v4 : Int32} {v5 : Int32} {V : VT} (hK11 : ∀ (v1 : Int32)  (v2 : Int32)  (V : VT), k11 137 v1 v2 (hpV E V) = (K11 v1 v2 V).map (fun p => (p.1, hpV E p.2)))      : fX10_reads_b65 n k11 137 v1 v2 v3 v4 v5 (hpV E V) = (gX10_reads_b65 n K11 v1 v2 v3 v4 v5 V).map (fun p => (p.1, hpV E p.2)) := by
  unfold fX10_reads_b65 gX10_reads_b65
  refine sb_ite ?_ ?_
  · refine sb_P (o' := gX10_fails 5 V) (smX10_fails) (fun p1 => ?_)
    refine sb_bind (fun _ => ?_)
    rfl
  · refine sb_ite ?_ ?_
    · refine sb_ite ?_ ?_
      · refine sb_ite ?_ ?_
        · refine sb_some (s_gI rfl rfl) ?_
          exact smX10_reads_b147 hK11
        · exact smX10_reads_b147 hK11
      · exact smX10_reads_b86 hK11
    · exact smX10_reads_b86 hK11
def gX10_reads_b11 (n : Nat) : Nat → Int32 → Int32 → VT → Option (Int32 × VT)
  | 0, _, _, _ => none
  | w + 1, v1, v2, V =>
    if v2 = 0 then
    ((gX10_isSign 43 V).bind fun p1 =>
    if p1.1 = 0 then
    ((gX10_isSign 45 p1.2).bind fun p2 =>
    if p2.1 = 0 then
    ((gX10_isSign 42 p2.2).bind fun p3 =>
    if p3.1 = 0 then
    ((gX10_isSign 60 p3.2).bind fun p4 =>
    if p4.1 = 0 then
    ((gX10_isSign 61 p4.2).bind fun p5 =>
    if p5.1 = 0 then
    (gX10_reads_b304 n (gX10_reads_b11 n w) v1 v2 p5.2)
    else
    (gX10_reads_b263 n (gX10_reads_b11 n w) v1 v2 p5.2))
    else
    (gX10_reads_b263 n (gX10_reads_b11 n w) v1 v2 p4.2))
    else
    (gX10_reads_b206 n (gX10_reads_b11 n w) v1 p3.2))
    else
    (gX10_reads_b206 n (gX10_reads_b11 n w) v1 p2.2))
    else
    (gX10_reads_b206 n (gX10_reads_b11 n w) v1 p1.2))
    else
    ((gX10_fact V).bind fun p6 =>
    (gX10_isWord 10631 p6.2).bind fun p7 =>
    (gX10_isSign 40 p7.2).bind fun p8 =>
    if p6.1 = 0 then
    (if p7.1 = 0 then
    (if p8.1 = 0 then
    (if (p8.2.F 137 6) = 2 then
    (gX10_reads_b65 n (gX10_reads_b11 n w) v1 v2 p6.1 p7.1 p8.1 p8.2)
    else
    ((gX10_fails 1 p8.2).bind fun p9 =>
    (qB p9.1).bind fun _ =>
    some (p9.1, p9.2)))
    else
    (gX10_reads_b65 n (gX10_reads_b11 n w) v1 v2 p6.1 p7.1 p8.1 p8.2))
    else
    (gX10_reads_b65 n (gX10_reads_b11 n w) v1 v2 p6.1 p7.1 p8.1 p8.2))
    else
    (gX10_reads_b65 n (gX10_reads_b11 n w) v1 v2 p6.1 p7.1 p8.1 p8.2))
set_option maxHeartbeats 1000000 in
theorem smX10_reads_b11 {E : VE} {n : Nat} : ∀ (w : Nat) (v1 : Int32)  (v2 : Int32)  (V : VT), fX10_reads_b11 n w 137 v1 v2 (hpV E V) = (gX10_reads_b11 n w v1 v2 V).map (fun p => (p.1, hpV E p.2)) := by
  intro w
  induction w with
  | zero => intro v1 v2 V; rfl
  | succ w ih =>
    intro v1 v2 V
    unfold fX10_reads_b11 gX10_reads_b11
    refine sb_ite ?_ ?_
    · refine sb_P (o' := gX10_isSign 43 V) (smX10_isSign) (fun p1 => ?_)
      refine sb_ite ?_ ?_
      · refine sb_P (o' := gX10_isSign 45 p1.2) (smX10_isSign) (fun p2 => ?_)
        refine sb_ite ?_ ?_
        · refine sb_P (o' := gX10_isSign 42 p2.2) (smX10_isSign) (fun p3 => ?_)
          refine sb_ite ?_ ?_
          · refine sb_P (o' := gX10_isSign 60 p3.2) (smX10_isSign) (fun p4 => ?_)
            refine sb_ite ?_ ?_
            · refine sb_P (o' := gX10_isSign 61 p4.2) (smX10_isSign) (fun p5 => ?_)
              refine sb_ite ?_ ?_
              · exact smX10_reads_b304 ih
              · exact smX10_reads_b263 ih
            · exact smX10_reads_b263 ih
          · exact smX10_reads_b206 ih
        · exact smX10_reads_b206 ih
      · exact smX10_reads_b206 ih
    · refine sb_P (o' := gX10_fact V) (smX10_fact) (fun p6 => ?_)
      refine sb_P (o' := gX10_isWord 10631 p6.2) (smX10_isWord) (fun p7 => ?_)
      refine sb_P (o' := gX10_isSign 40 p7.2) (smX10_isSign) (fun p8 => ?_)
      refine sb_ite ?_ ?_
      · refine sb_ite ?_ ?_
        · refine sb_ite ?_ ?_
          · refine sb_some (s_gI rfl rfl) ?_
            refine sb_ite ?_ ?_
            · exact smX10_reads_b65 ih
            · refine sb_P (o' := gX10_fails 1 p8.2) (smX10_fails) (fun p9 => ?_)
              refine sb_bind (fun _ => ?_)
              rfl
          · exact smX10_reads_b65 ih
        · exact smX10_reads_b65 ih
      · exact smX10_reads_b65 ih
def gX10_reads (n : Nat)  (V : VT) : Option (Int32 × VT) :=
  (some (wA V 149 0 (qnar .boolean 0))).bind fun V1 =>
  gX10_reads_b11 n n 0 1 V1
set_option maxHeartbeats 1000000 in
theorem smX10_reads {E : VE} {n : Nat}  {V : VT}  : fX10_reads n 137 (hpV E V) = (gX10_reads n  V).map (fun p => (p.1, hpV E p.2)) := by
  unfold fX10_reads gX10_reads
  refine sb_some (s_isO rfl) ?_
  refine sb_some (s_gR rfl rfl) ?_
  refine sb_V (o' := some (wA V 149 0 (qnar .boolean 0))) ((s_sI rfl).trans (congrArg _ (wrA_at (k := 0) (by decide) (by decide)))) (fun V1 => ?_)
  exact smX10_reads_b11 _ 0 1 V1
def gX10_readsTakes (n : Nat)  (V : VT) : Option (Int32 × VT) :=
  if (V.A 146 1) ≤ (V.A 145 1) then
  ((gX10_nextToken n V).bind fun V3 =>
  (some (wA V3 145 1 (V3.F 137 19))).bind fun V4 =>
  (gX10_reads n V4).bind fun p5 =>
  if p5.1 = 0 then
  (some (0, p5.2))
  else
  ((some (wA p5.2 146 1 (p5.2.F 137 19))).bind fun V6 =>
  some (1, V6)))
  else
  ((gX10_fails 3 V).bind fun p7 =>
  (qB p7.1).bind fun _ =>
  some (p7.1, p7.2))
set_option maxHeartbeats 1000000 in
theorem smX10_readsTakes {E : VE} {n : Nat}  {V : VT}  : fX10_readsTakes n 137 (hpV E V) = (gX10_readsTakes n  V).map (fun p => (p.1, hpV E p.2)) := by
  unfold fX10_readsTakes gX10_readsTakes
  refine sb_some (s_isO rfl) ?_
  refine sb_some (s_gR rfl rfl) ?_
  refine sb_some ((s_aI rfl).trans (rdA_at (k := 1) (by decide) (by decide))) ?_
  refine sb_some (s_gR rfl rfl) ?_
  refine sb_some ((s_aI rfl).trans (rdA_at (k := 1) (by decide) (by decide))) ?_
  refine sb_ite ?_ ?_
  · refine sb_V (o' := gX10_nextToken n V) (smX10_nextToken) (fun V3 => ?_)
    refine sb_some (s_gR rfl rfl) ?_
    refine sb_some (s_gI rfl rfl) ?_
    refine sb_V (o' := some (wA V3 145 1 (V3.F 137 19))) ((s_sI rfl).trans (congrArg _ (wrA_at (k := 1) (by decide) (by decide)))) (fun V4 => ?_)
    refine sb_P (o' := gX10_reads n V4) (smX10_reads) (fun p5 => ?_)
    refine sb_ite ?_ ?_
    · rfl
    · refine sb_some (s_gR rfl rfl) ?_
      refine sb_some (s_gI rfl rfl) ?_
      refine sb_V (o' := some (wA p5.2 146 1 (p5.2.F 137 19))) ((s_sI rfl).trans (congrArg _ (wrA_at (k := 1) (by decide) (by decide)))) (fun V6 => ?_)
      rfl
  · refine sb_P (o' := gX10_fails 3 V) (smX10_fails) (fun p7 => ?_)
    refine sb_bind (fun _ => ?_)
    rfl
def gX10_readsAll_b166 (n : Nat) (K39 : VT → Option (Int32 × VT)) (s0 : Int32) (V : VT) : Option (Int32 × VT) :=
  if s0 = 0 then
  (some (0, V))
  else
  (K39 V)
set_option maxHeartbeats 1000000 in
theorem smX10_readsAll_b166 {E : VE} {n : Nat} {K39 : VT → Option (Int32 × VT)} {k39 : Nat → qH → Option (Int32 × qH)} {s0 : Int32} {V : VT} (hK39 : ∀ (V : VT), k39 137 (hpV E V) = (K39  V).map (fun p => (p.1, hpV E p.2)))  : fX10_readsAll_b166 n k39 137 s0 (hpV E V) = (gX10_readsAll_b166 n K39 s0 V).map (fun p => (p.1, hpV E p.2)) := by
  unfold fX10_readsAll_b166 gX10_readsAll_b166
  refine sb_ite ?_ ?_
  · rfl
  · exact hK39 V
def gX10_readsAll_b39 (n : Nat) : Nat → VT → Option (Int32 × VT)
  | 0, _ => none
  | w + 1, V =>
    if (V.F 137 6) = 0 then
    (some (1, V))
    else
    ((gX10_isWord 187475625 V).bind fun p1 =>
    if p1.1 = 0 then
    ((gX10_isWord 8887 p1.2).bind fun p2 =>
    if p2.1 = 0 then
    ((gX10_isWord 6128141 p2.2).bind fun p3 =>
    if p3.1 = 0 then
    ((gX10_isWord 12089 p3.2).bind fun p4 =>
    if p4.1 = 0 then
    ((gX10_isWord 22726 p4.2).bind fun p5 =>
    if p5.1 = 0 then
    ((gX10_isWord 10656676 p5.2).bind fun p6 =>
    if p6.1 = 0 then
    ((gX10_fails 1 p6.2).bind fun p7 =>
    gX10_readsAll_b166 n (gX10_readsAll_b39 n w) p7.1 p7.2)
    else
    ((gX10_readsTakes n p6.2).bind fun p8 =>
    gX10_readsAll_b166 n (gX10_readsAll_b39 n w) p8.1 p8.2))
    else
    ((gX10_readsOne n 2 0 20 p5.2).bind fun p9 =>
    gX10_readsAll_b166 n (gX10_readsAll_b39 n w) p9.1 p9.2))
    else
    ((gX10_readsOne n 3 0 200 p4.2).bind fun p10 =>
    gX10_readsAll_b166 n (gX10_readsAll_b39 n w) p10.1 p10.2))
    else
    ((gX10_readsOne n 1 1 9 p3.2).bind fun p11 =>
    gX10_readsAll_b166 n (gX10_readsAll_b39 n w) p11.1 p11.2))
    else
    ((gX10_readsLed n p2.2).bind fun p12 =>
    gX10_readsAll_b166 n (gX10_readsAll_b39 n w) p12.1 p12.2))
    else
    ((gX10_readsMatter n p1.2).bind fun p13 =>
    gX10_readsAll_b166 n (gX10_readsAll_b39 n w) p13.1 p13.2))
set_option maxHeartbeats 1000000 in
theorem smX10_readsAll_b39 {E : VE} {n : Nat} : ∀ (w : Nat) (V : VT), fX10_readsAll_b39 n w 137 (hpV E V) = (gX10_readsAll_b39 n w  V).map (fun p => (p.1, hpV E p.2)) := by
  intro w
  induction w with
  | zero => intro  V; rfl
  | succ w ih =>
    intro  V
    unfold fX10_readsAll_b39 gX10_readsAll_b39
    refine sb_some (s_gI rfl rfl) ?_
    refine sb_ite ?_ ?_
    · rfl
    · refine sb_P (o' := gX10_isWord 187475625 V) (smX10_isWord) (fun p1 => ?_)
      refine sb_ite ?_ ?_
      · refine sb_P (o' := gX10_isWord 8887 p1.2) (smX10_isWord) (fun p2 => ?_)
        refine sb_ite ?_ ?_
        · refine sb_P (o' := gX10_isWord 6128141 p2.2) (smX10_isWord) (fun p3 => ?_)
          refine sb_ite ?_ ?_
          · refine sb_P (o' := gX10_isWord 12089 p3.2) (smX10_isWord) (fun p4 => ?_)
            refine sb_ite ?_ ?_
            · refine sb_P (o' := gX10_isWord 22726 p4.2) (smX10_isWord) (fun p5 => ?_)
              refine sb_ite ?_ ?_
              · refine sb_P (o' := gX10_isWord 10656676 p5.2) (smX10_isWord) (fun p6 => ?_)
                refine sb_ite ?_ ?_
                · refine sb_P (o' := gX10_fails 1 p6.2) (smX10_fails) (fun p7 => ?_)
                  exact smX10_readsAll_b166 ih
                · refine sb_P (o' := gX10_readsTakes n p6.2) (smX10_readsTakes) (fun p8 => ?_)
                  exact smX10_readsAll_b166 ih
              · refine sb_P (o' := gX10_readsOne n 2 0 20 p5.2) (smX10_readsOne) (fun p9 => ?_)
                exact smX10_readsAll_b166 ih
            · refine sb_P (o' := gX10_readsOne n 3 0 200 p4.2) (smX10_readsOne) (fun p10 => ?_)
              exact smX10_readsAll_b166 ih
          · refine sb_P (o' := gX10_readsOne n 1 1 9 p3.2) (smX10_readsOne) (fun p11 => ?_)
            exact smX10_readsAll_b166 ih
        · refine sb_P (o' := gX10_readsLed n p2.2) (smX10_readsLed) (fun p12 => ?_)
          exact smX10_readsAll_b166 ih
      · refine sb_P (o' := gX10_readsMatter n p1.2) (smX10_readsMatter) (fun p13 => ?_)
        exact smX10_readsAll_b166 ih
def gX10_readsAll (n : Nat)  (V : VT) : Option (Int32 × VT) :=
  (gX10_usual 1 V).bind fun V1 =>
  (some (wA V1 145 1 1000)).bind fun V2 =>
  (some (wA V2 146 1 1000)).bind fun V3 =>
  (some (wF V3 137 20 0)).bind fun V4 =>
  (some (wF V4 137 19 1000)).bind fun V5 =>
  (gX10_begins n V5).bind fun V6 =>
  gX10_readsAll_b39 n n V6
set_option maxHeartbeats 1000000 in
theorem smX10_readsAll {E : VE} {n : Nat}  {V : VT}  : fX10_readsAll n 137 (hpV E V) = (gX10_readsAll n  V).map (fun p => (p.1, hpV E p.2)) := by
  unfold fX10_readsAll gX10_readsAll
  refine sb_some (s_isO rfl) ?_
  refine sb_V (o' := gX10_usual 1 V) (smX10_usual) (fun V1 => ?_)
  refine sb_some (s_gR rfl rfl) ?_
  refine sb_V (o' := some (wA V1 145 1 1000)) ((s_sI rfl).trans (congrArg _ (wrA_at (k := 1) (by decide) (by decide)))) (fun V2 => ?_)
  refine sb_some (s_gR rfl rfl) ?_
  refine sb_V (o' := some (wA V2 146 1 1000)) ((s_sI rfl).trans (congrArg _ (wrA_at (k := 1) (by decide) (by decide)))) (fun V3 => ?_)
  refine sb_V (o' := some (wF V3 137 20 0)) (w10_20 rfl) (fun V4 => ?_)
  refine sb_V (o' := some (wF V4 137 19 1000)) (w10_19 rfl) (fun V5 => ?_)
  refine sb_V (o' := gX10_begins n V5) (smX10_begins) (fun V6 => ?_)
  exact smX10_readsAll_b39 _ V6
def gX10_past_b50 (n : Nat) : Nat → Int32 → VT → Option (Int32 × VT)
  | 0, _, _ => none
  | w + 1, v1, V =>
    if 4 ≤ v1 then
    (some (0, V))
    else
    ((wrA V 172 4 v1 (qnar .boolean 0)).bind fun V1 =>
    gX10_past_b50 n w (v1 + 1) V1)
set_option maxHeartbeats 1000000 in
theorem smX10_past_b50 {E : VE} {n : Nat} : ∀ (w : Nat) (v1 : Int32)  (V : VT), fX10_past_b50 n w 137 v1 (hpV E V) = (gX10_past_b50 n w v1 V).map (fun p => (p.1, hpV E p.2)) := by
  intro w
  induction w with
  | zero => intro v1 V; rfl
  | succ w ih =>
    intro v1 V
    unfold fX10_past_b50 gX10_past_b50
    refine sb_ite ?_ ?_
    · rfl
    · refine sb_some (s_gR rfl rfl) ?_
      refine sb_V (o' := wrA V 172 4 v1 (qnar .boolean 0)) (s_sI rfl) (fun V1 => ?_)
      exact ih (v1 + 1) V1
def gX10_past (n : Nat)  (V : VT) : Option (Int32 × VT) :=
  (some (wF V 137 0 0)).bind fun V1 =>
  (gX10_readsAll n V1).bind fun p2 =>
  if p2.1 = 0 then
  (some (p2.2.F 137 9, p2.2))
  else
  ((gX10_lays n p2.2).bind fun V3 =>
  (gX10_laysCauses n V3).bind fun V4 =>
  (gX10_fresh0 n V4).bind fun V5 =>
  (some (wA V5 160 0 0)).bind fun V6 =>
  (some (wA V6 163 0 0)).bind fun V7 =>
  (some (wF V7 137 47 0)).bind fun V8 =>
  gX10_past_b50 n n 0 V8)
set_option maxHeartbeats 1000000 in
theorem smX10_past {E : VE} {n : Nat}  {V : VT}  : fX10_past n 137 (hpV E V) = (gX10_past n  V).map (fun p => (p.1, hpV E p.2)) := by
  unfold fX10_past gX10_past
  refine sb_some (s_isO rfl) ?_
  refine sb_V (o' := some (wF V 137 0 0)) (w10_0 rfl) (fun V1 => ?_)
  refine sb_P (o' := gX10_readsAll n V1) (smX10_readsAll) (fun p2 => ?_)
  refine sb_ite ?_ ?_
  · refine sb_some (s_gI rfl rfl) ?_
    rfl
  · refine sb_V (o' := gX10_lays n p2.2) (smX10_lays) (fun V3 => ?_)
    refine sb_V (o' := gX10_laysCauses n V3) (smX10_laysCauses) (fun V4 => ?_)
    refine sb_V (o' := gX10_fresh0 n V4) (smX10_fresh0) (fun V5 => ?_)
    refine sb_some (s_gR rfl rfl) ?_
    refine sb_V (o' := some (wA V5 160 0 0)) ((s_sI rfl).trans (congrArg _ (wrA_at (k := 0) (by decide) (by decide)))) (fun V6 => ?_)
    refine sb_some (s_gR rfl rfl) ?_
    refine sb_V (o' := some (wA V6 163 0 0)) ((s_sI rfl).trans (congrArg _ (wrA_at (k := 0) (by decide) (by decide)))) (fun V7 => ?_)
    refine sb_V (o' := some (wF V7 137 47 0)) (w10_47 rfl) (fun V8 => ?_)
    exact smX10_past_b50 _ 0 V8
def gX10_readsLine_b122 (n : Nat)  (V : VT) : Option (Int32 × VT) :=
  (some (wA V 160 5 ((V.A 160 5) + 1))).bind fun V2 =>
  (gX10_closes n V2).bind fun p3 =>
  (qB p3.1).bind fun _ =>
  some (p3.1, p3.2)
set_option maxHeartbeats 1000000 in
theorem smX10_readsLine_b122 {E : VE} {n : Nat}  {V : VT}  : fX10_readsLine_b122 n 137 (hpV E V) = (gX10_readsLine_b122 n  V).map (fun p => (p.1, hpV E p.2)) := by
  unfold fX10_readsLine_b122 gX10_readsLine_b122
  refine sb_some (s_gR rfl rfl) ?_
  refine sb_some ((s_aI rfl).trans (rdA_at (k := 5) (by decide) (by decide))) ?_
  refine sb_V (o' := some (wA V 160 5 ((V.A 160 5) + 1))) ((s_sI rfl).trans (congrArg _ (wrA_at (k := 5) (by decide) (by decide)))) (fun V2 => ?_)
  refine sb_P (o' := gX10_closes n V2) (smX10_closes) (fun p3 => ?_)
  refine sb_bind (fun _ => ?_)
  rfl
def gX10_readsLine_b43 (n : Nat) (s0 : Int32) (V : VT) : Option (Int32 × VT) :=
  if 0 ≤ s0 then
  (if (V.A 160 5) = 40 then
  ((gX10_fails 5 V).bind fun p8 =>
  (qB p8.1).bind fun _ =>
  some (p8.1, p8.2))
  else
  ((gX10_nextToken n V).bind fun V2 =>
  (wrA V2 161 240 (200 + (V2.A 160 5)) s0).bind fun V4 =>
  if s0 = 2 then
  (gX10_readsLine_b122 n V4)
  else
  ((gX10_needsMatter n 0 V4).bind fun p5 =>
  if p5.1 = 0 then
  (some (0, p5.2))
  else
  ((wrA p5.2 162 240 (200 + (V2.A 160 5)) (p5.2.F 137 33)).bind fun V6 =>
  (gX10_nextToken n V6).bind fun V7 =>
  gX10_readsLine_b122 n V7))))
  else
  ((gX10_fails 1 V).bind fun p9 =>
  (qB p9.1).bind fun _ =>
  some (p9.1, p9.2))
set_option maxHeartbeats 1000000 in
theorem smX10_readsLine_b43 {E : VE} {n : Nat} {s0 : Int32} {V : VT}  : fX10_readsLine_b43 n 137 s0 (hpV E V) = (gX10_readsLine_b43 n s0 V).map (fun p => (p.1, hpV E p.2)) := by
  unfold fX10_readsLine_b43 gX10_readsLine_b43
  refine sb_ite ?_ ?_
  · refine sb_some (s_gR rfl rfl) ?_
    refine sb_some ((s_aI rfl).trans (rdA_at (k := 5) (by decide) (by decide))) ?_
    refine sb_ite ?_ ?_
    · refine sb_P (o' := gX10_fails 5 V) (smX10_fails) (fun p8 => ?_)
      refine sb_bind (fun _ => ?_)
      rfl
    · refine sb_V (o' := gX10_nextToken n V) (smX10_nextToken) (fun V2 => ?_)
      refine sb_some (s_gR rfl rfl) ?_
      refine sb_some ((s_aI rfl).trans (rdA_at (k := 5) (by decide) (by decide))) ?_
      refine sb_some (s_gR rfl rfl) ?_
      refine sb_V (o' := wrA V2 161 240 (200 + (V2.A 160 5)) s0) (s_sI rfl) (fun V4 => ?_)
      refine sb_ite ?_ ?_
      · exact smX10_readsLine_b122
      · refine sb_P (o' := gX10_needsMatter n 0 V4) (smX10_needsMatter) (fun p5 => ?_)
        refine sb_ite ?_ ?_
        · rfl
        · refine sb_some (s_gR rfl rfl) ?_
          refine sb_some (s_gI rfl rfl) ?_
          refine sb_V (o' := wrA p5.2 162 240 (200 + (V2.A 160 5)) (p5.2.F 137 33)) (s_sI rfl) (fun V6 => ?_)
          refine sb_V (o' := gX10_nextToken n V6) (smX10_nextToken) (fun V7 => ?_)
          exact smX10_readsLine_b122
  · refine sb_P (o' := gX10_fails 1 V) (smX10_fails) (fun p9 => ?_)
    refine sb_bind (fun _ => ?_)
    rfl
def gX10_readsLine (n : Nat)  (V : VT) : Option (Int32 × VT) :=
  (gX10_isWord 281490259 V).bind fun p1 =>
  if p1.1 = 0 then
  ((gX10_isWord 3692 p1.2).bind fun p2 =>
  if p2.1 = 0 then
  ((gX10_isWord 495765 p2.2).bind fun p3 =>
  if p3.1 = 0 then
  (gX10_readsLine_b43 n ((-1)) p3.2)
  else
  (gX10_readsLine_b43 n 2 p3.2))
  else
  (gX10_readsLine_b43 n 1 p2.2))
  else
  (gX10_readsLine_b43 n 0 p1.2)
set_option maxHeartbeats 1000000 in
theorem smX10_readsLine {E : VE} {n : Nat}  {V : VT}  : fX10_readsLine n 137 (hpV E V) = (gX10_readsLine n  V).map (fun p => (p.1, hpV E p.2)) := by
  unfold fX10_readsLine gX10_readsLine
  refine sb_some (s_isO rfl) ?_
  refine sb_P (o' := gX10_isWord 281490259 V) (smX10_isWord) (fun p1 => ?_)
  refine sb_ite ?_ ?_
  · refine sb_P (o' := gX10_isWord 3692 p1.2) (smX10_isWord) (fun p2 => ?_)
    refine sb_ite ?_ ?_
    · refine sb_P (o' := gX10_isWord 495765 p2.2) (smX10_isWord) (fun p3 => ?_)
      refine sb_ite ?_ ?_
      · exact smX10_readsLine_b43
      · exact smX10_readsLine_b43
    · exact smX10_readsLine_b43
  · exact smX10_readsLine_b43
def gX10_redeems_b24 (n : Nat) : Nat → Int32 → Int32 → Int32 → Int32 → Int32 → VT → Option (Int32 × VT)
  | 0, _, _, _, _, _, _ => none
  | w + 1, v1, v2, v3, v4, v5, V =>
    if (V.A 139 0) ≤ v5 then
    (some (v3, V))
    else
    (if ((v1 >>> (v5 &&& 31)) &&& 1) = 1 then
    (gX10_redeems_b24 n w v1 v2 v3 v4 (v5 + 1) V)
    else
    ((gX10_rightBy n (v1 ||| ((1 : Int32) <<< (v5 &&& 31))) V).bind fun p2 =>
    (gX10_bits n ((p2.1 &&& (v2 ^^^ ((-1)))) &&& (((1 : Int32) <<< (v5 &&& 31)) ^^^ ((-1)))) p2.2).bind fun p3 =>
    if v4 < p3.1 then
    (gX10_redeems_b24 n w v1 v2 v5 p3.1 (v5 + 1) p3.2)
    else
    (gX10_redeems_b24 n w v1 v2 v3 v4 (v5 + 1) p3.2)))
set_option maxHeartbeats 1000000 in
theorem smX10_redeems_b24 {E : VE} {n : Nat} : ∀ (w : Nat) (v1 : Int32)  (v2 : Int32)  (v3 : Int32)  (v4 : Int32)  (v5 : Int32)  (V : VT), fX10_redeems_b24 n w 137 v1 v2 v3 v4 v5 (hpV E V) = (gX10_redeems_b24 n w v1 v2 v3 v4 v5 V).map (fun p => (p.1, hpV E p.2)) := by
  intro w
  induction w with
  | zero => intro v1 v2 v3 v4 v5 V; rfl
  | succ w ih =>
    intro v1 v2 v3 v4 v5 V
    unfold fX10_redeems_b24 gX10_redeems_b24
    refine sb_some (s_gR rfl rfl) ?_
    refine sb_some ((s_aI rfl).trans (rdA_at (k := 0) (by decide) (by decide))) ?_
    refine sb_ite ?_ ?_
    · rfl
    · refine sb_ite ?_ ?_
      · exact ih v1 v2 v3 v4 (v5 + 1) V
      · refine sb_P (o' := gX10_rightBy n (v1 ||| ((1 : Int32) <<< (v5 &&& 31))) V) (smX10_rightBy) (fun p2 => ?_)
        refine sb_P (o' := gX10_bits n ((p2.1 &&& (v2 ^^^ ((-1)))) &&& (((1 : Int32) <<< (v5 &&& 31)) ^^^ ((-1)))) p2.2) (smX10_bits) (fun p3 => ?_)
        refine sb_ite ?_ ?_
        · exact ih v1 v2 v5 p3.1 (v5 + 1) p3.2
        · exact ih v1 v2 v3 v4 (v5 + 1) p3.2
def gX10_redeems (n : Nat)  (V : VT) : Option (Int32 × VT) :=
  (some (wF V 137 0 0)).bind fun V1 =>
  (gX10_meantNow n V1).bind fun p2 =>
  (gX10_rightBy n p2.1 p2.2).bind fun p3 =>
  gX10_redeems_b24 n n p2.1 p3.1 ((-1)) 0 0 p3.2
set_option maxHeartbeats 1000000 in
theorem smX10_redeems {E : VE} {n : Nat}  {V : VT}  : fX10_redeems n 137 (hpV E V) = (gX10_redeems n  V).map (fun p => (p.1, hpV E p.2)) := by
  unfold fX10_redeems gX10_redeems
  refine sb_some (s_isO rfl) ?_
  refine sb_V (o' := some (wF V 137 0 0)) (w10_0 rfl) (fun V1 => ?_)
  refine sb_P (o' := gX10_meantNow n V1) (smX10_meantNow) (fun p2 => ?_)
  refine sb_P (o' := gX10_rightBy n p2.1 p2.2) (smX10_rightBy) (fun p3 => ?_)
  exact smX10_redeems_b24 _ p2.1 p3.1 ((-1)) 0 0 p3.2
def gX10_rests_b163 (n : Nat) (v4 : Int32) (v5 : Int32) (s0 : Int32) (V : VT) : Option (Int32 × VT) :=
  (some (wF V 137 0 s0)).bind fun V1 =>
  if v4 = ((-1)) then
  (some (v5, V1))
  else
  (some (0, V1))
set_option maxHeartbeats 1000000 in
theorem smX10_rests_b163 {E : VE} {n : Nat} {v4 : Int32} {v5 : Int32} {s0 : Int32} {V : VT}    : fX10_rests_b163 n v4 v5 s0 137 (hpV E V) = (gX10_rests_b163 n v4 v5 s0 V).map (fun p => (p.1, hpV E p.2)) := by
  unfold fX10_rests_b163 gX10_rests_b163
  refine sb_V (o' := some (wF V 137 0 s0)) (w10_0 rfl) (fun V1 => ?_)
  refine sb_ite ?_ ?_
  · rfl
  · rfl
def gX10_rests_b61 (n : Nat) : Nat → Int32 → Int32 → Int32 → Int32 → Int32 → Int32 → VT → Option (Int32 × VT)
  | 0, _, _, _, _, _, _, _ => none
  | w + 1, v1, v2, v3, v4, v5, v6, V =>
    if 4 ≤ v6 then
    (if v4 = ((-1)) then
    (gX10_rests_b163 n v4 v5 0 V)
    else
    (gX10_rests_b163 n v4 v5 1 V))
    else
    ((gX10_getsBy v1 v2 v3 (1 - (v6 / 2)) (v6 - v6 / 2 * 2) V).bind fun p1 =>
    (gX10_getsBy v1 v2 v3 (v6 / 2) (v6 - v6 / 2 * 2) p1.2).bind fun p2 =>
    if p2.1 < p1.1 then
    (gX10_rests_b61 n w v1 v2 v3 v4 v5 (v6 + 1) p2.2)
    else
    ((gX10_getsBy v1 v2 v3 (1 - (v6 - v6 / 2 * 2)) (v6 / 2) p2.2).bind fun p3 =>
    (gX10_getsBy v1 v2 v3 (v6 - v6 / 2 * 2) (v6 / 2) p3.2).bind fun p4 =>
    if p3.1 ≤ p4.1 then
    (if v5 = v4 then
    (some (v6, p4.2))
    else
    (gX10_rests_b61 n w v1 v2 v3 v4 (v5 + 1) (v6 + 1) p4.2))
    else
    (gX10_rests_b61 n w v1 v2 v3 v4 v5 (v6 + 1) p4.2)))
set_option maxHeartbeats 1000000 in
theorem smX10_rests_b61 {E : VE} {n : Nat} : ∀ (w : Nat) (v1 : Int32)  (v2 : Int32)  (v3 : Int32)  (v4 : Int32)  (v5 : Int32)  (v6 : Int32)  (V : VT), fX10_rests_b61 n w 137 v1 v2 v3 v4 v5 v6 (hpV E V) = (gX10_rests_b61 n w v1 v2 v3 v4 v5 v6 V).map (fun p => (p.1, hpV E p.2)) := by
  intro w
  induction w with
  | zero => intro v1 v2 v3 v4 v5 v6 V; rfl
  | succ w ih =>
    intro v1 v2 v3 v4 v5 v6 V
    unfold fX10_rests_b61 gX10_rests_b61
    refine sb_ite ?_ ?_
    · refine sb_ite ?_ ?_
      · exact smX10_rests_b163
      · exact smX10_rests_b163
    · refine sb_P (o' := gX10_getsBy v1 v2 v3 (1 - (v6 / 2)) (v6 - v6 / 2 * 2) V) (smX10_getsBy) (fun p1 => ?_)
      refine sb_P (o' := gX10_getsBy v1 v2 v3 (v6 / 2) (v6 - v6 / 2 * 2) p1.2) (smX10_getsBy) (fun p2 => ?_)
      refine sb_ite ?_ ?_
      · exact ih v1 v2 v3 v4 v5 (v6 + 1) p2.2
      · refine sb_P (o' := gX10_getsBy v1 v2 v3 (1 - (v6 - v6 / 2 * 2)) (v6 / 2) p2.2) (smX10_getsBy) (fun p3 => ?_)
        refine sb_P (o' := gX10_getsBy v1 v2 v3 (v6 - v6 / 2 * 2) (v6 / 2) p3.2) (smX10_getsBy) (fun p4 => ?_)
        refine sb_ite ?_ ?_
        · refine sb_ite ?_ ?_
          · rfl
          · exact ih v1 v2 v3 v4 (v5 + 1) (v6 + 1) p4.2
        · exact ih v1 v2 v3 v4 v5 (v6 + 1) p4.2
def gX10_rests_b42 (n : Nat) (v1 : Int32) (v2 : Int32) (v3 : Int32) (v4 : Int32) (s0 : Int32) (V : VT) : Option (Int32 × VT) :=
  (some (wF V 137 0 s0)).bind fun V1 =>
  if (V1.F 137 0) = 1 then
  (some (0, V1))
  else
  (gX10_rests_b61 n n v1 v2 v3 v4 0 0 V1)
set_option maxHeartbeats 1000000 in
theorem smX10_rests_b42 {E : VE} {n : Nat} {v1 : Int32} {v2 : Int32} {v3 : Int32} {v4 : Int32} {s0 : Int32} {V : VT}      : fX10_rests_b42 n 137 v1 v2 v3 v4 s0 137 (hpV E V) = (gX10_rests_b42 n v1 v2 v3 v4 s0 V).map (fun p => (p.1, hpV E p.2)) := by
  unfold fX10_rests_b42 gX10_rests_b42
  refine sb_V (o' := some (wF V 137 0 s0)) (w10_0 rfl) (fun V1 => ?_)
  refine sb_some (s_gI rfl rfl) ?_
  refine sb_ite ?_ ?_
  · rfl
  · exact smX10_rests_b61 _ v1 v2 v3 v4 0 0 V1
def gX10_rests_b41 (n : Nat) (v1 : Int32) (v2 : Int32) (v3 : Int32) (v4 : Int32) (V : VT) : Option (Int32 × VT) :=
  gX10_rests_b42 n v1 v2 v3 v4 1 V
set_option maxHeartbeats 1000000 in
theorem smX10_rests_b41 {E : VE} {n : Nat} {v1 : Int32} {v2 : Int32} {v3 : Int32} {v4 : Int32} {V : VT}     : fX10_rests_b41 n 137 v1 v2 v3 v4 137 (hpV E V) = (gX10_rests_b41 n v1 v2 v3 v4 V).map (fun p => (p.1, hpV E p.2)) := by
  unfold fX10_rests_b41 gX10_rests_b41
  exact smX10_rests_b42
def gX10_rests (n : Nat) (v1 : Int32) (v2 : Int32) (v3 : Int32) (v4 : Int32) (V : VT) : Option (Int32 × VT) :=
  (gX10_within v1 0 9 V).bind fun p1 =>
  if p1.1 = 0 then
  (gX10_rests_b41 n v1 v2 v3 v4 p1.2)
  else
  ((gX10_within v2 0 9 p1.2).bind fun p2 =>
  if p2.1 = 0 then
  (gX10_rests_b41 n v1 v2 v3 v4 p2.2)
  else
  ((gX10_within v3 0 9 p2.2).bind fun p3 =>
  if p3.1 = 0 then
  (gX10_rests_b41 n v1 v2 v3 v4 p3.2)
  else
  (if v4 < ((-1)) then
  (gX10_rests_b41 n v1 v2 v3 v4 p3.2)
  else
  (gX10_rests_b42 n v1 v2 v3 v4 0 p3.2))))
set_option maxHeartbeats 1000000 in
theorem smX10_rests {E : VE} {n : Nat} {v1 : Int32} {v2 : Int32} {v3 : Int32} {v4 : Int32} {V : VT}     : fX10_rests n 137 v1 v2 v3 v4 (hpV E V) = (gX10_rests n v1 v2 v3 v4 V).map (fun p => (p.1, hpV E p.2)) := by
  unfold fX10_rests gX10_rests
  refine sb_some (s_isO rfl) ?_
  refine sb_P (o' := gX10_within v1 0 9 V) (smX10_within) (fun p1 => ?_)
  refine sb_ite ?_ ?_
  · exact smX10_rests_b41
  · refine sb_P (o' := gX10_within v2 0 9 p1.2) (smX10_within) (fun p2 => ?_)
    refine sb_ite ?_ ?_
    · exact smX10_rests_b41
    · refine sb_P (o' := gX10_within v3 0 9 p2.2) (smX10_within) (fun p3 => ?_)
      refine sb_ite ?_ ?_
      · exact smX10_rests_b41
      · refine sb_ite ?_ ?_
        · exact smX10_rests_b41
        · exact smX10_rests_b42
def gX10_right (n : Nat)  (V : VT) : Option (Int32 × VT) :=
  (some (wF V 137 0 0)).bind fun V1 =>
  (gX10_meantNow n V1).bind fun p2 =>
  (gX10_rightBy n p2.1 p2.2).bind fun p3 =>
  some (p3.1, p3.2)
set_option maxHeartbeats 1000000 in
theorem smX10_right {E : VE} {n : Nat}  {V : VT}  : fX10_right n 137 (hpV E V) = (gX10_right n  V).map (fun p => (p.1, hpV E p.2)) := by
  unfold fX10_right gX10_right
  refine sb_some (s_isO rfl) ?_
  refine sb_V (o' := some (wF V 137 0 0)) (w10_0 rfl) (fun V1 => ?_)
  refine sb_P (o' := gX10_meantNow n V1) (smX10_meantNow) (fun p2 => ?_)
  refine sb_P (o' := gX10_rightBy n p2.1 p2.2) (smX10_rightBy) (fun p3 => ?_)
  rfl
def gX10_roots_b12 (n : Nat) : Nat → Int32 → Int32 → VT → Option (Int32 × VT)
  | 0, _, _, _ => none
  | w + 1, v1, v2, V =>
    if (V.A 139 0) ≤ v2 then
    (some (v1, V))
    else
    ((rdA 14 (V.A 144) v2).bind fun x2 =>
    gX10_roots_b12 n w (v1 &&& (x2 ^^^ ((-1)))) (v2 + 1) V)
set_option maxHeartbeats 1000000 in
theorem smX10_roots_b12 {E : VE} {n : Nat} : ∀ (w : Nat) (v1 : Int32)  (v2 : Int32)  (V : VT), fX10_roots_b12 n w 137 v1 v2 (hpV E V) = (gX10_roots_b12 n w v1 v2 V).map (fun p => (p.1, hpV E p.2)) := by
  intro w
  induction w with
  | zero => intro v1 v2 V; rfl
  | succ w ih =>
    intro v1 v2 V
    unfold fX10_roots_b12 gX10_roots_b12
    refine sb_some (s_gR rfl rfl) ?_
    refine sb_some ((s_aI rfl).trans (rdA_at (k := 0) (by decide) (by decide))) ?_
    refine sb_ite ?_ ?_
    · rfl
    · refine sb_some (s_gR rfl rfl) ?_
      refine sb_bindE (s_aI rfl) (fun x2 => ?_)
      exact ih (v1 &&& (x2 ^^^ ((-1)))) (v2 + 1) V
def gX10_roots (n : Nat)  (V : VT) : Option (Int32 × VT) :=
  (some (wF V 137 0 0)).bind fun V1 =>
  (gX10_every V1).bind fun p2 =>
  gX10_roots_b12 n n p2.1 0 p2.2
set_option maxHeartbeats 1000000 in
theorem smX10_roots {E : VE} {n : Nat}  {V : VT}  : fX10_roots n 137 (hpV E V) = (gX10_roots n  V).map (fun p => (p.1, hpV E p.2)) := by
  unfold fX10_roots gX10_roots
  refine sb_some (s_isO rfl) ?_
  refine sb_V (o' := some (wF V 137 0 0)) (w10_0 rfl) (fun V1 => ?_)
  refine sb_P (o' := gX10_every V1) (smX10_every) (fun p2 => ?_)
  exact smX10_roots_b12 _ p2.1 0 p2.2
def gX10_round_b16 (n : Nat) : Nat → VT → Option (Int32 × VT)
  | 0, _ => none
  | w + 1, V =>
    if (V.F 137 6) = 0 then
    ((gX10_laysLines n 5 0 V).bind fun V1 =>
    some (0, V1))
    else
    ((gX10_readsLine n V).bind fun p2 =>
    if p2.1 = 0 then
    (some (p2.2.F 137 9, p2.2))
    else
    (gX10_round_b16 n w p2.2))
set_option maxHeartbeats 1000000 in
theorem smX10_round_b16 {E : VE} {n : Nat} : ∀ (w : Nat) (V : VT), fX10_round_b16 n w 137 (hpV E V) = (gX10_round_b16 n w  V).map (fun p => (p.1, hpV E p.2)) := by
  intro w
  induction w with
  | zero => intro  V; rfl
  | succ w ih =>
    intro  V
    unfold fX10_round_b16 gX10_round_b16
    refine sb_some (s_gI rfl rfl) ?_
    refine sb_ite ?_ ?_
    · refine sb_V (o' := gX10_laysLines n 5 0 V) (smX10_laysLines) (fun V1 => ?_)
      rfl
    · refine sb_P (o' := gX10_readsLine n V) (smX10_readsLine) (fun p2 => ?_)
      refine sb_ite ?_ ?_
      · refine sb_some (s_gI rfl rfl) ?_
        rfl
      · exact ih p2.2
def gX10_round (n : Nat)  (V : VT) : Option (Int32 × VT) :=
  (some (wF V 137 0 0)).bind fun V1 =>
  (some (wA V1 160 5 0)).bind fun V2 =>
  (gX10_begins n V2).bind fun V3 =>
  gX10_round_b16 n n V3
set_option maxHeartbeats 1000000 in
theorem smX10_round {E : VE} {n : Nat}  {V : VT}  : fX10_round n 137 (hpV E V) = (gX10_round n  V).map (fun p => (p.1, hpV E p.2)) := by
  unfold fX10_round gX10_round
  refine sb_some (s_isO rfl) ?_
  refine sb_V (o' := some (wF V 137 0 0)) (w10_0 rfl) (fun V1 => ?_)
  refine sb_some (s_gR rfl rfl) ?_
  refine sb_V (o' := some (wA V1 160 5 0)) ((s_sI rfl).trans (congrArg _ (wrA_at (k := 5) (by decide) (by decide)))) (fun V2 => ?_)
  refine sb_V (o' := gX10_begins n V2) (smX10_begins) (fun V3 => ?_)
  exact smX10_round_b16 _ V3
def gX10_see (v1 : Int32) (v2 : Int32) (v3 : Int32) (V : VT) : Option (Int32 × VT) :=
  (some (wF V 137 0 0)).bind fun V1 =>
  (gX10_within v1 0 9 V1).bind fun p2 =>
  if p2.1 = 0 then
  (some (0, p2.2))
  else
  ((gX10_within v2 0 40 p2.2).bind fun p3 =>
  if p3.1 = 0 then
  (some (0, p3.2))
  else
  (if (p3.2.A 163 0) = 8 then
  (some (0, p3.2))
  else
  ((wrA p3.2 164 40 (p3.2.A 163 0) v1).bind fun V6 =>
  (wrA V6 165 40 (V6.A 163 0) v2).bind fun V8 =>
  (wrA V8 166 40 (V8.A 163 0) (qnar .boolean v3)).bind fun V10 =>
  (some (wA V10 163 0 ((V10.A 163 0) + 1))).bind fun V12 =>
  some (1, V12))))
set_option maxHeartbeats 1000000 in
theorem smX10_see {E : VE} {v1 : Int32} {v2 : Int32} {v3 : Int32} {V : VT}    : fX10_see 137 v1 v2 v3 (hpV E V) = (gX10_see v1 v2 v3 V).map (fun p => (p.1, hpV E p.2)) := by
  unfold fX10_see gX10_see
  refine sb_some (s_isO rfl) ?_
  refine sb_V (o' := some (wF V 137 0 0)) (w10_0 rfl) (fun V1 => ?_)
  refine sb_P (o' := gX10_within v1 0 9 V1) (smX10_within) (fun p2 => ?_)
  refine sb_ite ?_ ?_
  · rfl
  · refine sb_P (o' := gX10_within v2 0 40 p2.2) (smX10_within) (fun p3 => ?_)
    refine sb_ite ?_ ?_
    · rfl
    · refine sb_some (s_gR rfl rfl) ?_
      refine sb_some ((s_aI rfl).trans (rdA_at (k := 0) (by decide) (by decide))) ?_
      refine sb_ite ?_ ?_
      · rfl
      · refine sb_some (s_gR rfl rfl) ?_
        refine sb_some (s_gR rfl rfl) ?_
        refine sb_some ((s_aI rfl).trans (rdA_at (k := 0) (by decide) (by decide))) ?_
        refine sb_V (o' := wrA p3.2 164 40 (p3.2.A 163 0) v1) (s_sI rfl) (fun V6 => ?_)
        refine sb_some (s_gR rfl rfl) ?_
        refine sb_some (s_gR rfl rfl) ?_
        refine sb_some ((s_aI rfl).trans (rdA_at (k := 0) (by decide) (by decide))) ?_
        refine sb_V (o' := wrA V6 165 40 (V6.A 163 0) v2) (s_sI rfl) (fun V8 => ?_)
        refine sb_some (s_gR rfl rfl) ?_
        refine sb_some (s_gR rfl rfl) ?_
        refine sb_some ((s_aI rfl).trans (rdA_at (k := 0) (by decide) (by decide))) ?_
        refine sb_V (o' := wrA V8 166 40 (V8.A 163 0) (qnar .boolean v3)) (s_sI rfl) (fun V10 => ?_)
        refine sb_some (s_gR rfl rfl) ?_
        refine sb_some ((s_aI rfl).trans (rdA_at (k := 0) (by decide) (by decide))) ?_
        refine sb_V (o' := some (wA V10 163 0 ((V10.A 163 0) + 1))) ((s_sI rfl).trans (congrArg _ (wrA_at (k := 0) (by decide) (by decide)))) (fun V12 => ?_)
        rfl
def gX10_sourest_b43 (n : Nat) (K9 : Int32 → Int32 → VT → Option (Int32 × VT)) (v1 : Int32) (v2 : Int32) (s0 : Int32) (s1 : Int32) (V : VT) : Option (Int32 × VT) :=
  if s1 ≤ s0 then
  (K9 v1 (v2 + 1) V)
  else
  (K9 v2 (v2 + 1) V)
set_option maxHeartbeats 1000000 in
theorem smX10_sourest_b43 {E : VE} {n : Nat} {K9 : Int32 → Int32 → VT → Option (Int32 × VT)} {k9 : Nat → Int32 → Int32 → qH → Option (Int32 × qH)} {v1 : Int32} {v2 : Int32} {s0 : Int32} {s1 : Int32} {V : VT} (hK9 : ∀ (v1 : Int32)  (v2 : Int32)  (V : VT), k9 137 v1 v2 (hpV E V) = (K9 v1 v2 V).map (fun p => (p.1, hpV E p.2)))     : fX10_sourest_b43 n k9 137 v1 v2 s0 s1 (hpV E V) = (gX10_sourest_b43 n K9 v1 v2 s0 s1 V).map (fun p => (p.1, hpV E p.2)) := by
  unfold fX10_sourest_b43 gX10_sourest_b43
  refine sb_ite ?_ ?_
  · exact hK9 v1 (v2 + 1) V
  · exact hK9 v2 (v2 + 1) V
def gX10_sourest_b9 (n : Nat) : Nat → Int32 → Int32 → VT → Option (Int32 × VT)
  | 0, _, _, _ => none
  | w + 1, v1, v2, V =>
    if (V.A 139 0) ≤ v2 then
    (some (v1, V))
    else
    ((rdA 16 (V.A 167) (2 + v2)).bind fun x2 =>
    if 0 ≤ v1 then
    ((rdA 16 (V.A 167) (2 + v1)).bind fun x3 =>
    gX10_sourest_b43 n (gX10_sourest_b9 n w) v1 v2 x3 x2 V)
    else
    (gX10_sourest_b43 n (gX10_sourest_b9 n w) v1 v2 0 x2 V))
set_option maxHeartbeats 1000000 in
theorem smX10_sourest_b9 {E : VE} {n : Nat} : ∀ (w : Nat) (v1 : Int32)  (v2 : Int32)  (V : VT), fX10_sourest_b9 n w 137 v1 v2 (hpV E V) = (gX10_sourest_b9 n w v1 v2 V).map (fun p => (p.1, hpV E p.2)) := by
  intro w
  induction w with
  | zero => intro v1 v2 V; rfl
  | succ w ih =>
    intro v1 v2 V
    unfold fX10_sourest_b9 gX10_sourest_b9
    refine sb_some (s_gR rfl rfl) ?_
    refine sb_some ((s_aI rfl).trans (rdA_at (k := 0) (by decide) (by decide))) ?_
    refine sb_ite ?_ ?_
    · rfl
    · refine sb_some (s_gR rfl rfl) ?_
      refine sb_bindE (s_aI rfl) (fun x2 => ?_)
      refine sb_ite ?_ ?_
      · refine sb_some (s_gR rfl rfl) ?_
        refine sb_bindE (s_aI rfl) (fun x3 => ?_)
        exact smX10_sourest_b43 ih
      · exact smX10_sourest_b43 ih
def gX10_sourest (n : Nat)  (V : VT) : Option (Int32 × VT) :=
  (some (wF V 137 0 0)).bind fun V1 =>
  gX10_sourest_b9 n n ((-1)) 0 V1
set_option maxHeartbeats 1000000 in
theorem smX10_sourest {E : VE} {n : Nat}  {V : VT}  : fX10_sourest n 137 (hpV E V) = (gX10_sourest n  V).map (fun p => (p.1, hpV E p.2)) := by
  unfold fX10_sourest gX10_sourest
  refine sb_some (s_isO rfl) ?_
  refine sb_V (o' := some (wF V 137 0 0)) (w10_0 rfl) (fun V1 => ?_)
  exact smX10_sourest_b9 _ ((-1)) 0 V1
def gX10_spread (n : Nat) (v1 : Int32) (V : VT) : Option (Int32 × VT) :=
  (some (wF V 137 0 0)).bind fun V1 =>
  (gX10_isMatter v1 V1).bind fun p2 =>
  if p2.1 = 0 then
  (some ((-1), p2.2))
  else
  ((gX10_priceOf v1 p2.2).bind fun p4 =>
  if p4.1 ≤ (p2.2.A 167 1) then
  ((gX10_keeps n p4.2).bind fun V5 =>
  (gX10_coats n v1 V5).bind fun V6 =>
  (rdA 16 (V6.A 167) (2 + v1)).bind fun x7 =>
  some (x7, V6))
  else
  (some ((-1), p4.2)))
set_option maxHeartbeats 1000000 in
theorem smX10_spread {E : VE} {n : Nat} {v1 : Int32} {V : VT}  : fX10_spread n 137 v1 (hpV E V) = (gX10_spread n v1 V).map (fun p => (p.1, hpV E p.2)) := by
  unfold fX10_spread gX10_spread
  refine sb_some (s_isO rfl) ?_
  refine sb_V (o' := some (wF V 137 0 0)) (w10_0 rfl) (fun V1 => ?_)
  refine sb_P (o' := gX10_isMatter v1 V1) (smX10_isMatter) (fun p2 => ?_)
  refine sb_ite ?_ ?_
  · rfl
  · refine sb_some (s_gR rfl rfl) ?_
    refine sb_some ((s_aI rfl).trans (rdA_at (k := 1) (by decide) (by decide))) ?_
    refine sb_P (o' := gX10_priceOf v1 p2.2) (smX10_priceOf) (fun p4 => ?_)
    refine sb_ite ?_ ?_
    · refine sb_V (o' := gX10_keeps n p4.2) (smX10_keeps) (fun V5 => ?_)
      refine sb_V (o' := gX10_coats n v1 V5) (smX10_coats) (fun V6 => ?_)
      refine sb_some (s_gR rfl rfl) ?_
      refine sb_bindE (s_aI rfl) (fun x7 => ?_)
      rfl
    · rfl
def gX10_story_b60 (n : Nat) (K30 : Int32 → Int32 → VT → Option (Int32 × VT)) : Nat → Int32 → Int32 → Int32 → Int32 → VT → Option (Int32 × VT)
  | 0, _, _, _, _, _ => none
  | w + 1, v1, v2, v3, v4, V =>
    if (V.A 139 0) ≤ v4 then
    (K30 v1 (v2 + 1) V)
    else
    ((rdA 14 (V.A 144) v3).bind fun x2 =>
    if ((x2 >>> (v4 &&& 31)) &&& 1) = 1 then
    ((rdA 7 (V.A 175) v4).bind fun x3 =>
    (rdA 7 (V.A 175) v3).bind fun x4 =>
    (wrA V 175 7 v4 (if x3 < (x4 + 1) then (x4 + 1) else x3)).bind fun V5 =>
    gX10_story_b60 n K30 w v1 v2 v3 (v4 + 1) V5)
    else
    (gX10_story_b60 n K30 w v1 v2 v3 (v4 + 1) V))
set_option maxHeartbeats 1000000 in
theorem smX10_story_b60 {E : VE} {n : Nat} {K30 : Int32 → Int32 → VT → Option (Int32 × VT)} {k30 : Nat → Int32 → Int32 → qH → Option (Int32 × qH)} (hK30 : ∀ (v1 : Int32)  (v2 : Int32)  (V : VT), k30 137 v1 v2 (hpV E V) = (K30 v1 v2 V).map (fun p => (p.1, hpV E p.2))) : ∀ (w : Nat) (v1 : Int32)  (v2 : Int32)  (v3 : Int32)  (v4 : Int32)  (V : VT), fX10_story_b60 n k30 w 137 v1 v2 v3 v4 (hpV E V) = (gX10_story_b60 n K30 w v1 v2 v3 v4 V).map (fun p => (p.1, hpV E p.2)) := by
  intro w
  induction w with
  | zero => intro v1 v2 v3 v4 V; rfl
  | succ w ih =>
    intro v1 v2 v3 v4 V
    unfold fX10_story_b60 gX10_story_b60
    refine sb_some (s_gR rfl rfl) ?_
    refine sb_some ((s_aI rfl).trans (rdA_at (k := 0) (by decide) (by decide))) ?_
    refine sb_ite ?_ ?_
    · exact hK30 v1 (v2 + 1) V
    · refine sb_some (s_gR rfl rfl) ?_
      refine sb_bindE (s_aI rfl) (fun x2 => ?_)
      refine sb_ite ?_ ?_
      · refine sb_some (s_gR rfl rfl) ?_
        refine sb_some (s_gR rfl rfl) ?_
        refine sb_bindE (s_aI rfl) (fun x3 => ?_)
        refine sb_some (s_gR rfl rfl) ?_
        refine sb_bindE (s_aI rfl) (fun x4 => ?_)
        refine sb_V (o' := wrA V 175 7 v4 (if x3 < (x4 + 1) then (x4 + 1) else x3)) (s_sI rfl) (fun V5 => ?_)
        exact ih v1 v2 v3 (v4 + 1) V5
      · exact ih v1 v2 v3 (v4 + 1) V
def gX10_story_b30 (n : Nat) : Nat → Int32 → Int32 → VT → Option (Int32 × VT)
  | 0, _, _, _ => none
  | w + 1, v1, v2, V =>
    if (V.A 139 0) ≤ v2 then
    (some (v1, V))
    else
    ((gX10_byYears n v2 V).bind fun p2 =>
    (rdA 7 (p2.2.A 175) p2.1).bind fun x3 =>
    gX10_story_b60 n (gX10_story_b30 n w) n (if v1 < x3 then x3 else v1) v2 p2.1 0 p2.2)
set_option maxHeartbeats 1000000 in
theorem smX10_story_b30 {E : VE} {n : Nat} : ∀ (w : Nat) (v1 : Int32)  (v2 : Int32)  (V : VT), fX10_story_b30 n w 137 v1 v2 (hpV E V) = (gX10_story_b30 n w v1 v2 V).map (fun p => (p.1, hpV E p.2)) := by
  intro w
  induction w with
  | zero => intro v1 v2 V; rfl
  | succ w ih =>
    intro v1 v2 V
    unfold fX10_story_b30 gX10_story_b30
    refine sb_some (s_gR rfl rfl) ?_
    refine sb_some ((s_aI rfl).trans (rdA_at (k := 0) (by decide) (by decide))) ?_
    refine sb_ite ?_ ?_
    · rfl
    · refine sb_P (o' := gX10_byYears n v2 V) (smX10_byYears) (fun p2 => ?_)
      refine sb_some (s_gR rfl rfl) ?_
      refine sb_bindE (s_aI rfl) (fun x3 => ?_)
      exact smX10_story_b60 ih _ (if v1 < x3 then x3 else v1) v2 p2.1 0 p2.2
def gX10_story_b9 (n : Nat) : Nat → Int32 → Int32 → VT → Option (Int32 × VT)
  | 0, _, _, _ => none
  | w + 1, v1, v2, V =>
    if 7 ≤ v2 then
    (gX10_story_b30 n n v1 0 V)
    else
    ((wrA V 175 7 v2 1).bind fun V1 =>
    gX10_story_b9 n w v1 (v2 + 1) V1)
set_option maxHeartbeats 1000000 in
theorem smX10_story_b9 {E : VE} {n : Nat} : ∀ (w : Nat) (v1 : Int32)  (v2 : Int32)  (V : VT), fX10_story_b9 n w 137 v1 v2 (hpV E V) = (gX10_story_b9 n w v1 v2 V).map (fun p => (p.1, hpV E p.2)) := by
  intro w
  induction w with
  | zero => intro v1 v2 V; rfl
  | succ w ih =>
    intro v1 v2 V
    unfold fX10_story_b9 gX10_story_b9
    refine sb_ite ?_ ?_
    · exact smX10_story_b30 _ v1 0 V
    · refine sb_some (s_gR rfl rfl) ?_
      refine sb_V (o' := wrA V 175 7 v2 1) (s_sI rfl) (fun V1 => ?_)
      exact ih v1 (v2 + 1) V1
def gX10_story (n : Nat)  (V : VT) : Option (Int32 × VT) :=
  (some (wF V 137 0 0)).bind fun V1 =>
  gX10_story_b9 n n 0 0 V1
set_option maxHeartbeats 1000000 in
theorem smX10_story {E : VE} {n : Nat}  {V : VT}  : fX10_story n 137 (hpV E V) = (gX10_story n  V).map (fun p => (p.1, hpV E p.2)) := by
  unfold fX10_story gX10_story
  refine sb_some (s_isO rfl) ?_
  refine sb_V (o' := some (wF V 137 0 0)) (w10_0 rfl) (fun V1 => ?_)
  exact smX10_story_b9 _ 0 0 V1
def gX10_who_b13 (n : Nat) : Nat → Int32 → Int32 → VT → Option (Int32 × VT)
  | 0, _, _, _ => none
  | w + 1, v1, v2, V =>
    if (V.A 139 0) ≤ v2 then
    (some (v1, V))
    else
    ((gX10_isAsSeen n v2 V).bind fun p2 =>
    if p2.1 = 0 then
    (gX10_who_b13 n w (v1 ||| 0) (v2 + 1) p2.2)
    else
    (gX10_who_b13 n w (v1 ||| ((1 : Int32) <<< (v2 &&& 31))) (v2 + 1) p2.2))
set_option maxHeartbeats 1000000 in
theorem smX10_who_b13 {E : VE} {n : Nat} : ∀ (w : Nat) (v1 : Int32)  (v2 : Int32)  (V : VT), fX10_who_b13 n w 137 v1 v2 (hpV E V) = (gX10_who_b13 n w v1 v2 V).map (fun p => (p.1, hpV E p.2)) := by
  intro w
  induction w with
  | zero => intro v1 v2 V; rfl
  | succ w ih =>
    intro v1 v2 V
    unfold fX10_who_b13 gX10_who_b13
    refine sb_some (s_gR rfl rfl) ?_
    refine sb_some ((s_aI rfl).trans (rdA_at (k := 0) (by decide) (by decide))) ?_
    refine sb_ite ?_ ?_
    · rfl
    · refine sb_P (o' := gX10_isAsSeen n v2 V) (smX10_isAsSeen) (fun p2 => ?_)
      refine sb_ite ?_ ?_
      · exact ih (v1 ||| 0) (v2 + 1) p2.2
      · exact ih (v1 ||| ((1 : Int32) <<< (v2 &&& 31))) (v2 + 1) p2.2
def gX10_who (n : Nat)  (V : VT) : Option (Int32 × VT) :=
  (some (wF V 137 0 0)).bind fun V1 =>
  (gX10_laysSours n V1).bind fun V2 =>
  gX10_who_b13 n n 0 0 V2
set_option maxHeartbeats 1000000 in
theorem smX10_who {E : VE} {n : Nat}  {V : VT}  : fX10_who n 137 (hpV E V) = (gX10_who n  V).map (fun p => (p.1, hpV E p.2)) := by
  unfold fX10_who gX10_who
  refine sb_some (s_isO rfl) ?_
  refine sb_V (o' := some (wF V 137 0 0)) (w10_0 rfl) (fun V1 => ?_)
  refine sb_V (o' := gX10_laysSours n V1) (smX10_laysSours) (fun V2 => ?_)
  exact smX10_who_b13 _ 0 0 V2
