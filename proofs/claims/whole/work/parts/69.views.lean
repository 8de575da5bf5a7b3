/-! Functions over the views, and that the functions over the abstract heap are these (written by gen2.py). -/
def gX9_roots (E : VE) (n : Nat)  (V : VT) : Option (Int32 × VT) :=
  (gX5_rootBits n E.1 V).bind fun p1 =>
  some (p1.1, p1.2)
set_option maxHeartbeats 1000000 in
theorem smX9_roots {E : VE} {n : Nat}  {V : VT} (hT : E.1 = 6 ∨ E.1 = 15)  : fX9_roots n 2 (hpV E V) = (gX9_roots E n  V).map (fun p => (p.1, hpV E p.2)) := by
  have hT1 := (cls_T hT).1
  have hT2 := (cls_T hT).2
  unfold fX9_roots gX9_roots
  refine sb_some (s_isO rfl) ?_
  refine sb_some (s_gR rfl rfl) ?_
  refine sb_P (o' := gX5_rootBits n E.1 V) (smX5_rootBits hT1) (fun p1 => ?_)
  rfl
def gX9_round (E : VE) (n : Nat)  (V : VT) : Option (Int32 × VT) :=
  (gX4_readRound n 83 E.1 V).bind fun p1 =>
  if p1.1 = 0 then
  ((gX2_copy n 80 83 p1.2).bind fun V2 =>
  some (p1.1, V2))
  else
  (some (p1.1, p1.2))
set_option maxHeartbeats 1000000 in
theorem smX9_round {E : VE} {n : Nat}  {V : VT} (hT : E.1 = 6 ∨ E.1 = 15)  : fX9_round n 2 (hpV E V) = (gX9_round E n  V).map (fun p => (p.1, hpV E p.2)) := by
  have hT1 := (cls_T hT).1
  have hT2 := (cls_T hT).2
  unfold fX9_round gX9_round
  refine sb_some (s_isO rfl) ?_
  refine sb_some (s_gR rfl rfl) ?_
  refine sb_some (s_gR rfl rfl) ?_
  refine sb_some (s_gR rfl rfl) ?_
  refine sb_P (o' := gX4_readRound n 83 E.1 V) (smX4_readRound rfl hT1) (fun p1 => ?_)
  refine sb_ite ?_ ?_
  · refine sb_some (s_gR rfl rfl) ?_
    refine sb_some (s_gR rfl rfl) ?_
    refine sb_V (o' := gX2_copy n 80 83 p1.2) (smX2_copy rfl rfl) (fun V2 => ?_)
    rfl
  · rfl
def gX9_see (E : VE) (v1 : Int32) (v2 : Int32) (v3 : Int32) (V : VT) : Option (Int32 × VT) :=
  (gX9_within v1 0 9 V).bind fun p1 =>
  if p1.1 = 0 then
  (some (0, p1.2))
  else
  ((gX9_within v2 0 40 p1.2).bind fun p2 =>
  if p2.1 = 0 then
  (some (0, p2.2))
  else
  ((gX7_add 86 v1 v2 v3 p2.2).bind fun p3 =>
  if p3.1 = 0 then
  (some (0, p3.2))
  else
  (some (1, p3.2))))
set_option maxHeartbeats 1000000 in
theorem smX9_see {E : VE} {v1 : Int32} {v2 : Int32} {v3 : Int32} {V : VT} (hT : E.1 = 6 ∨ E.1 = 15)    : fX9_see 2 v1 v2 v3 (hpV E V) = (gX9_see E v1 v2 v3 V).map (fun p => (p.1, hpV E p.2)) := by
  have hT1 := (cls_T hT).1
  have hT2 := (cls_T hT).2
  unfold fX9_see gX9_see
  refine sb_some (s_isO rfl) ?_
  refine sb_P (o' := gX9_within v1 0 9 V) (smX9_within) (fun p1 => ?_)
  refine sb_ite ?_ ?_
  · rfl
  · refine sb_P (o' := gX9_within v2 0 40 p1.2) (smX9_within) (fun p2 => ?_)
    refine sb_ite ?_ ?_
    · rfl
    · refine sb_some (s_gR rfl rfl) ?_
      refine sb_P (o' := gX7_add 86 v1 v2 v3 p2.2) (smX7_add rfl) (fun p3 => ?_)
      refine sb_ite ?_ ?_
      · rfl
      · rfl
def gX9_sourest_b6 (E : VE) (n : Nat) : Nat → Int32 → Int32 → Int32 → VT → Option (Int32 × VT)
  | 0, _, _, _, _ => none
  | w + 1, v1, v2, v3, V =>
    if (V.F E.1 6) ≤ v3 then
    (some (v1, V))
    else
    ((rdA 7 (V.A 25) v3).bind fun x1 =>
    if x1 ≤ v2 then
    (gX9_sourest_b6 E n w v1 v2 (v3 + 1) V)
    else
    ((rdA 7 (V.A 25) v3).bind fun x2 =>
    gX9_sourest_b6 E n w v3 x2 (v3 + 1) V))
set_option maxHeartbeats 1000000 in
theorem smX9_sourest_b6 {E : VE} {n : Nat} (hT : E.1 = 6 ∨ E.1 = 15) : ∀ (w : Nat) (v1 : Int32)  (v2 : Int32)  (v3 : Int32)  (V : VT), fX9_sourest_b6 n w 2 v1 v2 v3 (hpV E V) = (gX9_sourest_b6 E n w v1 v2 v3 V).map (fun p => (p.1, hpV E p.2)) := by
  have hT1 := (cls_T hT).1
  have hT2 := (cls_T hT).2
  intro w
  induction w with
  | zero => intro v1 v2 v3 V; rfl
  | succ w ih =>
    intro v1 v2 v3 V
    unfold fX9_sourest_b6 gX9_sourest_b6
    refine sb_some (s_gR rfl rfl) ?_
    refine sb_some (s_gI hT1 rfl) ?_
    refine sb_ite ?_ ?_
    · rfl
    · refine sb_some (s_gR rfl rfl) ?_
      refine sb_some (s_gR rfl rfl) ?_
      refine sb_bindE (s_aI rfl) (fun x1 => ?_)
      refine sb_ite ?_ ?_
      · exact ih v1 v2 (v3 + 1) V
      · refine sb_some (s_gR rfl rfl) ?_
        refine sb_some (s_gR rfl rfl) ?_
        refine sb_bindE (s_aI rfl) (fun x2 => ?_)
        exact ih v3 x2 (v3 + 1) V
def gX9_sourest (E : VE) (n : Nat)  (V : VT) : Option (Int32 × VT) :=
  gX9_sourest_b6 E n n ((-1)) 0 0 V
set_option maxHeartbeats 1000000 in
theorem smX9_sourest {E : VE} {n : Nat}  {V : VT} (hT : E.1 = 6 ∨ E.1 = 15)  : fX9_sourest n 2 (hpV E V) = (gX9_sourest E n  V).map (fun p => (p.1, hpV E p.2)) := by
  have hT1 := (cls_T hT).1
  have hT2 := (cls_T hT).2
  unfold fX9_sourest gX9_sourest
  refine sb_some (s_isO rfl) ?_
  exact smX9_sourest_b6 hT _ ((-1)) 0 0 V
def gX9_spread (E : VE) (n : Nat) (v1 : Int32) (V : VT) : Option (Int32 × VT) :=
  (gX9_isMatter E v1 V).bind fun p1 =>
  if p1.1 = 0 then
  (some ((-1), p1.2))
  else
  ((gX8_canSpread 24 E.1 v1 p1.2).bind fun p2 =>
  if p2.1 = 0 then
  (some ((-1), p2.2))
  else
  ((gX0_keep n 24 p2.2).bind fun V3 =>
  (gX8_putOn n 24 E.1 v1 V3).bind fun V4 =>
  (rdA 7 (V4.A 25) v1).bind fun x5 =>
  some (x5, V4)))
set_option maxHeartbeats 1000000 in
theorem smX9_spread {E : VE} {n : Nat} {v1 : Int32} {V : VT} (hT : E.1 = 6 ∨ E.1 = 15)  : fX9_spread n 2 v1 (hpV E V) = (gX9_spread E n v1 V).map (fun p => (p.1, hpV E p.2)) := by
  have hT1 := (cls_T hT).1
  have hT2 := (cls_T hT).2
  unfold fX9_spread gX9_spread
  refine sb_some (s_isO rfl) ?_
  refine sb_P (o' := gX9_isMatter E v1 V) (smX9_isMatter hT) (fun p1 => ?_)
  refine sb_ite ?_ ?_
  · rfl
  · refine sb_some (s_gR rfl rfl) ?_
    refine sb_some (s_gR rfl rfl) ?_
    refine sb_P (o' := gX8_canSpread 24 E.1 v1 p1.2) (smX8_canSpread rfl hT1) (fun p2 => ?_)
    refine sb_ite ?_ ?_
    · rfl
    · refine sb_some (s_gR rfl rfl) ?_
      refine sb_some (s_gR rfl rfl) ?_
      refine sb_V (o' := gX0_keep n 24 p2.2) (smX0_keep rfl) (fun V3 => ?_)
      refine sb_some (s_gR rfl rfl) ?_
      refine sb_some (s_gR rfl rfl) ?_
      refine sb_V (o' := gX8_putOn n 24 E.1 v1 V3) (smX8_putOn rfl hT1) (fun V4 => ?_)
      refine sb_some (s_gR rfl rfl) ?_
      refine sb_some (s_gR rfl rfl) ?_
      refine sb_bindE (s_aI rfl) (fun x5 => ?_)
      rfl
def gX9_story_b4 (E : VE) (n : Nat) : Nat → Int32 → Int32 → VT → Option (Int32 × VT)
  | 0, _, _, _ => none
  | w + 1, v1, v2, V =>
    if (V.F E.1 6) ≤ v2 then
    (some (v1, V))
    else
    ((gX5_storyFrom n E.1 v2 0 V).bind fun p1 =>
    gX9_story_b4 E n w (if v1 < p1.1 then p1.1 else v1) (v2 + 1) p1.2)
set_option maxHeartbeats 1000000 in
theorem smX9_story_b4 {E : VE} {n : Nat} (hT : E.1 = 6 ∨ E.1 = 15) : ∀ (w : Nat) (v1 : Int32)  (v2 : Int32)  (V : VT), fX9_story_b4 n w 2 v1 v2 (hpV E V) = (gX9_story_b4 E n w v1 v2 V).map (fun p => (p.1, hpV E p.2)) := by
  have hT1 := (cls_T hT).1
  have hT2 := (cls_T hT).2
  intro w
  induction w with
  | zero => intro v1 v2 V; rfl
  | succ w ih =>
    intro v1 v2 V
    unfold fX9_story_b4 gX9_story_b4
    refine sb_some (s_gR rfl rfl) ?_
    refine sb_some (s_gI hT1 rfl) ?_
    refine sb_ite ?_ ?_
    · rfl
    · refine sb_some (s_gR rfl rfl) ?_
      refine sb_P (o' := gX5_storyFrom n E.1 v2 0 V) (smX5_storyFrom hT1) (fun p1 => ?_)
      exact ih (if v1 < p1.1 then p1.1 else v1) (v2 + 1) p1.2
def gX9_story (E : VE) (n : Nat)  (V : VT) : Option (Int32 × VT) :=
  gX9_story_b4 E n n 0 0 V
set_option maxHeartbeats 1000000 in
theorem smX9_story {E : VE} {n : Nat}  {V : VT} (hT : E.1 = 6 ∨ E.1 = 15)  : fX9_story n 2 (hpV E V) = (gX9_story E n  V).map (fun p => (p.1, hpV E p.2)) := by
  have hT1 := (cls_T hT).1
  have hT2 := (cls_T hT).2
  unfold fX9_story gX9_story
  refine sb_some (s_isO rfl) ?_
  exact smX9_story_b4 hT _ 0 0 V
def gX9_suspects_b10 (E : VE) (n : Nat) : Nat → Int32 → Int32 → VT → Option (Int32 × VT)
  | 0, _, _, _ => none
  | w + 1, v1, v2, V =>
    if (V.F 86 3) ≤ v2 then
    (some (v1, V))
    else
    ((rdA 8 (V.A 87) v2).bind fun x1 =>
    (rdA 8 (V.A 88) v2).bind fun x2 =>
    (gX9_noSourerBits E n x1 x2 V).bind fun p3 =>
    (rdA 8 (p3.2.A 89) v2).bind fun x4 =>
    if x4 = 0 then
    (gX9_suspects_b10 E n w (v1 &&& (p3.1 ^^^ ((-1)))) (v2 + 1) p3.2)
    else
    (gX9_suspects_b10 E n w (v1 &&& p3.1) (v2 + 1) p3.2))
set_option maxHeartbeats 1000000 in
theorem smX9_suspects_b10 {E : VE} {n : Nat} (hT : E.1 = 6 ∨ E.1 = 15) : ∀ (w : Nat) (v1 : Int32)  (v2 : Int32)  (V : VT), fX9_suspects_b10 n w 2 v1 v2 (hpV E V) = (gX9_suspects_b10 E n w v1 v2 V).map (fun p => (p.1, hpV E p.2)) := by
  have hT1 := (cls_T hT).1
  have hT2 := (cls_T hT).2
  intro w
  induction w with
  | zero => intro v1 v2 V; rfl
  | succ w ih =>
    intro v1 v2 V
    unfold fX9_suspects_b10 gX9_suspects_b10
    refine sb_some (s_gR rfl rfl) ?_
    refine sb_some (s_gI rfl rfl) ?_
    refine sb_ite ?_ ?_
    · rfl
    · refine sb_some (s_gR rfl rfl) ?_
      refine sb_some (s_gR rfl rfl) ?_
      refine sb_bindE (s_aI rfl) (fun x1 => ?_)
      refine sb_some (s_gR rfl rfl) ?_
      refine sb_some (s_gR rfl rfl) ?_
      refine sb_bindE (s_aI rfl) (fun x2 => ?_)
      refine sb_P (o' := gX9_noSourerBits E n x1 x2 V) (smX9_noSourerBits hT) (fun p3 => ?_)
      refine sb_some (s_gR rfl rfl) ?_
      refine sb_some (s_gR rfl rfl) ?_
      refine sb_bindE (s_aI rfl) (fun x4 => ?_)
      refine sb_ite ?_ ?_
      · exact ih (v1 &&& (p3.1 ^^^ ((-1)))) (v2 + 1) p3.2
      · exact ih (v1 &&& p3.1) (v2 + 1) p3.2
def gX9_suspects (E : VE) (n : Nat)  (V : VT) : Option (Int32 × VT) :=
  (gX5_everyone E.1 V).bind fun p1 =>
  gX9_suspects_b10 E n n p1.1 0 p1.2
set_option maxHeartbeats 1000000 in
theorem smX9_suspects {E : VE} {n : Nat}  {V : VT} (hT : E.1 = 6 ∨ E.1 = 15)  : fX9_suspects n 2 (hpV E V) = (gX9_suspects E n  V).map (fun p => (p.1, hpV E p.2)) := by
  have hT1 := (cls_T hT).1
  have hT2 := (cls_T hT).2
  unfold fX9_suspects gX9_suspects
  refine sb_some (s_isO rfl) ?_
  refine sb_some (s_gR rfl rfl) ?_
  refine sb_P (o' := gX5_everyone E.1 V) (smX5_everyone hT1) (fun p1 => ?_)
  exact smX9_suspects_b10 hT _ p1.1 0 p1.2
def gX9_taste_b32 (E : VE) (n : Nat) (K22 : Int32 → Int32 → Int32 → Int32 → Int32 → VT → Option (Int32 × VT)) : Nat → Int32 → Int32 → Int32 → Int32 → Int32 → Int32 → VT → Option (Int32 × VT)
  | 0, _, _, _, _, _, _, _ => none
  | w + 1, v1, v2, v3, v4, v5, v6, V =>
    if 40 < v6 then
    (K22 v1 v2 v3 v4 (v5 + 1) V)
    else
    ((gX9_noSourerBits E n v5 v6 V).bind fun p1 =>
    (gJ6_bitCount_0f7a4 (v1 &&& p1.1) p1.2).bind fun p2 =>
    if v4 ≤ (if p2.1 < (v2 - p2.1) then (v2 - p2.1) else p2.1) then
    (gX9_taste_b32 E n K22 w v1 v2 v3 v4 v5 (v6 + 1) p2.2)
    else
    (gX9_taste_b32 E n K22 w v1 v2 ((100 * v5) + v6) (if p2.1 < (v2 - p2.1) then (v2 - p2.1) else p2.1) v5 (v6 + 1) p2.2))
set_option maxHeartbeats 1000000 in
theorem smX9_taste_b32 {E : VE} {n : Nat} {K22 : Int32 → Int32 → Int32 → Int32 → Int32 → VT → Option (Int32 × VT)} {k22 : Nat → Int32 → Int32 → Int32 → Int32 → Int32 → qH → Option (Int32 × qH)} (hT : E.1 = 6 ∨ E.1 = 15) (hK22 : ∀ (v1 : Int32)  (v2 : Int32)  (v3 : Int32)  (v4 : Int32)  (v5 : Int32)  (V : VT), k22 2 v1 v2 v3 v4 v5 (hpV E V) = (K22 v1 v2 v3 v4 v5 V).map (fun p => (p.1, hpV E p.2))) : ∀ (w : Nat) (v1 : Int32)  (v2 : Int32)  (v3 : Int32)  (v4 : Int32)  (v5 : Int32)  (v6 : Int32)  (V : VT), fX9_taste_b32 n k22 w 2 v1 v2 v3 v4 v5 v6 (hpV E V) = (gX9_taste_b32 E n K22 w v1 v2 v3 v4 v5 v6 V).map (fun p => (p.1, hpV E p.2)) := by
  have hT1 := (cls_T hT).1
  have hT2 := (cls_T hT).2
  intro w
  induction w with
  | zero => intro v1 v2 v3 v4 v5 v6 V; rfl
  | succ w ih =>
    intro v1 v2 v3 v4 v5 v6 V
    unfold fX9_taste_b32 gX9_taste_b32
    refine sb_ite ?_ ?_
    · exact hK22 v1 v2 v3 v4 (v5 + 1) V
    · refine sb_P (o' := gX9_noSourerBits E n v5 v6 V) (smX9_noSourerBits hT) (fun p1 => ?_)
      refine sb_P (o' := gJ6_bitCount_0f7a4 (v1 &&& p1.1) p1.2) (smJ6_bitCount_0f7a4) (fun p2 => ?_)
      refine sb_ite ?_ ?_
      · exact ih v1 v2 v3 v4 v5 (v6 + 1) p2.2
      · exact ih v1 v2 ((100 * v5) + v6) (if p2.1 < (v2 - p2.1) then (v2 - p2.1) else p2.1) v5 (v6 + 1) p2.2
def gX9_taste_b22 (E : VE) (n : Nat) : Nat → Int32 → Int32 → Int32 → Int32 → Int32 → VT → Option (Int32 × VT)
  | 0, _, _, _, _, _, _ => none
  | w + 1, v1, v2, v3, v4, v5, V =>
    if 9 < v5 then
    (some (v3, V))
    else
    (gX9_taste_b32 E n (gX9_taste_b22 E n w) n v1 v2 v3 v4 v5 0 V)
set_option maxHeartbeats 1000000 in
theorem smX9_taste_b22 {E : VE} {n : Nat} (hT : E.1 = 6 ∨ E.1 = 15) : ∀ (w : Nat) (v1 : Int32)  (v2 : Int32)  (v3 : Int32)  (v4 : Int32)  (v5 : Int32)  (V : VT), fX9_taste_b22 n w 2 v1 v2 v3 v4 v5 (hpV E V) = (gX9_taste_b22 E n w v1 v2 v3 v4 v5 V).map (fun p => (p.1, hpV E p.2)) := by
  have hT1 := (cls_T hT).1
  have hT2 := (cls_T hT).2
  intro w
  induction w with
  | zero => intro v1 v2 v3 v4 v5 V; rfl
  | succ w ih =>
    intro v1 v2 v3 v4 v5 V
    unfold fX9_taste_b22 gX9_taste_b22
    refine sb_ite ?_ ?_
    · rfl
    · exact smX9_taste_b32 hT ih _ v1 v2 v3 v4 v5 0 V
def gX9_taste (E : VE) (n : Nat)  (V : VT) : Option (Int32 × VT) :=
  (gX9_reckonTastes E n V).bind fun V1 =>
  (gX9_suspects E n V1).bind fun p2 =>
  (gJ6_bitCount_0f7a4 p2.1 p2.2).bind fun p3 =>
  gX9_taste_b22 E n n p2.1 p3.1 ((-1)) p3.1 0 p3.2
set_option maxHeartbeats 1000000 in
theorem smX9_taste {E : VE} {n : Nat}  {V : VT} (hT : E.1 = 6 ∨ E.1 = 15)  : fX9_taste n 2 (hpV E V) = (gX9_taste E n  V).map (fun p => (p.1, hpV E p.2)) := by
  have hT1 := (cls_T hT).1
  have hT2 := (cls_T hT).2
  unfold fX9_taste gX9_taste
  refine sb_some (s_isO rfl) ?_
  refine sb_V (o' := gX9_reckonTastes E n V) (smX9_reckonTastes hT) (fun V1 => ?_)
  refine sb_P (o' := gX9_suspects E n V1) (smX9_suspects hT) (fun p2 => ?_)
  refine sb_P (o' := gJ6_bitCount_0f7a4 p2.1 p2.2) (smJ6_bitCount_0f7a4) (fun p3 => ?_)
  exact smX9_taste_b22 hT _ p2.1 p3.1 ((-1)) p3.1 0 p3.2
def gX9_undo (E : VE) (n : Nat)  (V : VT) : Option (Int32 × VT) :=
  (gX0_giveBack n 24 V).bind fun p1 =>
  (qB p1.1).bind fun _ =>
  some (p1.1, p1.2)
set_option maxHeartbeats 1000000 in
theorem smX9_undo {E : VE} {n : Nat}  {V : VT} (hT : E.1 = 6 ∨ E.1 = 15)  : fX9_undo n 2 (hpV E V) = (gX9_undo E n  V).map (fun p => (p.1, hpV E p.2)) := by
  have hT1 := (cls_T hT).1
  have hT2 := (cls_T hT).2
  unfold fX9_undo gX9_undo
  refine sb_some (s_isO rfl) ?_
  refine sb_some (s_gR rfl rfl) ?_
  refine sb_some (s_gR rfl rfl) ?_
  refine sb_P (o' := gX0_giveBack n 24 V) (smX0_giveBack rfl) (fun p1 => ?_)
  refine sb_bind (fun _ => ?_)
  rfl
def gX9_wants (E : VE) (n : Nat) (v1 : Int32) (V : VT) : Option (Int32 × VT) :=
  (gX9_isMatter E v1 V).bind fun p1 =>
  if p1.1 = 0 then
  (some ((-1), p1.2))
  else
  ((gX9_coatsWanted E n v1 p1.2).bind fun p2 =>
  some (p2.1, p2.2))
set_option maxHeartbeats 1000000 in
theorem smX9_wants {E : VE} {n : Nat} {v1 : Int32} {V : VT} (hT : E.1 = 6 ∨ E.1 = 15)  : fX9_wants n 2 v1 (hpV E V) = (gX9_wants E n v1 V).map (fun p => (p.1, hpV E p.2)) := by
  have hT1 := (cls_T hT).1
  have hT2 := (cls_T hT).2
  unfold fX9_wants gX9_wants
  refine sb_some (s_isO rfl) ?_
  refine sb_P (o' := gX9_isMatter E v1 V) (smX9_isMatter hT) (fun p1 => ?_)
  refine sb_ite ?_ ?_
  · rfl
  · refine sb_P (o' := gX9_coatsWanted E n v1 p1.2) (smX9_coatsWanted hT) (fun p2 => ?_)
    rfl
def gX9_ways (E : VE) (n : Nat) (v1 : Int32) (v2 : Int32) (V : VT) : Option (Int32 × VT) :=
  (gX9_isMatter E v1 V).bind fun p1 =>
  if p1.1 = 0 then
  (some ((-1), p1.2))
  else
  ((gX9_isMatter E v2 p1.2).bind fun p2 =>
  if p2.1 = 0 then
  (some ((-1), p2.2))
  else
  ((gX5_waysTo n E.1 v1 v2 0 p2.2).bind fun p3 =>
  some (p3.1, p3.2)))
set_option maxHeartbeats 1000000 in
theorem smX9_ways {E : VE} {n : Nat} {v1 : Int32} {v2 : Int32} {V : VT} (hT : E.1 = 6 ∨ E.1 = 15)   : fX9_ways n 2 v1 v2 (hpV E V) = (gX9_ways E n v1 v2 V).map (fun p => (p.1, hpV E p.2)) := by
  have hT1 := (cls_T hT).1
  have hT2 := (cls_T hT).2
  unfold fX9_ways gX9_ways
  refine sb_some (s_isO rfl) ?_
  refine sb_P (o' := gX9_isMatter E v1 V) (smX9_isMatter hT) (fun p1 => ?_)
  refine sb_ite ?_ ?_
  · rfl
  · refine sb_P (o' := gX9_isMatter E v2 p1.2) (smX9_isMatter hT) (fun p2 => ?_)
    refine sb_ite ?_ ?_
    · rfl
    · refine sb_some (s_gR rfl rfl) ?_
      refine sb_P (o' := gX5_waysTo n E.1 v1 v2 0 p2.2) (smX5_waysTo hT1) (fun p3 => ?_)
      rfl
def gX9_who (E : VE) (n : Nat)  (V : VT) : Option (Int32 × VT) :=
  (gX9_reckonTastes E n V).bind fun V1 =>
  (gX9_suspects E n V1).bind fun p2 =>
  some (p2.1, p2.2)
set_option maxHeartbeats 1000000 in
theorem smX9_who {E : VE} {n : Nat}  {V : VT} (hT : E.1 = 6 ∨ E.1 = 15)  : fX9_who n 2 (hpV E V) = (gX9_who E n  V).map (fun p => (p.1, hpV E p.2)) := by
  have hT1 := (cls_T hT).1
  have hT2 := (cls_T hT).2
  unfold fX9_who gX9_who
  refine sb_some (s_isO rfl) ?_
  refine sb_V (o' := gX9_reckonTastes E n V) (smX9_reckonTastes hT) (fun V1 => ?_)
  refine sb_P (o' := gX9_suspects E n V1) (smX9_suspects hT) (fun p2 => ?_)
  rfl
def gX9_year (E : VE) (n : Nat)  (V : VT) : Option (Int32 × VT) :=
  (gX0_keep n 24 V).bind fun V1 =>
  (gX8_pass n 24 E.1 V1).bind fun V2 =>
  (gX9_meant E n V2).bind fun p3 =>
  (gJ6_bitCount_0f7a4 p3.1 p3.2).bind fun p4 =>
  some (p4.1, p4.2)
set_option maxHeartbeats 1000000 in
theorem smX9_year {E : VE} {n : Nat}  {V : VT} (hT : E.1 = 6 ∨ E.1 = 15)  : fX9_year n 2 (hpV E V) = (gX9_year E n  V).map (fun p => (p.1, hpV E p.2)) := by
  have hT1 := (cls_T hT).1
  have hT2 := (cls_T hT).2
  unfold fX9_year gX9_year
  refine sb_some (s_isO rfl) ?_
  refine sb_some (s_gR rfl rfl) ?_
  refine sb_some (s_gR rfl rfl) ?_
  refine sb_V (o' := gX0_keep n 24 V) (smX0_keep rfl) (fun V1 => ?_)
  refine sb_some (s_gR rfl rfl) ?_
  refine sb_some (s_gR rfl rfl) ?_
  refine sb_V (o' := gX8_pass n 24 E.1 V1) (smX8_pass rfl hT1) (fun V2 => ?_)
  refine sb_P (o' := gX9_meant E n V2) (smX9_meant hT) (fun p3 => ?_)
  refine sb_P (o' := gJ6_bitCount_0f7a4 p3.1 p3.2) (smJ6_bitCount_0f7a4) (fun p4 => ?_)
  rfl
def gX9_years (E : VE) (n : Nat) (v1 : Int32) (v2 : Int32) (v3 : Int32) (V : VT) : Option (Int32 × VT) :=
  (gX9_within v1 0 9999 V).bind fun p1 =>
  if p1.1 = 0 then
  (some ((-1), p1.2))
  else
  ((gX9_within v2 1 99 p1.2).bind fun p2 =>
  if p2.1 = 0 then
  (some ((-1), p2.2))
  else
  ((gX9_within v3 0 2 p2.2).bind fun p3 =>
  if p3.1 = 0 then
  (some ((-1), p3.2))
  else
  ((gX9_liveYears E n v1 v2 p3.2).bind fun p4 =>
  if v3 = 0 then
  (some (p4.1, p4.2))
  else
  (if v3 = 1 then
  ((gX8_meantBits n 27 E.1 p4.2).bind fun p5 =>
  some (p5.1, p5.2))
  else
  (some (p4.2.F 27 2, p4.2))))))
set_option maxHeartbeats 1000000 in
theorem smX9_years {E : VE} {n : Nat} {v1 : Int32} {v2 : Int32} {v3 : Int32} {V : VT} (hT : E.1 = 6 ∨ E.1 = 15)    : fX9_years n 2 v1 v2 v3 (hpV E V) = (gX9_years E n v1 v2 v3 V).map (fun p => (p.1, hpV E p.2)) := by
  have hT1 := (cls_T hT).1
  have hT2 := (cls_T hT).2
  unfold fX9_years gX9_years
  refine sb_some (s_isO rfl) ?_
  refine sb_P (o' := gX9_within v1 0 9999 V) (smX9_within) (fun p1 => ?_)
  refine sb_ite ?_ ?_
  · rfl
  · refine sb_P (o' := gX9_within v2 1 99 p1.2) (smX9_within) (fun p2 => ?_)
    refine sb_ite ?_ ?_
    · rfl
    · refine sb_P (o' := gX9_within v3 0 2 p2.2) (smX9_within) (fun p3 => ?_)
      refine sb_ite ?_ ?_
      · rfl
      · refine sb_P (o' := gX9_liveYears E n v1 v2 p3.2) (smX9_liveYears hT) (fun p4 => ?_)
        refine sb_ite ?_ ?_
        · rfl
        · refine sb_ite ?_ ?_
          · refine sb_some (s_gR rfl rfl) ?_
            refine sb_some (s_gR rfl rfl) ?_
            refine sb_P (o' := gX8_meantBits n 27 E.1 p4.2) (smX8_meantBits rfl hT1) (fun p5 => ?_)
            rfl
          · refine sb_some (s_gR rfl rfl) ?_
            refine sb_some (s_gI rfl rfl) ?_
            rfl
