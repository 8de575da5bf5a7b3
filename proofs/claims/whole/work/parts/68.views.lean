/-! Functions over the views, and that the functions over the abstract heap are these (written by gen2.py). -/
def gX9_cheap (E : VE) (n : Nat) (v1 : Int32) (v2 : Int32) (V : VT) : Option (Int32 × VT) :=
  (gX9_isMatter E v1 V).bind fun p1 =>
  if p1.1 = 0 then
  (some ((-2), p1.2))
  else
  ((gX9_within v2 0 1 p1.2).bind fun p2 =>
  if p2.1 = 0 then
  (some ((-2), p2.2))
  else
  ((gX9_reckonCosts E n p2.2).bind fun V3 =>
  (gX9_cheapestFor E n v1 V3).bind fun p4 =>
  if p4.1 = ((-1)) then
  (some ((-2), p4.2))
  else
  (if v2 = 1 then
  (some (p4.1, p4.2))
  else
  ((gX9_right E n p4.2).bind fun p5 =>
  (gX9_bit p5.1 v1 p5.2).bind fun p6 =>
  if p6.1 = 1 then
  (some (0, p6.2))
  else
  ((rdA 7 (p6.2.A 91) p4.1).bind fun x7 =>
  some (x7, p6.2))))))
set_option maxHeartbeats 1000000 in
theorem smX9_cheap {E : VE} {n : Nat} {v1 : Int32} {v2 : Int32} {V : VT} (hT : E.1 = 6 ∨ E.1 = 15)   : fX9_cheap n 2 v1 v2 (hpV E V) = (gX9_cheap E n v1 v2 V).map (fun p => (p.1, hpV E p.2)) := by
  have hT1 := (cls_T hT).1
  have hT2 := (cls_T hT).2
  unfold fX9_cheap gX9_cheap
  refine sb_some (s_isO rfl) ?_
  refine sb_P (o' := gX9_isMatter E v1 V) (smX9_isMatter hT) (fun p1 => ?_)
  refine sb_ite ?_ ?_
  · rfl
  · refine sb_P (o' := gX9_within v2 0 1 p1.2) (smX9_within) (fun p2 => ?_)
    refine sb_ite ?_ ?_
    · rfl
    · refine sb_V (o' := gX9_reckonCosts E n p2.2) (smX9_reckonCosts hT) (fun V3 => ?_)
      refine sb_P (o' := gX9_cheapestFor E n v1 V3) (smX9_cheapestFor hT) (fun p4 => ?_)
      refine sb_ite ?_ ?_
      · rfl
      · refine sb_ite ?_ ?_
        · rfl
        · refine sb_P (o' := gX9_right E n p4.2) (smX9_right hT) (fun p5 => ?_)
          refine sb_P (o' := gX9_bit p5.1 v1 p5.2) (smX9_bit) (fun p6 => ?_)
          refine sb_ite ?_ ?_
          · rfl
          · refine sb_some (s_gR rfl rfl) ?_
            refine sb_bindE (s_aI rfl) (fun x7 => ?_)
            rfl
def gX9_cost (E : VE) (n : Nat) (v1 : Int32) (V : VT) : Option (Int32 × VT) :=
  (gX9_isMatter E v1 V).bind fun p1 =>
  if p1.1 = 0 then
  (some ((-1), p1.2))
  else
  ((gX9_coatsWanted E n v1 p1.2).bind fun p2 =>
  (gX9_mustardFor E v1 p2.1 p2.2).bind fun p3 =>
  some (p3.1, p3.2))
set_option maxHeartbeats 1000000 in
theorem smX9_cost {E : VE} {n : Nat} {v1 : Int32} {V : VT} (hT : E.1 = 6 ∨ E.1 = 15)  : fX9_cost n 2 v1 (hpV E V) = (gX9_cost E n v1 V).map (fun p => (p.1, hpV E p.2)) := by
  have hT1 := (cls_T hT).1
  have hT2 := (cls_T hT).2
  unfold fX9_cost gX9_cost
  refine sb_some (s_isO rfl) ?_
  refine sb_P (o' := gX9_isMatter E v1 V) (smX9_isMatter hT) (fun p1 => ?_)
  refine sb_ite ?_ ?_
  · rfl
  · refine sb_P (o' := gX9_coatsWanted E n v1 p1.2) (smX9_coatsWanted hT) (fun p2 => ?_)
    refine sb_P (o' := gX9_mustardFor E v1 p2.1 p2.2) (smX9_mustardFor hT) (fun p3 => ?_)
    rfl
def gX9_sumOf_b4 (E : VE) (n : Nat) : Nat → Nat → Nat → Int32 → Int32 → VT → Option (Int32 × VT)
  | 0, _, _, _, _, _ => none
  | w + 1, v1, mv1, v2, v3, V =>
    if (V.F E.1 6) ≤ v3 then
    (some (v2, V))
    else
    (if (nI mv1) ≤ v3 then
    (some (v2, V))
    else
    ((rdA mv1 (V.A v1) v3).bind fun x1 =>
    gX9_sumOf_b4 E n w v1 mv1 (v2 + x1) (v3 + 1) V))
set_option maxHeartbeats 1000000 in
theorem smX9_sumOf_b4 {E : VE} {n : Nat} (hT : E.1 = 6 ∨ E.1 = 15) : ∀ (w : Nat) (v1 : Nat)  (mv1 : Nat) (hv1 : arrAt v1 = some (.int, mv1)) (v2 : Int32)  (v3 : Int32)  (V : VT), fX9_sumOf_b4 n w 2 v1 v2 v3 (hpV E V) = (gX9_sumOf_b4 E n w v1 mv1 v2 v3 V).map (fun p => (p.1, hpV E p.2)) := by
  have hT1 := (cls_T hT).1
  have hT2 := (cls_T hT).2
  intro w
  induction w with
  | zero => intro v1 mv1 hv1 v2 v3 V; rfl
  | succ w ih =>
    intro v1 mv1 hv1 v2 v3 V
    unfold fX9_sumOf_b4 gX9_sumOf_b4
    refine sb_some (s_gR rfl rfl) ?_
    refine sb_some (s_gI hT1 rfl) ?_
    refine sb_ite ?_ ?_
    · rfl
    · refine sb_some (x := nI mv1) (s_aN hv1) ?_
      refine sb_ite ?_ ?_
      · rfl
      · refine sb_bindE (s_aI hv1) (fun x1 => ?_)
        exact ih v1 mv1 hv1 (v2 + x1) (v3 + 1) V
def gX9_sumOf (E : VE) (n : Nat) (v1 : Nat) (m1 : Nat) (V : VT) : Option (Int32 × VT) :=
  gX9_sumOf_b4 E n n v1 m1 0 0 V
set_option maxHeartbeats 1000000 in
theorem smX9_sumOf {E : VE} {n : Nat} {v1 : Nat} {m1 : Nat} {V : VT} (hT : E.1 = 6 ∨ E.1 = 15)  (h1 : arrAt v1 = some (.int, m1)) : fX9_sumOf n 2 v1 (hpV E V) = (gX9_sumOf E n v1 m1 V).map (fun p => (p.1, hpV E p.2)) := by
  have hT1 := (cls_T hT).1
  have hT2 := (cls_T hT).2
  unfold fX9_sumOf gX9_sumOf
  refine sb_some (s_isO rfl) ?_
  exact smX9_sumOf_b4 hT _ v1 m1 h1 0 0 V
def gX9_count (E : VE) (n : Nat) (v1 : Int32) (V : VT) : Option (Int32 × VT) :=
  if v1 = 0 then
  (some (V.F E.1 6, V))
  else
  (if v1 = 1 then
  (some (V.F E.1 7, V))
  else
  (if v1 = 2 then
  (some (V.F E.1 9, V))
  else
  (if v1 = 3 then
  (some (V.F 24 3, V))
  else
  (if v1 = 4 then
  (some (V.F 24 2, V))
  else
  (if v1 = 5 then
  ((gX9_sumOf E n 25 7 V).bind fun p1 =>
  some (p1.1, p1.2))
  else
  (if v1 = 6 then
  ((gX9_sumOf E n 26 7 V).bind fun p2 =>
  some (p2.1, p2.2))
  else
  (if v1 = 7 then
  (some (V.F 80 2, V))
  else
  (if v1 = 8 then
  (some (V.F 86 3, V))
  else
  (if v1 = 9 then
  (some (V.F 30 1, V))
  else
  (if v1 = 10 then
  (some (V.F 3 1, V))
  else
  (some ((-1), V))))))))))))
set_option maxHeartbeats 1000000 in
theorem smX9_count {E : VE} {n : Nat} {v1 : Int32} {V : VT} (hT : E.1 = 6 ∨ E.1 = 15)  : fX9_count n 2 v1 (hpV E V) = (gX9_count E n v1 V).map (fun p => (p.1, hpV E p.2)) := by
  have hT1 := (cls_T hT).1
  have hT2 := (cls_T hT).2
  unfold fX9_count gX9_count
  refine sb_some (s_isO rfl) ?_
  refine sb_ite ?_ ?_
  · refine sb_some (s_gR rfl rfl) ?_
    refine sb_some (s_gI hT1 rfl) ?_
    rfl
  · refine sb_ite ?_ ?_
    · refine sb_some (s_gR rfl rfl) ?_
      refine sb_some (s_gI hT1 rfl) ?_
      rfl
    · refine sb_ite ?_ ?_
      · refine sb_some (s_gR rfl rfl) ?_
        refine sb_some (s_gI hT1 rfl) ?_
        rfl
      · refine sb_ite ?_ ?_
        · refine sb_some (s_gR rfl rfl) ?_
          refine sb_some (s_gI rfl rfl) ?_
          rfl
        · refine sb_ite ?_ ?_
          · refine sb_some (s_gR rfl rfl) ?_
            refine sb_some (s_gI rfl rfl) ?_
            rfl
          · refine sb_ite ?_ ?_
            · refine sb_some (s_gR rfl rfl) ?_
              refine sb_some (s_gR rfl rfl) ?_
              refine sb_P (o' := gX9_sumOf E n 25 7 V) (smX9_sumOf hT rfl) (fun p1 => ?_)
              rfl
            · refine sb_ite ?_ ?_
              · refine sb_some (s_gR rfl rfl) ?_
                refine sb_some (s_gR rfl rfl) ?_
                refine sb_P (o' := gX9_sumOf E n 26 7 V) (smX9_sumOf hT rfl) (fun p2 => ?_)
                rfl
              · refine sb_ite ?_ ?_
                · refine sb_some (s_gR rfl rfl) ?_
                  refine sb_some (s_gI rfl rfl) ?_
                  rfl
                · refine sb_ite ?_ ?_
                  · refine sb_some (s_gR rfl rfl) ?_
                    refine sb_some (s_gI rfl rfl) ?_
                    rfl
                  · refine sb_ite ?_ ?_
                    · refine sb_some (s_gR rfl rfl) ?_
                      refine sb_some (s_gI rfl rfl) ?_
                      rfl
                    · refine sb_ite ?_ ?_
                      · refine sb_some (s_gR rfl rfl) ?_
                        refine sb_some (s_gI rfl rfl) ?_
                        rfl
                      · rfl
def gX9_dinners_b27 (E : VE) (n : Nat) : Nat → Int32 → Int32 → Int32 → VT → Option (Int32 × VT)
  | 0, _, _, _, _ => none
  | w + 1, v1, v2, v3, V =>
    if v1 ≤ v3 then
    (some (v2, V))
    else
    ((gX8_pass n 27 E.1 V).bind fun V1 =>
    (gX8_meantBits n 27 E.1 V1).bind fun p2 =>
    (gJ6_bitCount_0f7a4 p2.1 p2.2).bind fun p3 =>
    gX9_dinners_b27 E n w v1 (v2 + p3.1) (v3 + 1) p3.2)
set_option maxHeartbeats 1000000 in
theorem smX9_dinners_b27 {E : VE} {n : Nat} (hT : E.1 = 6 ∨ E.1 = 15) : ∀ (w : Nat) (v1 : Int32)  (v2 : Int32)  (v3 : Int32)  (V : VT), fX9_dinners_b27 n w 2 v1 v2 v3 (hpV E V) = (gX9_dinners_b27 E n w v1 v2 v3 V).map (fun p => (p.1, hpV E p.2)) := by
  have hT1 := (cls_T hT).1
  have hT2 := (cls_T hT).2
  intro w
  induction w with
  | zero => intro v1 v2 v3 V; rfl
  | succ w ih =>
    intro v1 v2 v3 V
    unfold fX9_dinners_b27 gX9_dinners_b27
    refine sb_ite ?_ ?_
    · rfl
    · refine sb_some (s_gR rfl rfl) ?_
      refine sb_some (s_gR rfl rfl) ?_
      refine sb_V (o' := gX8_pass n 27 E.1 V) (smX8_pass rfl hT1) (fun V1 => ?_)
      refine sb_some (s_gR rfl rfl) ?_
      refine sb_some (s_gR rfl rfl) ?_
      refine sb_P (o' := gX8_meantBits n 27 E.1 V1) (smX8_meantBits rfl hT1) (fun p2 => ?_)
      refine sb_P (o' := gJ6_bitCount_0f7a4 p2.1 p2.2) (smJ6_bitCount_0f7a4) (fun p3 => ?_)
      exact ih v1 (v2 + p3.1) (v3 + 1) p3.2
def gX9_dinners (E : VE) (n : Nat) (v1 : Int32) (V : VT) : Option (Int32 × VT) :=
  (gX9_within v1 1 60 V).bind fun p1 =>
  if p1.1 = 0 then
  (some ((-1), p1.2))
  else
  ((gX8_copy n 27 24 p1.2).bind fun V2 =>
  gX9_dinners_b27 E n n v1 0 0 V2)
set_option maxHeartbeats 1000000 in
theorem smX9_dinners {E : VE} {n : Nat} {v1 : Int32} {V : VT} (hT : E.1 = 6 ∨ E.1 = 15)  : fX9_dinners n 2 v1 (hpV E V) = (gX9_dinners E n v1 V).map (fun p => (p.1, hpV E p.2)) := by
  have hT1 := (cls_T hT).1
  have hT2 := (cls_T hT).2
  unfold fX9_dinners gX9_dinners
  refine sb_some (s_isO rfl) ?_
  refine sb_P (o' := gX9_within v1 1 60 V) (smX9_within) (fun p1 => ?_)
  refine sb_ite ?_ ?_
  · rfl
  · refine sb_some (s_gR rfl rfl) ?_
    refine sb_some (s_gR rfl rfl) ?_
    refine sb_V (o' := gX8_copy n 27 24 p1.2) (smX8_copy rfl rfl) (fun V2 => ?_)
    exact smX9_dinners_b27 hT _ v1 0 0 V2
def gX9_drawnBelow (v0 : Int64) (v2 : Int32) (V : VT) : Option (Int32 × VT) :=
  if 0 < v2 then
  ((qZL v2.toInt64).bind fun _ =>
  some (((v0 / 65536) - (v0 / 65536) / v2.toInt64 * v2.toInt64).toInt32, V))
  else
  (some (0, V))
set_option maxHeartbeats 1000000 in
theorem smX9_drawnBelow {E : VE} {v0 : Int64} {v2 : Int32} {V : VT}   : fX9_drawnBelow v0 v2 (hpV E V) = (gX9_drawnBelow v0 v2 V).map (fun p => (p.1, hpV E p.2)) := by
  unfold fX9_drawnBelow gX9_drawnBelow
  refine sb_ite ?_ ?_
  · refine sb_bind (fun _ => ?_)
    rfl
  · rfl
def gX9_easiest (E : VE) (n : Nat)  (V : VT) : Option (Int32 × VT) :=
  (gX9_reckonCosts E n V).bind fun V1 =>
  (gX5_everyone E.1 V1).bind fun p2 =>
  (gX9_meant E n p2.2).bind fun p3 =>
  (gX9_cheapestOf E n (p2.1 &&& (p3.1 ^^^ ((-1)))) p3.2).bind fun p4 =>
  some (p4.1, p4.2)
set_option maxHeartbeats 1000000 in
theorem smX9_easiest {E : VE} {n : Nat}  {V : VT} (hT : E.1 = 6 ∨ E.1 = 15)  : fX9_easiest n 2 (hpV E V) = (gX9_easiest E n  V).map (fun p => (p.1, hpV E p.2)) := by
  have hT1 := (cls_T hT).1
  have hT2 := (cls_T hT).2
  unfold fX9_easiest gX9_easiest
  refine sb_some (s_isO rfl) ?_
  refine sb_V (o' := gX9_reckonCosts E n V) (smX9_reckonCosts hT) (fun V1 => ?_)
  refine sb_some (s_gR rfl rfl) ?_
  refine sb_P (o' := gX5_everyone E.1 V1) (smX5_everyone hT1) (fun p2 => ?_)
  refine sb_P (o' := gX9_meant E n p2.2) (smX9_meant hT) (fun p3 => ?_)
  refine sb_P (o' := gX9_cheapestOf E n (p2.1 &&& (p3.1 ^^^ ((-1)))) p3.2) (smX9_cheapestOf hT) (fun p4 => ?_)
  rfl
def gX9_eat (E : VE) (n : Nat) (v1 : Int32) (V : VT) : Option (Int32 × VT) :=
  (gX9_isMatter E v1 V).bind fun p1 =>
  if p1.1 = 0 then
  (some ((-1), p1.2))
  else
  ((rdA 7 (p1.2.A 26) v1).bind fun x2 =>
  if x2 = 0 then
  (some ((-1), p1.2))
  else
  ((gX0_keep n 24 p1.2).bind fun V3 =>
  (gX8_takeOff 24 E.1 v1 V3).bind fun V4 =>
  (rdA 7 (V4.A 25) v1).bind fun x5 =>
  some (x5, V4)))
set_option maxHeartbeats 1000000 in
theorem smX9_eat {E : VE} {n : Nat} {v1 : Int32} {V : VT} (hT : E.1 = 6 ∨ E.1 = 15)  : fX9_eat n 2 v1 (hpV E V) = (gX9_eat E n v1 V).map (fun p => (p.1, hpV E p.2)) := by
  have hT1 := (cls_T hT).1
  have hT2 := (cls_T hT).2
  unfold fX9_eat gX9_eat
  refine sb_some (s_isO rfl) ?_
  refine sb_P (o' := gX9_isMatter E v1 V) (smX9_isMatter hT) (fun p1 => ?_)
  refine sb_ite ?_ ?_
  · rfl
  · refine sb_some (s_gR rfl rfl) ?_
    refine sb_some (s_gR rfl rfl) ?_
    refine sb_bindE (s_aI rfl) (fun x2 => ?_)
    refine sb_ite ?_ ?_
    · rfl
    · refine sb_some (s_gR rfl rfl) ?_
      refine sb_some (s_gR rfl rfl) ?_
      refine sb_V (o' := gX0_keep n 24 p1.2) (smX0_keep rfl) (fun V3 => ?_)
      refine sb_some (s_gR rfl rfl) ?_
      refine sb_some (s_gR rfl rfl) ?_
      refine sb_V (o' := gX8_takeOff 24 E.1 v1 V3) (smX8_takeOff rfl hT1) (fun V4 => ?_)
      refine sb_some (s_gR rfl rfl) ?_
      refine sb_some (s_gR rfl rfl) ?_
      refine sb_bindE (s_aI rfl) (fun x5 => ?_)
      rfl
def gX9_elders (E : VE) (n : Nat) (v1 : Int32) (V : VT) : Option (Int32 × VT) :=
  (gX9_isMatter E v1 V).bind fun p1 =>
  if p1.1 = 0 then
  (some ((-1), p1.2))
  else
  ((gX5_elderBits n E.1 v1 p1.2).bind fun p2 =>
  some (p2.1, p2.2))
set_option maxHeartbeats 1000000 in
theorem smX9_elders {E : VE} {n : Nat} {v1 : Int32} {V : VT} (hT : E.1 = 6 ∨ E.1 = 15)  : fX9_elders n 2 v1 (hpV E V) = (gX9_elders E n v1 V).map (fun p => (p.1, hpV E p.2)) := by
  have hT1 := (cls_T hT).1
  have hT2 := (cls_T hT).2
  unfold fX9_elders gX9_elders
  refine sb_some (s_isO rfl) ?_
  refine sb_P (o' := gX9_isMatter E v1 V) (smX9_isMatter hT) (fun p1 => ?_)
  refine sb_ite ?_ ?_
  · rfl
  · refine sb_some (s_gR rfl rfl) ?_
    refine sb_P (o' := gX5_elderBits n E.1 v1 p1.2) (smX5_elderBits hT1) (fun p2 => ?_)
    rfl
def gX9_feed (E : VE) (n : Nat) (v1 : Int64) (v3 : Int64) (v5 : Int64) (V : VT) : Option (Int32 × VT) :=
  (gX6_addBytes n v1 V).bind fun V1 =>
  (gX6_addBytes n v3 V1).bind fun V2 =>
  (gX6_addBytes n v5 V2).bind fun V3 =>
  some (V3.F 3 1, V3)
set_option maxHeartbeats 1000000 in
theorem smX9_feed {E : VE} {n : Nat} {v1 : Int64} {v3 : Int64} {v5 : Int64} {V : VT} (hT : E.1 = 6 ∨ E.1 = 15)    : fX9_feed n 2 v1 v3 v5 (hpV E V) = (gX9_feed E n v1 v3 v5 V).map (fun p => (p.1, hpV E p.2)) := by
  have hT1 := (cls_T hT).1
  have hT2 := (cls_T hT).2
  unfold fX9_feed gX9_feed
  refine sb_some (s_isO rfl) ?_
  refine sb_some (s_gR rfl rfl) ?_
  refine sb_V (o' := gX6_addBytes n v1 V) (smX6_addBytes) (fun V1 => ?_)
  refine sb_some (s_gR rfl rfl) ?_
  refine sb_V (o' := gX6_addBytes n v3 V1) (smX6_addBytes) (fun V2 => ?_)
  refine sb_some (s_gR rfl rfl) ?_
  refine sb_V (o' := gX6_addBytes n v5 V2) (smX6_addBytes) (fun V3 => ?_)
  refine sb_some (s_gR rfl rfl) ?_
  refine sb_some (s_gI rfl rfl) ?_
  rfl
def gX9_fills_b23 (E : VE) (n : Nat) : Nat → Int32 → Int32 → Int32 → VT → Option (Int32 × VT)
  | 0, _, _, _, _ => none
  | w + 1, v1, v2, v3, V =>
    if 60 < v3 then
    (some ((-1), V))
    else
    (if v2 < v1 then
    ((gX5_potAfterYear E.1 v2 V).bind fun p1 =>
    gX9_fills_b23 E n w v1 p1.1 (v3 + 1) p1.2)
    else
    (some (v3, V)))
set_option maxHeartbeats 1000000 in
theorem smX9_fills_b23 {E : VE} {n : Nat} (hT : E.1 = 6 ∨ E.1 = 15) : ∀ (w : Nat) (v1 : Int32)  (v2 : Int32)  (v3 : Int32)  (V : VT), fX9_fills_b23 n w 2 v1 v2 v3 (hpV E V) = (gX9_fills_b23 E n w v1 v2 v3 V).map (fun p => (p.1, hpV E p.2)) := by
  have hT1 := (cls_T hT).1
  have hT2 := (cls_T hT).2
  intro w
  induction w with
  | zero => intro v1 v2 v3 V; rfl
  | succ w ih =>
    intro v1 v2 v3 V
    unfold fX9_fills_b23 gX9_fills_b23
    refine sb_ite ?_ ?_
    · rfl
    · refine sb_ite ?_ ?_
      · refine sb_some (s_gR rfl rfl) ?_
        refine sb_P (o' := gX5_potAfterYear E.1 v2 V) (smX5_potAfterYear hT1) (fun p1 => ?_)
        exact ih v1 p1.1 (v3 + 1) p1.2
      · rfl
def gX9_fills (E : VE) (n : Nat) (v1 : Int32) (V : VT) : Option (Int32 × VT) :=
  (gX9_within v1 0 200 V).bind fun p1 =>
  if p1.1 = 0 then
  (some ((-1), p1.2))
  else
  (gX9_fills_b23 E n n v1 (p1.2.F 24 2) 0 p1.2)
set_option maxHeartbeats 1000000 in
theorem smX9_fills {E : VE} {n : Nat} {v1 : Int32} {V : VT} (hT : E.1 = 6 ∨ E.1 = 15)  : fX9_fills n 2 v1 (hpV E V) = (gX9_fills E n v1 V).map (fun p => (p.1, hpV E p.2)) := by
  have hT1 := (cls_T hT).1
  have hT2 := (cls_T hT).2
  unfold fX9_fills gX9_fills
  refine sb_some (s_isO rfl) ?_
  refine sb_P (o' := gX9_within v1 0 200 V) (smX9_within) (fun p1 => ?_)
  refine sb_ite ?_ ?_
  · rfl
  · refine sb_some (s_gR rfl rfl) ?_
    refine sb_some (s_gI rfl rfl) ?_
    exact smX9_fills_b23 hT _ v1 (p1.2.F 24 2) 0 p1.2
def gX9_fruits (E : VE) (n : Nat) (v1 : Int32) (V : VT) : Option (Int32 × VT) :=
  (gX9_isMatter E v1 V).bind fun p1 =>
  if p1.1 = 0 then
  (some ((-1), p1.2))
  else
  ((gX5_fruitBits n E.1 v1 p1.2).bind fun p2 =>
  some (p2.1, p2.2))
set_option maxHeartbeats 1000000 in
theorem smX9_fruits {E : VE} {n : Nat} {v1 : Int32} {V : VT} (hT : E.1 = 6 ∨ E.1 = 15)  : fX9_fruits n 2 v1 (hpV E V) = (gX9_fruits E n v1 V).map (fun p => (p.1, hpV E p.2)) := by
  have hT1 := (cls_T hT).1
  have hT2 := (cls_T hT).2
  unfold fX9_fruits gX9_fruits
  refine sb_some (s_isO rfl) ?_
  refine sb_P (o' := gX9_isMatter E v1 V) (smX9_isMatter hT) (fun p1 => ?_)
  refine sb_ite ?_ ?_
  · rfl
  · refine sb_some (s_gR rfl rfl) ?_
    refine sb_P (o' := gX5_fruitBits n E.1 v1 p1.2) (smX5_fruitBits hT1) (fun p2 => ?_)
    rfl
def gX9_gain (v0 : Int32) (v1 : Int32) (v2 : Int32) (v3 : Int32) (v4 : Int32) (V : VT) : Option (Int32 × VT) :=
  if v3 = 1 then
  (if v4 = 1 then
  (some (v0, V))
  else
  (some (-v1, V)))
  else
  (if v4 = 1 then
  (some (v2, V))
  else
  (some (0, V)))
set_option maxHeartbeats 1000000 in
theorem smX9_gain {E : VE} {v0 : Int32} {v1 : Int32} {v2 : Int32} {v3 : Int32} {v4 : Int32} {V : VT}      : fX9_gain v0 v1 v2 v3 v4 (hpV E V) = (gX9_gain v0 v1 v2 v3 v4 V).map (fun p => (p.1, hpV E p.2)) := by
  unfold fX9_gain gX9_gain
  refine sb_ite ?_ ?_
  · refine sb_ite ?_ ?_
    · rfl
    · rfl
  · refine sb_ite ?_ ?_
    · rfl
    · rfl
def gX9_gap (E : VE) (n : Nat)  (V : VT) : Option (Int32 × VT) :=
  (gX5_widestGap n E.1 V).bind fun p1 =>
  some (p1.1, p1.2)
set_option maxHeartbeats 1000000 in
theorem smX9_gap {E : VE} {n : Nat}  {V : VT} (hT : E.1 = 6 ∨ E.1 = 15)  : fX9_gap n 2 (hpV E V) = (gX9_gap E n  V).map (fun p => (p.1, hpV E p.2)) := by
  have hT1 := (cls_T hT).1
  have hT2 := (cls_T hT).2
  unfold fX9_gap gX9_gap
  refine sb_some (s_isO rfl) ?_
  refine sb_some (s_gR rfl rfl) ?_
  refine sb_P (o' := gX5_widestGap n E.1 V) (smX5_widestGap hT1) (fun p1 => ?_)
  rfl
def gX9_heals_b22 (E : VE) (n : Nat) : Nat → Int32 → Int32 → Int32 → VT → Option (Int32 × VT)
  | 0, _, _, _, _ => none
  | w + 1, v1, v2, v3, V =>
    if 60 < v3 then
    (some ((-1), V))
    else
    (if v2 = 0 then
    (some (v3, V))
    else
    ((rdA 7 (V.A 26) v1).bind fun x1 =>
    (gX5_sourAfterYear E.1 v1 v2 x1 V).bind fun p2 =>
    gX9_heals_b22 E n w v1 p2.1 (v3 + 1) p2.2))
set_option maxHeartbeats 1000000 in
theorem smX9_heals_b22 {E : VE} {n : Nat} (hT : E.1 = 6 ∨ E.1 = 15) : ∀ (w : Nat) (v1 : Int32)  (v2 : Int32)  (v3 : Int32)  (V : VT), fX9_heals_b22 n w 2 v1 v2 v3 (hpV E V) = (gX9_heals_b22 E n w v1 v2 v3 V).map (fun p => (p.1, hpV E p.2)) := by
  have hT1 := (cls_T hT).1
  have hT2 := (cls_T hT).2
  intro w
  induction w with
  | zero => intro v1 v2 v3 V; rfl
  | succ w ih =>
    intro v1 v2 v3 V
    unfold fX9_heals_b22 gX9_heals_b22
    refine sb_ite ?_ ?_
    · rfl
    · refine sb_ite ?_ ?_
      · rfl
      · refine sb_some (s_gR rfl rfl) ?_
        refine sb_some (s_gR rfl rfl) ?_
        refine sb_some (s_gR rfl rfl) ?_
        refine sb_bindE (s_aI rfl) (fun x1 => ?_)
        refine sb_P (o' := gX5_sourAfterYear E.1 v1 v2 x1 V) (smX5_sourAfterYear hT1) (fun p2 => ?_)
        exact ih v1 p2.1 (v3 + 1) p2.2
def gX9_heals (E : VE) (n : Nat) (v1 : Int32) (V : VT) : Option (Int32 × VT) :=
  (gX9_isMatter E v1 V).bind fun p1 =>
  if p1.1 = 0 then
  (some ((-1), p1.2))
  else
  ((rdA 7 (p1.2.A 25) v1).bind fun x2 =>
  gX9_heals_b22 E n n v1 x2 0 p1.2)
set_option maxHeartbeats 1000000 in
theorem smX9_heals {E : VE} {n : Nat} {v1 : Int32} {V : VT} (hT : E.1 = 6 ∨ E.1 = 15)  : fX9_heals n 2 v1 (hpV E V) = (gX9_heals E n v1 V).map (fun p => (p.1, hpV E p.2)) := by
  have hT1 := (cls_T hT).1
  have hT2 := (cls_T hT).2
  unfold fX9_heals gX9_heals
  refine sb_some (s_isO rfl) ?_
  refine sb_P (o' := gX9_isMatter E v1 V) (smX9_isMatter hT) (fun p1 => ?_)
  refine sb_ite ?_ ?_
  · rfl
  · refine sb_some (s_gR rfl rfl) ?_
    refine sb_some (s_gR rfl rfl) ?_
    refine sb_bindE (s_aI rfl) (fun x2 => ?_)
    exact smX9_heals_b22 hT _ v1 x2 0 p1.2
def gX9_isRest (v0 : Int32) (v1 : Int32) (v2 : Int32) (v3 : Int32) (V : VT) : Option (Int32 × VT) :=
  (gX9_gain v0 v1 v2 (1 - (v3 >>> ((1 : Int32) &&& 31))) (v3 &&& 1) V).bind fun p1 =>
  (gX9_gain v0 v1 v2 (v3 >>> ((1 : Int32) &&& 31)) (v3 &&& 1) p1.2).bind fun p2 =>
  if p2.1 < p1.1 then
  (some (0, p2.2))
  else
  ((gX9_gain v0 v1 v2 (1 - (v3 &&& 1)) (v3 >>> ((1 : Int32) &&& 31)) p2.2).bind fun p3 =>
  (gX9_gain v0 v1 v2 (v3 &&& 1) (v3 >>> ((1 : Int32) &&& 31)) p3.2).bind fun p4 =>
  if p4.1 < p3.1 then
  (some (0, p4.2))
  else
  (some (1, p4.2)))
set_option maxHeartbeats 1000000 in
theorem smX9_isRest {E : VE} {v0 : Int32} {v1 : Int32} {v2 : Int32} {v3 : Int32} {V : VT}     : fX9_isRest v0 v1 v2 v3 (hpV E V) = (gX9_isRest v0 v1 v2 v3 V).map (fun p => (p.1, hpV E p.2)) := by
  unfold fX9_isRest gX9_isRest
  refine sb_P (o' := gX9_gain v0 v1 v2 (1 - (v3 >>> ((1 : Int32) &&& 31))) (v3 &&& 1) V) (smX9_gain) (fun p1 => ?_)
  refine sb_P (o' := gX9_gain v0 v1 v2 (v3 >>> ((1 : Int32) &&& 31)) (v3 &&& 1) p1.2) (smX9_gain) (fun p2 => ?_)
  refine sb_ite ?_ ?_
  · rfl
  · refine sb_P (o' := gX9_gain v0 v1 v2 (1 - (v3 &&& 1)) (v3 >>> ((1 : Int32) &&& 31)) p2.2) (smX9_gain) (fun p3 => ?_)
    refine sb_P (o' := gX9_gain v0 v1 v2 (v3 &&& 1) (v3 >>> ((1 : Int32) &&& 31)) p3.2) (smX9_gain) (fun p4 => ?_)
    refine sb_ite ?_ ?_
    · rfl
    · rfl
def gX9_judged_b84 (E : VE) (n : Nat) (K30 : Int32 → Int32 → Int32 → Int32 → VT → Option (Int32 × VT)) (v1 : Int32) (v2 : Int32) (v3 : Int32) (v4 : Int32) (V : VT) : Option (Int32 × VT) :=
  if v3 = ((-1)) then
  ((gX8_meantBits n 27 E.1 V).bind fun p1 =>
  (gX5_rightBy n E.1 p1.1 p1.2).bind fun p2 =>
  (gX5_everyone E.1 p2.2).bind fun p3 =>
  if p2.1 = p3.1 then
  (K30 v1 v2 v4 (v4 + 1) p3.2)
  else
  (K30 v1 v2 v3 (v4 + 1) p3.2))
  else
  (K30 v1 v2 v3 (v4 + 1) V)
set_option maxHeartbeats 1000000 in
theorem smX9_judged_b84 {E : VE} {n : Nat} {K30 : Int32 → Int32 → Int32 → Int32 → VT → Option (Int32 × VT)} {k30 : Nat → Int32 → Int32 → Int32 → Int32 → qH → Option (Int32 × qH)} {v1 : Int32} {v2 : Int32} {v3 : Int32} {v4 : Int32} {V : VT} (hT : E.1 = 6 ∨ E.1 = 15) (hK30 : ∀ (v1 : Int32)  (v2 : Int32)  (v3 : Int32)  (v4 : Int32)  (V : VT), k30 2 v1 v2 v3 v4 (hpV E V) = (K30 v1 v2 v3 v4 V).map (fun p => (p.1, hpV E p.2)))     : fX9_judged_b84 n k30 2 v1 v2 v3 v4 (hpV E V) = (gX9_judged_b84 E n K30 v1 v2 v3 v4 V).map (fun p => (p.1, hpV E p.2)) := by
  have hT1 := (cls_T hT).1
  have hT2 := (cls_T hT).2
  unfold fX9_judged_b84 gX9_judged_b84
  refine sb_ite ?_ ?_
  · refine sb_some (s_gR rfl rfl) ?_
    refine sb_some (s_gR rfl rfl) ?_
    refine sb_some (s_gR rfl rfl) ?_
    refine sb_P (o' := gX8_meantBits n 27 E.1 V) (smX8_meantBits rfl hT1) (fun p1 => ?_)
    refine sb_P (o' := gX5_rightBy n E.1 p1.1 p1.2) (smX5_rightBy hT1) (fun p2 => ?_)
    refine sb_some (s_gR rfl rfl) ?_
    refine sb_P (o' := gX5_everyone E.1 p2.2) (smX5_everyone hT1) (fun p3 => ?_)
    refine sb_ite ?_ ?_
    · exact hK30 v1 v2 v4 (v4 + 1) p3.2
    · exact hK30 v1 v2 v3 (v4 + 1) p3.2
  · exact hK30 v1 v2 v3 (v4 + 1) V
def gX9_judged_b30 (E : VE) (n : Nat) : Nat → Int32 → Int32 → Int32 → Int32 → VT → Option (Int32 × VT)
  | 0, _, _, _, _, _ => none
  | w + 1, v1, v2, v3, v4, V =>
    if (V.F 80 2) ≤ v4 then
    (if v1 = 0 then
    (some (v2, V))
    else
    (if v1 = 1 then
    (some (v3, V))
    else
    ((gX8_meantBits n 27 E.1 V).bind fun p1 =>
    (gJ6_bitCount_0f7a4 p1.1 p1.2).bind fun p2 =>
    some (p2.1, p2.2))))
    else
    ((rdA 40 (V.A 81) v4).bind fun x3 =>
    (rdA 40 (V.A 82) v4).bind fun x4 =>
    (gX8_follow n 27 E.1 x3 x4 V).bind fun p5 =>
    if p5.1 = 0 then
    (if v2 = ((-1)) then
    (gX9_judged_b84 E n (gX9_judged_b30 E n w) v1 v4 v3 v4 p5.2)
    else
    (gX9_judged_b84 E n (gX9_judged_b30 E n w) v1 v2 v3 v4 p5.2))
    else
    (gX9_judged_b84 E n (gX9_judged_b30 E n w) v1 v2 v3 v4 p5.2))
set_option maxHeartbeats 1000000 in
theorem smX9_judged_b30 {E : VE} {n : Nat} (hT : E.1 = 6 ∨ E.1 = 15) : ∀ (w : Nat) (v1 : Int32)  (v2 : Int32)  (v3 : Int32)  (v4 : Int32)  (V : VT), fX9_judged_b30 n w 2 v1 v2 v3 v4 (hpV E V) = (gX9_judged_b30 E n w v1 v2 v3 v4 V).map (fun p => (p.1, hpV E p.2)) := by
  have hT1 := (cls_T hT).1
  have hT2 := (cls_T hT).2
  intro w
  induction w with
  | zero => intro v1 v2 v3 v4 V; rfl
  | succ w ih =>
    intro v1 v2 v3 v4 V
    unfold fX9_judged_b30 gX9_judged_b30
    refine sb_some (s_gR rfl rfl) ?_
    refine sb_some (s_gI rfl rfl) ?_
    refine sb_ite ?_ ?_
    · refine sb_ite ?_ ?_
      · rfl
      · refine sb_ite ?_ ?_
        · rfl
        · refine sb_some (s_gR rfl rfl) ?_
          refine sb_some (s_gR rfl rfl) ?_
          refine sb_P (o' := gX8_meantBits n 27 E.1 V) (smX8_meantBits rfl hT1) (fun p1 => ?_)
          refine sb_P (o' := gJ6_bitCount_0f7a4 p1.1 p1.2) (smJ6_bitCount_0f7a4) (fun p2 => ?_)
          rfl
    · refine sb_some (s_gR rfl rfl) ?_
      refine sb_some (s_gR rfl rfl) ?_
      refine sb_some (s_gR rfl rfl) ?_
      refine sb_some (s_gR rfl rfl) ?_
      refine sb_bindE (s_aI rfl) (fun x3 => ?_)
      refine sb_some (s_gR rfl rfl) ?_
      refine sb_some (s_gR rfl rfl) ?_
      refine sb_bindE (s_aI rfl) (fun x4 => ?_)
      refine sb_P (o' := gX8_follow n 27 E.1 x3 x4 V) (smX8_follow rfl hT1) (fun p5 => ?_)
      refine sb_ite ?_ ?_
      · refine sb_ite ?_ ?_
        · exact smX9_judged_b84 hT ih
        · exact smX9_judged_b84 hT ih
      · exact smX9_judged_b84 hT ih
def gX9_judged (E : VE) (n : Nat) (v1 : Int32) (V : VT) : Option (Int32 × VT) :=
  (gX9_within v1 0 2 V).bind fun p1 =>
  if p1.1 = 0 then
  (some ((-2), p1.2))
  else
  ((gX8_begin n 27 E.1 p1.2).bind fun V2 =>
  gX9_judged_b30 E n n v1 ((-1)) ((-1)) 0 V2)
set_option maxHeartbeats 1000000 in
theorem smX9_judged {E : VE} {n : Nat} {v1 : Int32} {V : VT} (hT : E.1 = 6 ∨ E.1 = 15)  : fX9_judged n 2 v1 (hpV E V) = (gX9_judged E n v1 V).map (fun p => (p.1, hpV E p.2)) := by
  have hT1 := (cls_T hT).1
  have hT2 := (cls_T hT).2
  unfold fX9_judged gX9_judged
  refine sb_some (s_isO rfl) ?_
  refine sb_P (o' := gX9_within v1 0 2 V) (smX9_within) (fun p1 => ?_)
  refine sb_ite ?_ ?_
  · rfl
  · refine sb_some (s_gR rfl rfl) ?_
    refine sb_some (s_gR rfl rfl) ?_
    refine sb_V (o' := gX8_begin n 27 E.1 p1.2) (smX8_begin rfl hT1) (fun V2 => ?_)
    exact smX9_judged_b30 hT _ v1 ((-1)) ((-1)) 0 V2
def gX9_lacks (E : VE) (n : Nat)  (V : VT) : Option (Int32 × VT) :=
  (gX9_all E n V).bind fun p1 =>
  if p1.1 = ((-1)) then
  (some ((-1), p1.2))
  else
  (some (if (0 : Int32) < (p1.1 - (p1.2.F 24 2)) then (p1.1 - (p1.2.F 24 2)) else (0 : Int32), p1.2))
set_option maxHeartbeats 1000000 in
theorem smX9_lacks {E : VE} {n : Nat}  {V : VT} (hT : E.1 = 6 ∨ E.1 = 15)  : fX9_lacks n 2 (hpV E V) = (gX9_lacks E n  V).map (fun p => (p.1, hpV E p.2)) := by
  have hT1 := (cls_T hT).1
  have hT2 := (cls_T hT).2
  unfold fX9_lacks gX9_lacks
  refine sb_some (s_isO rfl) ?_
  refine sb_P (o' := gX9_all E n V) (smX9_all hT) (fun p1 => ?_)
  refine sb_ite ?_ ?_
  · rfl
  · refine sb_some (s_gR rfl rfl) ?_
    refine sb_some (s_gI rfl rfl) ?_
    rfl
def gX9_later_b33 (E : VE) (n : Nat) : Nat → Int32 → Int32 → Int32 → Int32 → VT → Option (Int32 × VT)
  | 0, _, _, _, _, _ => none
  | w + 1, v1, v2, v3, v4, V =>
    if v2 ≤ v4 then
    (some (v3, V))
    else
    ((rdA 7 (V.A 26) v1).bind fun x1 =>
    (gX5_sourAfterYear E.1 v1 v3 x1 V).bind fun p2 =>
    gX9_later_b33 E n w v1 v2 p2.1 (v4 + 1) p2.2)
set_option maxHeartbeats 1000000 in
theorem smX9_later_b33 {E : VE} {n : Nat} (hT : E.1 = 6 ∨ E.1 = 15) : ∀ (w : Nat) (v1 : Int32)  (v2 : Int32)  (v3 : Int32)  (v4 : Int32)  (V : VT), fX9_later_b33 n w 2 v1 v2 v3 v4 (hpV E V) = (gX9_later_b33 E n w v1 v2 v3 v4 V).map (fun p => (p.1, hpV E p.2)) := by
  have hT1 := (cls_T hT).1
  have hT2 := (cls_T hT).2
  intro w
  induction w with
  | zero => intro v1 v2 v3 v4 V; rfl
  | succ w ih =>
    intro v1 v2 v3 v4 V
    unfold fX9_later_b33 gX9_later_b33
    refine sb_ite ?_ ?_
    · rfl
    · refine sb_some (s_gR rfl rfl) ?_
      refine sb_some (s_gR rfl rfl) ?_
      refine sb_some (s_gR rfl rfl) ?_
      refine sb_bindE (s_aI rfl) (fun x1 => ?_)
      refine sb_P (o' := gX5_sourAfterYear E.1 v1 v3 x1 V) (smX5_sourAfterYear hT1) (fun p2 => ?_)
      exact ih v1 v2 p2.1 (v4 + 1) p2.2
def gX9_later (E : VE) (n : Nat) (v1 : Int32) (v2 : Int32) (V : VT) : Option (Int32 × VT) :=
  (gX9_isMatter E v1 V).bind fun p1 =>
  if p1.1 = 0 then
  (some ((-1), p1.2))
  else
  ((gX9_within v2 0 60 p1.2).bind fun p2 =>
  if p2.1 = 0 then
  (some ((-1), p2.2))
  else
  ((rdA 7 (p2.2.A 25) v1).bind fun x3 =>
  gX9_later_b33 E n n v1 v2 x3 0 p2.2))
set_option maxHeartbeats 1000000 in
theorem smX9_later {E : VE} {n : Nat} {v1 : Int32} {v2 : Int32} {V : VT} (hT : E.1 = 6 ∨ E.1 = 15)   : fX9_later n 2 v1 v2 (hpV E V) = (gX9_later E n v1 v2 V).map (fun p => (p.1, hpV E p.2)) := by
  have hT1 := (cls_T hT).1
  have hT2 := (cls_T hT).2
  unfold fX9_later gX9_later
  refine sb_some (s_isO rfl) ?_
  refine sb_P (o' := gX9_isMatter E v1 V) (smX9_isMatter hT) (fun p1 => ?_)
  refine sb_ite ?_ ?_
  · rfl
  · refine sb_P (o' := gX9_within v2 0 60 p1.2) (smX9_within) (fun p2 => ?_)
    refine sb_ite ?_ ?_
    · rfl
    · refine sb_some (s_gR rfl rfl) ?_
      refine sb_some (s_gR rfl rfl) ?_
      refine sb_bindE (s_aI rfl) (fun x3 => ?_)
      exact smX9_later_b33 hT _ v1 v2 x3 0 p2.2
def gX9_nextDraw (v0 : Int64) (V : VT) : Option (Int64 × VT) :=
  some (((v0 * 1103515245) + 12345) - ((v0 * 1103515245) + 12345) / 2147483648 * 2147483648, V)
set_option maxHeartbeats 1000000 in
theorem smX9_nextDraw {E : VE} {v0 : Int64} {V : VT}  : fX9_nextDraw v0 (hpV E V) = (gX9_nextDraw v0 V).map (fun p => (p.1, hpV E p.2)) := by
  unfold fX9_nextDraw gX9_nextDraw
  rfl
def gX9_liveYears_b123 (E : VE) (n : Nat) (K20 : Int32 → Int32 → Int64 → Int32 → VT → Option (Int32 × VT)) (v2 : Int32) (v3 : Int32) (v4 : Int64) (v6 : Int32) (V : VT) : Option (Int32 × VT) :=
  (gX8_pass n 27 E.1 V).bind fun V1 =>
  K20 v2 v3 v4 (v6 + 1) V1
set_option maxHeartbeats 1000000 in
theorem smX9_liveYears_b123 {E : VE} {n : Nat} {K20 : Int32 → Int32 → Int64 → Int32 → VT → Option (Int32 × VT)} {k20 : Nat → Int32 → Int32 → Int64 → Int32 → qH → Option (Int32 × qH)} {v2 : Int32} {v3 : Int32} {v4 : Int64} {v6 : Int32} {V : VT} (hT : E.1 = 6 ∨ E.1 = 15) (hK20 : ∀ (v2 : Int32)  (v3 : Int32)  (v4 : Int64)  (v6 : Int32)  (V : VT), k20 2 v2 v3 v4 v6 (hpV E V) = (K20 v2 v3 v4 v6 V).map (fun p => (p.1, hpV E p.2)))     : fX9_liveYears_b123 n k20 2 v2 v3 v4 v6 (hpV E V) = (gX9_liveYears_b123 E n K20 v2 v3 v4 v6 V).map (fun p => (p.1, hpV E p.2)) := by
  have hT1 := (cls_T hT).1
  have hT2 := (cls_T hT).2
  unfold fX9_liveYears_b123 gX9_liveYears_b123
  refine sb_some (s_gR rfl rfl) ?_
  refine sb_some (s_gR rfl rfl) ?_
  refine sb_V (o' := gX8_pass n 27 E.1 V) (smX8_pass rfl hT1) (fun V1 => ?_)
  exact hK20 v2 v3 v4 (v6 + 1) V1
def gX9_liveYears_b20 (E : VE) (n : Nat) : Nat → Int32 → Int32 → Int64 → Int32 → VT → Option (Int32 × VT)
  | 0, _, _, _, _, _ => none
  | w + 1, v2, v3, v4, v6, V =>
    if v2 ≤ v6 then
    (some (v3, V))
    else
    (if (V.F E.1 6) ≤ 0 then
    (gX9_liveYears_b123 E n (gX9_liveYears_b20 E n w) v2 v3 v4 v6 V)
    else
    ((gX9_nextDraw v4 V).bind fun p1 =>
    (gX9_drawnBelow p1.1 (p1.2.F E.1 6) p1.2).bind fun p2 =>
    (gX9_nextDraw p1.1 p2.2).bind fun p3 =>
    (gX9_drawnBelow p3.1 4 p3.2).bind fun p4 =>
    if p4.1 = 0 then
    ((gX8_follow n 27 E.1 9 p2.1 p4.2).bind fun p6 =>
    gX9_liveYears_b123 E n (gX9_liveYears_b20 E n w) v2 v3 p3.1 v6 p6.2)
    else
    (if 2 < p4.1 then
    (gX9_liveYears_b123 E n (gX9_liveYears_b20 E n w) v2 v3 p3.1 v6 p4.2)
    else
    ((gX8_follow n 27 E.1 8 p2.1 p4.2).bind fun p5 =>
    if p5.1 = 0 then
    (gX9_liveYears_b123 E n (gX9_liveYears_b20 E n w) v2 v3 p3.1 v6 p5.2)
    else
    (gX9_liveYears_b123 E n (gX9_liveYears_b20 E n w) v2 (v3 + 1) p3.1 v6 p5.2)))))
set_option maxHeartbeats 1000000 in
theorem smX9_liveYears_b20 {E : VE} {n : Nat} (hT : E.1 = 6 ∨ E.1 = 15) : ∀ (w : Nat) (v2 : Int32)  (v3 : Int32)  (v4 : Int64)  (v6 : Int32)  (V : VT), fX9_liveYears_b20 n w 2 v2 v3 v4 v6 (hpV E V) = (gX9_liveYears_b20 E n w v2 v3 v4 v6 V).map (fun p => (p.1, hpV E p.2)) := by
  have hT1 := (cls_T hT).1
  have hT2 := (cls_T hT).2
  intro w
  induction w with
  | zero => intro v2 v3 v4 v6 V; rfl
  | succ w ih =>
    intro v2 v3 v4 v6 V
    unfold fX9_liveYears_b20 gX9_liveYears_b20
    refine sb_ite ?_ ?_
    · rfl
    · refine sb_some (s_gR rfl rfl) ?_
      refine sb_some (s_gI hT1 rfl) ?_
      refine sb_ite ?_ ?_
      · exact smX9_liveYears_b123 hT ih
      · refine sb_P (o' := gX9_nextDraw v4 V) (smX9_nextDraw) (fun p1 => ?_)
        refine sb_some (s_gR rfl rfl) ?_
        refine sb_some (s_gI hT1 rfl) ?_
        refine sb_P (o' := gX9_drawnBelow p1.1 (p1.2.F E.1 6) p1.2) (smX9_drawnBelow) (fun p2 => ?_)
        refine sb_P (o' := gX9_nextDraw p1.1 p2.2) (smX9_nextDraw) (fun p3 => ?_)
        refine sb_P (o' := gX9_drawnBelow p3.1 4 p3.2) (smX9_drawnBelow) (fun p4 => ?_)
        refine sb_ite ?_ ?_
        · refine sb_some (s_gR rfl rfl) ?_
          refine sb_some (s_gR rfl rfl) ?_
          refine sb_P (o' := gX8_follow n 27 E.1 9 p2.1 p4.2) (smX8_follow rfl hT1) (fun p6 => ?_)
          exact smX9_liveYears_b123 hT ih
        · refine sb_ite ?_ ?_
          · exact smX9_liveYears_b123 hT ih
          · refine sb_some (s_gR rfl rfl) ?_
            refine sb_some (s_gR rfl rfl) ?_
            refine sb_P (o' := gX8_follow n 27 E.1 8 p2.1 p4.2) (smX8_follow rfl hT1) (fun p5 => ?_)
            refine sb_ite ?_ ?_
            · exact smX9_liveYears_b123 hT ih
            · exact smX9_liveYears_b123 hT ih
def gX9_liveYears (E : VE) (n : Nat) (v1 : Int32) (v2 : Int32) (V : VT) : Option (Int32 × VT) :=
  (gX8_copy n 27 24 V).bind fun V1 =>
  gX9_liveYears_b20 E n n v2 0 v1.toInt64 0 V1
set_option maxHeartbeats 1000000 in
theorem smX9_liveYears {E : VE} {n : Nat} {v1 : Int32} {v2 : Int32} {V : VT} (hT : E.1 = 6 ∨ E.1 = 15)   : fX9_liveYears n 2 v1 v2 (hpV E V) = (gX9_liveYears E n v1 v2 V).map (fun p => (p.1, hpV E p.2)) := by
  have hT1 := (cls_T hT).1
  have hT2 := (cls_T hT).2
  unfold fX9_liveYears gX9_liveYears
  refine sb_some (s_isO rfl) ?_
  refine sb_some (s_gR rfl rfl) ?_
  refine sb_some (s_gR rfl rfl) ?_
  refine sb_V (o' := gX8_copy n 27 24 V) (smX8_copy rfl rfl) (fun V1 => ?_)
  exact smX9_liveYears_b20 hT _ v2 0 v1.toInt64 0 V1
def gX9_lost_b8 (E : VE) (n : Nat) : Nat → Int32 → Int32 → VT → Option (Int32 × VT)
  | 0, _, _, _ => none
  | w + 1, v1, v2, V =>
    if (V.F E.1 6) ≤ v2 then
    (some (v1, V))
    else
    ((gX9_cheapestFor E n v2 V).bind fun p1 =>
    if p1.1 = ((-1)) then
    (gX9_lost_b8 E n w (v1 ||| ((1 : Int32) <<< (v2 &&& 31))) (v2 + 1) p1.2)
    else
    (gX9_lost_b8 E n w v1 (v2 + 1) p1.2))
set_option maxHeartbeats 1000000 in
theorem smX9_lost_b8 {E : VE} {n : Nat} (hT : E.1 = 6 ∨ E.1 = 15) : ∀ (w : Nat) (v1 : Int32)  (v2 : Int32)  (V : VT), fX9_lost_b8 n w 2 v1 v2 (hpV E V) = (gX9_lost_b8 E n w v1 v2 V).map (fun p => (p.1, hpV E p.2)) := by
  have hT1 := (cls_T hT).1
  have hT2 := (cls_T hT).2
  intro w
  induction w with
  | zero => intro v1 v2 V; rfl
  | succ w ih =>
    intro v1 v2 V
    unfold fX9_lost_b8 gX9_lost_b8
    refine sb_some (s_gR rfl rfl) ?_
    refine sb_some (s_gI hT1 rfl) ?_
    refine sb_ite ?_ ?_
    · rfl
    · refine sb_P (o' := gX9_cheapestFor E n v2 V) (smX9_cheapestFor hT) (fun p1 => ?_)
      refine sb_ite ?_ ?_
      · exact ih (v1 ||| ((1 : Int32) <<< (v2 &&& 31))) (v2 + 1) p1.2
      · exact ih v1 (v2 + 1) p1.2
def gX9_lost (E : VE) (n : Nat)  (V : VT) : Option (Int32 × VT) :=
  (gX9_reckonCosts E n V).bind fun V1 =>
  gX9_lost_b8 E n n 0 0 V1
set_option maxHeartbeats 1000000 in
theorem smX9_lost {E : VE} {n : Nat}  {V : VT} (hT : E.1 = 6 ∨ E.1 = 15)  : fX9_lost n 2 (hpV E V) = (gX9_lost E n  V).map (fun p => (p.1, hpV E p.2)) := by
  have hT1 := (cls_T hT).1
  have hT2 := (cls_T hT).2
  unfold fX9_lost gX9_lost
  refine sb_some (s_isO rfl) ?_
  refine sb_V (o' := gX9_reckonCosts E n V) (smX9_reckonCosts hT) (fun V1 => ?_)
  exact smX9_lost_b8 hT _ 0 0 V1
def gX9_mark (E : VE) (n : Nat) (v1 : Int32) (v2 : Int32) (V : VT) : Option (Int32 × VT) :=
  (gX9_within v1 0 3 V).bind fun p1 =>
  if p1.1 = 0 then
  (some (0, p1.2))
  else
  ((rd90 v1).bind fun x2 =>
  if v2 = 0 then
  ((gX3_lay n x2 24 80 86 p1.2).bind fun V8 =>
  some (1, V8))
  else
  (if (p1.2.F x2 3) = 0 then
  (some (0, p1.2))
  else
  ((gX8_copy n 24 ((x2 + 1)) p1.2).bind fun V4 =>
  (gX2_copy n 80 ((x2 + 4)) V4).bind fun V5 =>
  (gX7_copy n 86 ((x2 + 7)) V5).bind fun V6 =>
  (gX0_clear V6).bind fun V7 =>
  some (1, V7))))
set_option maxHeartbeats 1000000 in
theorem smX9_mark {E : VE} {n : Nat} {v1 : Int32} {v2 : Int32} {V : VT} (hT : E.1 = 6 ∨ E.1 = 15)   : fX9_mark n 2 v1 v2 (hpV E V) = (gX9_mark E n v1 v2 V).map (fun p => (p.1, hpV E p.2)) := by
  have hT1 := (cls_T hT).1
  have hT2 := (cls_T hT).2
  unfold fX9_mark gX9_mark
  refine sb_some (s_isO rfl) ?_
  refine sb_P (o' := gX9_within v1 0 3 V) (smX9_within) (fun p1 => ?_)
  refine sb_ite ?_ ?_
  · rfl
  · refine sb_some (s_gR rfl rfl) ?_
    refine sb_90 (fun x2 e3 => ?_)
    refine sb_ite ?_ ?_
    · refine sb_some (s_gR rfl rfl) ?_
      refine sb_some (s_gR rfl rfl) ?_
      refine sb_some (s_gR rfl rfl) ?_
      refine sb_V (o' := gX3_lay n x2 24 80 86 p1.2) (smX3_lay e3 rfl rfl rfl) (fun V8 => ?_)
      rfl
    · refine sb_some (s_gI e3 rfl) ?_
      refine sb_ite ?_ ?_
      · rfl
      · refine sb_some (s_gR rfl rfl) ?_
        refine sb_some (s_gR e3 rfl) ?_
        refine sb_V (o' := gX8_copy n 24 ((x2 + 1)) p1.2) (smX8_copy rfl (ch3o_1 e3)) (fun V4 => ?_)
        refine sb_some (s_gR rfl rfl) ?_
        refine sb_some (s_gR e3 rfl) ?_
        refine sb_V (o' := gX2_copy n 80 ((x2 + 4)) V4) (smX2_copy rfl (ch3o_4 e3)) (fun V5 => ?_)
        refine sb_some (s_gR rfl rfl) ?_
        refine sb_some (s_gR e3 rfl) ?_
        refine sb_V (o' := gX7_copy n 86 ((x2 + 7)) V5) (smX7_copy rfl (ch3o_7 e3)) (fun V6 => ?_)
        refine sb_some (s_gR rfl rfl) ?_
        refine sb_V (o' := gX0_clear V6) (smX0_clear) (fun V7 => ?_)
        rfl
def gX9_matter (E : VE) (n : Nat) (v1 : Int32) (v2 : Int32) (V : VT) : Option (Int32 × VT) :=
  (gX9_isMatter E v1 V).bind fun p1 =>
  if p1.1 = 0 then
  (some ((-1), p1.2))
  else
  (if v2 = 0 then
  ((rdA 7 (p1.2.A ((E.1 + 2))) v1).bind fun x2 =>
  some (x2, p1.2))
  else
  (if v2 = 1 then
  ((rdA 7 (p1.2.A ((E.1 + 3))) v1).bind fun x3 =>
  some (x3, p1.2))
  else
  (if v2 = 2 then
  ((rdA 7 (p1.2.A 25) v1).bind fun x4 =>
  some (x4, p1.2))
  else
  (if v2 = 3 then
  ((rdA 7 (p1.2.A 26) v1).bind fun x5 =>
  some (x5, p1.2))
  else
  (if v2 = 4 then
  ((gX9_meant E n p1.2).bind fun p6 =>
  (gX9_bit p6.1 v1 p6.2).bind fun p7 =>
  some (p7.1, p7.2))
  else
  (if v2 = 5 then
  ((gX9_right E n p1.2).bind fun p8 =>
  (gX9_bit p8.1 v1 p8.2).bind fun p9 =>
  some (p9.1, p9.2))
  else
  (if v2 = 6 then
  ((rdA 7 (p1.2.A ((E.1 + 5))) v1).bind fun x10 =>
  some (x10, p1.2))
  else
  (some ((-1), p1.2)))))))))
set_option maxHeartbeats 1000000 in
theorem smX9_matter {E : VE} {n : Nat} {v1 : Int32} {v2 : Int32} {V : VT} (hT : E.1 = 6 ∨ E.1 = 15)   : fX9_matter n 2 v1 v2 (hpV E V) = (gX9_matter E n v1 v2 V).map (fun p => (p.1, hpV E p.2)) := by
  have hT1 := (cls_T hT).1
  have hT2 := (cls_T hT).2
  unfold fX9_matter gX9_matter
  refine sb_some (s_isO rfl) ?_
  refine sb_P (o' := gX9_isMatter E v1 V) (smX9_isMatter hT) (fun p1 => ?_)
  refine sb_ite ?_ ?_
  · rfl
  · refine sb_ite ?_ ?_
    · refine sb_some (s_gR rfl rfl) ?_
      refine sb_some (s_gR hT1 rfl) ?_
      refine sb_bindE (s_aI (ch5_2 hT1)) (fun x2 => ?_)
      rfl
    · refine sb_ite ?_ ?_
      · refine sb_some (s_gR rfl rfl) ?_
        refine sb_some (s_gR hT1 rfl) ?_
        refine sb_bindE (s_aI (ch5_3 hT1)) (fun x3 => ?_)
        rfl
      · refine sb_ite ?_ ?_
        · refine sb_some (s_gR rfl rfl) ?_
          refine sb_some (s_gR rfl rfl) ?_
          refine sb_bindE (s_aI rfl) (fun x4 => ?_)
          rfl
        · refine sb_ite ?_ ?_
          · refine sb_some (s_gR rfl rfl) ?_
            refine sb_some (s_gR rfl rfl) ?_
            refine sb_bindE (s_aI rfl) (fun x5 => ?_)
            rfl
          · refine sb_ite ?_ ?_
            · refine sb_P (o' := gX9_meant E n p1.2) (smX9_meant hT) (fun p6 => ?_)
              refine sb_P (o' := gX9_bit p6.1 v1 p6.2) (smX9_bit) (fun p7 => ?_)
              rfl
            · refine sb_ite ?_ ?_
              · refine sb_P (o' := gX9_right E n p1.2) (smX9_right hT) (fun p8 => ?_)
                refine sb_P (o' := gX9_bit p8.1 v1 p8.2) (smX9_bit) (fun p9 => ?_)
                rfl
              · refine sb_ite ?_ ?_
                · refine sb_some (s_gR rfl rfl) ?_
                  refine sb_some (s_gR hT1 rfl) ?_
                  refine sb_bindE (s_aI (ch5_5 hT1)) (fun x10 => ?_)
                  rfl
                · rfl
def gX9_most_b113 (E : VE) (n : Nat) (K40 : Int32 → Int32 → Int32 → Int32 → Int32 → Int32 → VT → Option (Int32 × VT)) (v1 : Int32) (v2 : Int32) (v3 : Int32) (v6 : Int32) (v7 : Int32) (V : VT) : Option (Int32 × VT) :=
  K40 v1 v2 v3 v6 v7 (v6 + 1) V
set_option maxHeartbeats 1000000 in
theorem smX9_most_b113 {E : VE} {n : Nat} {K40 : Int32 → Int32 → Int32 → Int32 → Int32 → Int32 → VT → Option (Int32 × VT)} {k40 : Nat → Int32 → Int32 → Int32 → Int32 → Int32 → Int32 → qH → Option (Int32 × qH)} {v1 : Int32} {v2 : Int32} {v3 : Int32} {v6 : Int32} {v7 : Int32} {V : VT} (hT : E.1 = 6 ∨ E.1 = 15) (hK40 : ∀ (v1 : Int32)  (v2 : Int32)  (v3 : Int32)  (v4 : Int32)  (v5 : Int32)  (v6 : Int32)  (V : VT), k40 2 v1 v2 v3 v4 v5 v6 (hpV E V) = (K40 v1 v2 v3 v4 v5 v6 V).map (fun p => (p.1, hpV E p.2)))      : fX9_most_b113 n k40 2 v1 v2 v3 v6 v7 (hpV E V) = (gX9_most_b113 E n K40 v1 v2 v3 v6 v7 V).map (fun p => (p.1, hpV E p.2)) := by
  have hT1 := (cls_T hT).1
  have hT2 := (cls_T hT).2
  unfold fX9_most_b113 gX9_most_b113
  exact hK40 v1 v2 v3 v6 v7 (v6 + 1) V
def gX9_most_b40 (E : VE) (n : Nat) : Nat → Int32 → Int32 → Int32 → Int32 → Int32 → Int32 → VT → Option (Int32 × VT)
  | 0, _, _, _, _, _, _, _ => none
  | w + 1, v1, v2, v3, v4, v5, v6, V =>
    (gX5_everyone E.1 V).bind fun p1 =>
    if p1.1 < v6 then
    (if v2 = 0 then
    ((gJ6_bitCount_0f7a4 v4 p1.2).bind fun p2 =>
    some (p2.1, p2.2))
    else
    (if v2 = 1 then
    (some (v5, p1.2))
    else
    (some (v4, p1.2))))
    else
    ((gX9_costOfSet E n v6 p1.2).bind fun p3 =>
    if (v6 &&& v3) = v3 then
    (if p3.1 = ((-1)) then
    (gX9_most_b40 E n w v1 v2 v3 v4 v5 (v6 + 1) p3.2)
    else
    (if p3.1 ≤ v1 then
    ((gJ6_bitCount_0f7a4 v6 p3.2).bind fun p4 =>
    (gJ6_bitCount_0f7a4 v4 p4.2).bind fun p5 =>
    if 0 < (p4.1 - p5.1) then
    (gX9_most_b113 E n (gX9_most_b40 E n w) v1 v2 v3 v6 p3.1 p5.2)
    else
    (if (p4.1 - p5.1) = 0 then
    (if v5 ≤ p3.1 then
    (gX9_most_b40 E n w v1 v2 v3 v4 v5 (v6 + 1) p5.2)
    else
    (gX9_most_b113 E n (gX9_most_b40 E n w) v1 v2 v3 v6 p3.1 p5.2))
    else
    (gX9_most_b40 E n w v1 v2 v3 v4 v5 (v6 + 1) p5.2)))
    else
    (gX9_most_b40 E n w v1 v2 v3 v4 v5 (v6 + 1) p3.2)))
    else
    (gX9_most_b40 E n w v1 v2 v3 v4 v5 (v6 + 1) p3.2))
set_option maxHeartbeats 1000000 in
theorem smX9_most_b40 {E : VE} {n : Nat} (hT : E.1 = 6 ∨ E.1 = 15) : ∀ (w : Nat) (v1 : Int32)  (v2 : Int32)  (v3 : Int32)  (v4 : Int32)  (v5 : Int32)  (v6 : Int32)  (V : VT), fX9_most_b40 n w 2 v1 v2 v3 v4 v5 v6 (hpV E V) = (gX9_most_b40 E n w v1 v2 v3 v4 v5 v6 V).map (fun p => (p.1, hpV E p.2)) := by
  have hT1 := (cls_T hT).1
  have hT2 := (cls_T hT).2
  intro w
  induction w with
  | zero => intro v1 v2 v3 v4 v5 v6 V; rfl
  | succ w ih =>
    intro v1 v2 v3 v4 v5 v6 V
    unfold fX9_most_b40 gX9_most_b40
    refine sb_some (s_gR rfl rfl) ?_
    refine sb_P (o' := gX5_everyone E.1 V) (smX5_everyone hT1) (fun p1 => ?_)
    refine sb_ite ?_ ?_
    · refine sb_ite ?_ ?_
      · refine sb_P (o' := gJ6_bitCount_0f7a4 v4 p1.2) (smJ6_bitCount_0f7a4) (fun p2 => ?_)
        rfl
      · refine sb_ite ?_ ?_
        · rfl
        · rfl
    · refine sb_P (o' := gX9_costOfSet E n v6 p1.2) (smX9_costOfSet hT) (fun p3 => ?_)
      refine sb_ite ?_ ?_
      · refine sb_ite ?_ ?_
        · exact ih v1 v2 v3 v4 v5 (v6 + 1) p3.2
        · refine sb_ite ?_ ?_
          · refine sb_P (o' := gJ6_bitCount_0f7a4 v6 p3.2) (smJ6_bitCount_0f7a4) (fun p4 => ?_)
            refine sb_P (o' := gJ6_bitCount_0f7a4 v4 p4.2) (smJ6_bitCount_0f7a4) (fun p5 => ?_)
            refine sb_ite ?_ ?_
            · exact smX9_most_b113 hT ih
            · refine sb_ite ?_ ?_
              · refine sb_ite ?_ ?_
                · exact ih v1 v2 v3 v4 v5 (v6 + 1) p5.2
                · exact smX9_most_b113 hT ih
              · exact ih v1 v2 v3 v4 v5 (v6 + 1) p5.2
          · exact ih v1 v2 v3 v4 v5 (v6 + 1) p3.2
      · exact ih v1 v2 v3 v4 v5 (v6 + 1) p3.2
def gX9_most (E : VE) (n : Nat) (v1 : Int32) (v2 : Int32) (V : VT) : Option (Int32 × VT) :=
  (gX9_within v1 0 200 V).bind fun p1 =>
  if p1.1 = 0 then
  (some ((-1), p1.2))
  else
  ((gX9_within v2 0 2 p1.2).bind fun p2 =>
  if p2.1 = 0 then
  (some ((-1), p2.2))
  else
  ((gX9_reckonCosts E n p2.2).bind fun V3 =>
  (gX9_meant E n V3).bind fun p4 =>
  gX9_most_b40 E n n v1 v2 p4.1 p4.1 0 0 p4.2))
set_option maxHeartbeats 1000000 in
theorem smX9_most {E : VE} {n : Nat} {v1 : Int32} {v2 : Int32} {V : VT} (hT : E.1 = 6 ∨ E.1 = 15)   : fX9_most n 2 v1 v2 (hpV E V) = (gX9_most E n v1 v2 V).map (fun p => (p.1, hpV E p.2)) := by
  have hT1 := (cls_T hT).1
  have hT2 := (cls_T hT).2
  unfold fX9_most gX9_most
  refine sb_some (s_isO rfl) ?_
  refine sb_P (o' := gX9_within v1 0 200 V) (smX9_within) (fun p1 => ?_)
  refine sb_ite ?_ ?_
  · rfl
  · refine sb_P (o' := gX9_within v2 0 2 p1.2) (smX9_within) (fun p2 => ?_)
    refine sb_ite ?_ ?_
    · rfl
    · refine sb_V (o' := gX9_reckonCosts E n p2.2) (smX9_reckonCosts hT) (fun V3 => ?_)
      refine sb_P (o' := gX9_meant E n V3) (smX9_meant hT) (fun p4 => ?_)
      exact smX9_most_b40 hT _ v1 v2 p4.1 p4.1 0 0 p4.2
def gX9_noSourerBits_b5 (E : VE) (n : Nat) : Nat → Int32 → Int32 → Int32 → Int32 → VT → Option (Int32 × VT)
  | 0, _, _, _, _, _ => none
  | w + 1, v1, v2, v3, v4, V =>
    if (V.F E.1 6) ≤ v4 then
    (some (v3, V))
    else
    ((rdA 70 (V.A 92) ((v1 * 7) + v4)).bind fun x1 =>
    if v2 < x1 then
    (gX9_noSourerBits_b5 E n w v1 v2 v3 (v4 + 1) V)
    else
    (gX9_noSourerBits_b5 E n w v1 v2 (v3 ||| ((1 : Int32) <<< (v4 &&& 31))) (v4 + 1) V))
set_option maxHeartbeats 1000000 in
theorem smX9_noSourerBits_b5 {E : VE} {n : Nat} (hT : E.1 = 6 ∨ E.1 = 15) : ∀ (w : Nat) (v1 : Int32)  (v2 : Int32)  (v3 : Int32)  (v4 : Int32)  (V : VT), fX9_noSourerBits_b5 n w 2 v1 v2 v3 v4 (hpV E V) = (gX9_noSourerBits_b5 E n w v1 v2 v3 v4 V).map (fun p => (p.1, hpV E p.2)) := by
  have hT1 := (cls_T hT).1
  have hT2 := (cls_T hT).2
  intro w
  induction w with
  | zero => intro v1 v2 v3 v4 V; rfl
  | succ w ih =>
    intro v1 v2 v3 v4 V
    unfold fX9_noSourerBits_b5 gX9_noSourerBits_b5
    refine sb_some (s_gR rfl rfl) ?_
    refine sb_some (s_gI hT1 rfl) ?_
    refine sb_ite ?_ ?_
    · rfl
    · refine sb_some (s_gR rfl rfl) ?_
      refine sb_bindE (s_aI rfl) (fun x1 => ?_)
      refine sb_ite ?_ ?_
      · exact ih v1 v2 v3 (v4 + 1) V
      · exact ih v1 v2 (v3 ||| ((1 : Int32) <<< (v4 &&& 31))) (v4 + 1) V
def gX9_noSourerBits (E : VE) (n : Nat) (v1 : Int32) (v2 : Int32) (V : VT) : Option (Int32 × VT) :=
  gX9_noSourerBits_b5 E n n v1 v2 0 0 V
set_option maxHeartbeats 1000000 in
theorem smX9_noSourerBits {E : VE} {n : Nat} {v1 : Int32} {v2 : Int32} {V : VT} (hT : E.1 = 6 ∨ E.1 = 15)   : fX9_noSourerBits n 2 v1 v2 (hpV E V) = (gX9_noSourerBits E n v1 v2 V).map (fun p => (p.1, hpV E p.2)) := by
  have hT1 := (cls_T hT).1
  have hT2 := (cls_T hT).2
  unfold fX9_noSourerBits gX9_noSourerBits
  refine sb_some (s_isO rfl) ?_
  exact smX9_noSourerBits_b5 hT _ v1 v2 0 0 V
def gX9_reckonTastes_b25 (E : VE) (n : Nat) (K2 : Int32 → VT → Option (VT)) : Nat → Int32 → Int32 → Int32 → VT → Option (VT)
  | 0, _, _, _, _ => none
  | w + 1, v1, v2, v3, V =>
    if 9 < v3 then
    (K2 (v1 + 1) V)
    else
    ((wrA V 92 70 ((v3 * 7) + v1) v2).bind fun V1 =>
    (rdA 7 (V1.A 26) v1).bind fun x2 =>
    (gX5_sourAfterCoat n E.1 v1 v2 (x2 + v3) (V1.F 24 3) V1).bind fun p3 =>
    gX9_reckonTastes_b25 E n K2 w v1 p3.1 (v3 + 1) p3.2)
set_option maxHeartbeats 1000000 in
theorem smX9_reckonTastes_b25 {E : VE} {n : Nat} {K2 : Int32 → VT → Option (VT)} {k2 : Nat → Int32 → qH → Option (qH)} (hT : E.1 = 6 ∨ E.1 = 15) (hK2 : ∀ (v1 : Int32)  (V : VT), k2 2 v1 (hpV E V) = (K2 v1 V).map (hpV E)) : ∀ (w : Nat) (v1 : Int32)  (v2 : Int32)  (v3 : Int32)  (V : VT), fX9_reckonTastes_b25 n k2 w 2 v1 v2 v3 (hpV E V) = (gX9_reckonTastes_b25 E n K2 w v1 v2 v3 V).map (hpV E) := by
  have hT1 := (cls_T hT).1
  have hT2 := (cls_T hT).2
  intro w
  induction w with
  | zero => intro v1 v2 v3 V; rfl
  | succ w ih =>
    intro v1 v2 v3 V
    unfold fX9_reckonTastes_b25 gX9_reckonTastes_b25
    refine sb_ite ?_ ?_
    · exact hK2 (v1 + 1) V
    · refine sb_some (s_gR rfl rfl) ?_
      refine sb_V (o' := wrA V 92 70 ((v3 * 7) + v1) v2) (s_sI rfl) (fun V1 => ?_)
      refine sb_some (s_gR rfl rfl) ?_
      refine sb_some (s_gR rfl rfl) ?_
      refine sb_some (s_gR rfl rfl) ?_
      refine sb_bindE (s_aI rfl) (fun x2 => ?_)
      refine sb_some (s_gR rfl rfl) ?_
      refine sb_some (s_gI rfl rfl) ?_
      refine sb_P (o' := gX5_sourAfterCoat n E.1 v1 v2 (x2 + v3) (V1.F 24 3) V1) (smX5_sourAfterCoat hT1) (fun p3 => ?_)
      exact ih v1 p3.1 (v3 + 1) p3.2
def gX9_reckonTastes_b2 (E : VE) (n : Nat) : Nat → Int32 → VT → Option (VT)
  | 0, _, _ => none
  | w + 1, v1, V =>
    if (V.F E.1 6) ≤ v1 then
    (some V)
    else
    ((rdA 7 (V.A 25) v1).bind fun x1 =>
    gX9_reckonTastes_b25 E n (gX9_reckonTastes_b2 E n w) n v1 x1 0 V)
set_option maxHeartbeats 1000000 in
theorem smX9_reckonTastes_b2 {E : VE} {n : Nat} (hT : E.1 = 6 ∨ E.1 = 15) : ∀ (w : Nat) (v1 : Int32)  (V : VT), fX9_reckonTastes_b2 n w 2 v1 (hpV E V) = (gX9_reckonTastes_b2 E n w v1 V).map (hpV E) := by
  have hT1 := (cls_T hT).1
  have hT2 := (cls_T hT).2
  intro w
  induction w with
  | zero => intro v1 V; rfl
  | succ w ih =>
    intro v1 V
    unfold fX9_reckonTastes_b2 gX9_reckonTastes_b2
    refine sb_some (s_gR rfl rfl) ?_
    refine sb_some (s_gI hT1 rfl) ?_
    refine sb_ite ?_ ?_
    · rfl
    · refine sb_some (s_gR rfl rfl) ?_
      refine sb_some (s_gR rfl rfl) ?_
      refine sb_bindE (s_aI rfl) (fun x1 => ?_)
      exact smX9_reckonTastes_b25 hT ih _ v1 x1 0 V
def gX9_reckonTastes (E : VE) (n : Nat)  (V : VT) : Option (VT) :=
  gX9_reckonTastes_b2 E n n 0 V
set_option maxHeartbeats 1000000 in
theorem smX9_reckonTastes {E : VE} {n : Nat}  {V : VT} (hT : E.1 = 6 ∨ E.1 = 15)  : fX9_reckonTastes n 2 (hpV E V) = (gX9_reckonTastes E n  V).map (hpV E) := by
  have hT1 := (cls_T hT).1
  have hT2 := (cls_T hT).2
  unfold fX9_reckonTastes gX9_reckonTastes
  refine sb_some (s_isO rfl) ?_
  exact smX9_reckonTastes_b2 hT _ 0 V
def gX9_redeems_b22 (E : VE) (n : Nat) : Nat → Int32 → Int32 → Int32 → Int32 → VT → Option (Int32 × VT)
  | 0, _, _, _, _, _ => none
  | w + 1, v1, v2, v3, v4, V =>
    if (V.F E.1 6) ≤ v4 then
    (some (v2, V))
    else
    ((gX5_causeBits n E.1 v4 V).bind fun p1 =>
    (gJ6_bitCount_0f7a4 (p1.1 &&& v1) p1.2).bind fun p2 =>
    (rdA 7 (p2.2.A 25) v4).bind fun x3 =>
    if x3 = 0 then
    (gX9_redeems_b22 E n w v1 v2 v3 (v4 + 1) p2.2)
    else
    (if p2.1 ≤ v3 then
    (gX9_redeems_b22 E n w v1 v2 v3 (v4 + 1) p2.2)
    else
    (gX9_redeems_b22 E n w v1 v4 p2.1 (v4 + 1) p2.2)))
set_option maxHeartbeats 1000000 in
theorem smX9_redeems_b22 {E : VE} {n : Nat} (hT : E.1 = 6 ∨ E.1 = 15) : ∀ (w : Nat) (v1 : Int32)  (v2 : Int32)  (v3 : Int32)  (v4 : Int32)  (V : VT), fX9_redeems_b22 n w 2 v1 v2 v3 v4 (hpV E V) = (gX9_redeems_b22 E n w v1 v2 v3 v4 V).map (fun p => (p.1, hpV E p.2)) := by
  have hT1 := (cls_T hT).1
  have hT2 := (cls_T hT).2
  intro w
  induction w with
  | zero => intro v1 v2 v3 v4 V; rfl
  | succ w ih =>
    intro v1 v2 v3 v4 V
    unfold fX9_redeems_b22 gX9_redeems_b22
    refine sb_some (s_gR rfl rfl) ?_
    refine sb_some (s_gI hT1 rfl) ?_
    refine sb_ite ?_ ?_
    · rfl
    · refine sb_some (s_gR rfl rfl) ?_
      refine sb_P (o' := gX5_causeBits n E.1 v4 V) (smX5_causeBits hT1) (fun p1 => ?_)
      refine sb_P (o' := gJ6_bitCount_0f7a4 (p1.1 &&& v1) p1.2) (smJ6_bitCount_0f7a4) (fun p2 => ?_)
      refine sb_some (s_gR rfl rfl) ?_
      refine sb_some (s_gR rfl rfl) ?_
      refine sb_bindE (s_aI rfl) (fun x3 => ?_)
      refine sb_ite ?_ ?_
      · exact ih v1 v2 v3 (v4 + 1) p2.2
      · refine sb_ite ?_ ?_
        · exact ih v1 v2 v3 (v4 + 1) p2.2
        · exact ih v1 v4 p2.1 (v4 + 1) p2.2
def gX9_redeems (E : VE) (n : Nat)  (V : VT) : Option (Int32 × VT) :=
  (gX5_everyone E.1 V).bind fun p1 =>
  (gX9_right E n p1.2).bind fun p2 =>
  gX9_redeems_b22 E n n (p1.1 &&& (p2.1 ^^^ ((-1)))) ((-1)) 0 0 p2.2
set_option maxHeartbeats 1000000 in
theorem smX9_redeems {E : VE} {n : Nat}  {V : VT} (hT : E.1 = 6 ∨ E.1 = 15)  : fX9_redeems n 2 (hpV E V) = (gX9_redeems E n  V).map (fun p => (p.1, hpV E p.2)) := by
  have hT1 := (cls_T hT).1
  have hT2 := (cls_T hT).2
  unfold fX9_redeems gX9_redeems
  refine sb_some (s_isO rfl) ?_
  refine sb_some (s_gR rfl rfl) ?_
  refine sb_P (o' := gX5_everyone E.1 V) (smX5_everyone hT1) (fun p1 => ?_)
  refine sb_P (o' := gX9_right E n p1.2) (smX9_right hT) (fun p2 => ?_)
  exact smX9_redeems_b22 hT _ (p1.1 &&& (p2.1 ^^^ ((-1)))) ((-1)) 0 0 p2.2
