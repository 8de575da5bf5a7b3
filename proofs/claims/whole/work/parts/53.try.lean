def gX9_within (v0 : Int32) (v1 : Int32) (v2 : Int32) (V : VT) : Option (Int32 × VT) :=
  if v0 < v1 then
  (some (0, V))
  else
  (if v2 < v0 then
  (some (0, V))
  else
  (some (1, V)))
set_option maxHeartbeats 1000000 in
theorem smX9_within {E : VE} {v0 : Int32} {v1 : Int32} {v2 : Int32} {V : VT}    : fX9_within v0 v1 v2 (hpV E V) = (gX9_within v0 v1 v2 V).map (fun p => (p.1, hpV E p.2)) := by
  unfold fX9_within gX9_within
  refine sb_ite ?_ ?_
  · rfl
  · refine sb_ite ?_ ?_
    · rfl
    · rfl
def gX5_price (v0 : Nat) (v1 : Int32) (V : VT) : Option (Int32 × VT) :=
  (rdA 7 (V.A ((v0 + 2))) v1).bind fun x1 =>
  if x1 = 1 then
  (some (2 * (V.F v0 7), V))
  else
  (some (V.F v0 7, V))
set_option maxHeartbeats 1000000 in
theorem smX5_price {E : VE} {v0 : Nat} {v1 : Int32} {V : VT} (h0 : clsAt v0 = some 5)  : fX5_price v0 v1 (hpV E V) = (gX5_price v0 v1 V).map (fun p => (p.1, hpV E p.2)) := by
  unfold fX5_price gX5_price
  refine sb_some (s_isO h0) ?_
  refine sb_some (s_gR h0 rfl) ?_
  refine sb_bindE (s_aI (ch5_2 h0)) (fun x1 => ?_)
  refine sb_ite ?_ ?_
  · refine sb_some (s_gI h0 rfl) ?_
    rfl
  · refine sb_some (s_gI h0 rfl) ?_
    rfl
def gX5_sourAfterYear (v0 : Nat) (v1 : Int32) (v2 : Int32) (v3 : Int32) (V : VT) : Option (Int32 × VT) :=
  if v3 = 0 then
  (some (v2, V))
  else
  ((rdA 7 (V.A ((v0 + 2))) v1).bind fun x1 =>
  if x1 = 1 then
  ((rdA 7 (V.A ((v0 + 4))) v1).bind fun x2 =>
  some (if (v2 + 1) < x2 then (v2 + 1) else x2, V))
  else
  (if x1 = 2 then
  (some (if (0 : Int32) < (v2 - 1) then (v2 - 1) else (0 : Int32), V))
  else
  (some (v2, V))))
set_option maxHeartbeats 1000000 in
theorem smX5_sourAfterYear {E : VE} {v0 : Nat} {v1 : Int32} {v2 : Int32} {v3 : Int32} {V : VT} (h0 : clsAt v0 = some 5)    : fX5_sourAfterYear v0 v1 v2 v3 (hpV E V) = (gX5_sourAfterYear v0 v1 v2 v3 V).map (fun p => (p.1, hpV E p.2)) := by
  unfold fX5_sourAfterYear gX5_sourAfterYear
  refine sb_some (s_isO h0) ?_
  refine sb_ite ?_ ?_
  · rfl
  · refine sb_some (s_gR h0 rfl) ?_
    refine sb_bindE (s_aI (ch5_2 h0)) (fun x1 => ?_)
    refine sb_ite ?_ ?_
    · refine sb_some (s_gR h0 rfl) ?_
      refine sb_bindE (s_aI (ch5_4 h0)) (fun x2 => ?_)
      rfl
    · refine sb_ite ?_ ?_
      · rfl
      · rfl
def gX5_potAfterYear (v0 : Nat) (v1 : Int32) (V : VT) : Option (Int32 × VT) :=
  some (if (v1 + (V.F v0 9)) < (200 : Int32) then (v1 + (V.F v0 9)) else (200 : Int32), V)
set_option maxHeartbeats 1000000 in
theorem smX5_potAfterYear {E : VE} {v0 : Nat} {v1 : Int32} {V : VT} (h0 : clsAt v0 = some 5)  : fX5_potAfterYear v0 v1 (hpV E V) = (gX5_potAfterYear v0 v1 V).map (fun p => (p.1, hpV E p.2)) := by
  unfold fX5_potAfterYear gX5_potAfterYear
  refine sb_some (s_isO h0) ?_
  refine sb_some (s_gI h0 rfl) ?_
  rfl
def gX8_pass_b2 (n : Nat) : Nat → Nat → Nat → Int32 → VT → Option (VT)
  | 0, _, _, _, _ => none
  | w + 1, v0, v1, v2, V =>
    if (V.F v1 6) ≤ v2 then
    ((gX5_potAfterYear v1 (V.F v0 2) V).bind fun p1 =>
    (some (wF p1.2 v0 2 p1.1)).bind fun V2 =>
    (some (wF V2 v0 3 ((V2.F v0 3) + 1))).bind fun V3 =>
    some V3)
    else
    ((rdA 7 (V.A ((v0 + 1))) v2).bind fun x4 =>
    (rdA 7 (V.A ((v0 + 2))) v2).bind fun x5 =>
    (gX5_sourAfterYear v1 v2 x4 x5 V).bind fun p6 =>
    (wrA p6.2 ((v0 + 1)) 7 v2 p6.1).bind fun V7 =>
    gX8_pass_b2 n w v0 v1 (v2 + 1) V7)
set_option maxHeartbeats 1000000 in
theorem smX8_pass_b2 {E : VE} {n : Nat} : ∀ (w : Nat) (v0 : Nat) (hv0 : clsAt v0 = some 8) (v1 : Nat) (hv1 : clsAt v1 = some 5) (v2 : Int32)  (V : VT), fX8_pass_b2 n w v0 v1 v2 (hpV E V) = (gX8_pass_b2 n w v0 v1 v2 V).map (hpV E) := by
  intro w
  induction w with
  | zero => intro v0 hv0 v1 hv1 v2 V; rfl
  | succ w ih =>
    intro v0 hv0 v1 hv1 v2 V
    unfold fX8_pass_b2 gX8_pass_b2
    refine sb_some (s_gI hv1 rfl) ?_
    refine sb_ite ?_ ?_
    · refine sb_some (s_gI hv0 rfl) ?_
      refine sb_P (o' := gX5_potAfterYear v1 (V.F v0 2) V) (smX5_potAfterYear hv1) (fun p1 => ?_)
      refine sb_V (o' := some (wF p1.2 v0 2 p1.1)) (w8_2 hv0) (fun V2 => ?_)
      refine sb_some (s_gI hv0 rfl) ?_
      refine sb_V (o' := some (wF V2 v0 3 ((V2.F v0 3) + 1))) (w8_3 hv0) (fun V3 => ?_)
      rfl
    · refine sb_some (s_gR hv0 rfl) ?_
      refine sb_some (s_gR hv0 rfl) ?_
      refine sb_bindE (s_aI (ch8_1 hv0)) (fun x4 => ?_)
      refine sb_some (s_gR hv0 rfl) ?_
      refine sb_bindE (s_aI (ch8_2 hv0)) (fun x5 => ?_)
      refine sb_P (o' := gX5_sourAfterYear v1 v2 x4 x5 V) (smX5_sourAfterYear hv1) (fun p6 => ?_)
      refine sb_V (o' := wrA p6.2 ((v0 + 1)) 7 v2 p6.1) (s_sI (ch8_1 hv0)) (fun V7 => ?_)
      exact ih v0 hv0 v1 hv1 (v2 + 1) V7
def gX8_pass (n : Nat) (v0 : Nat) (v1 : Nat) (V : VT) : Option (VT) :=
  gX8_pass_b2 n n v0 v1 0 V
set_option maxHeartbeats 1000000 in
theorem smX8_pass {E : VE} {n : Nat} {v0 : Nat} {v1 : Nat} {V : VT} (h0 : clsAt v0 = some 8) (h1 : clsAt v1 = some 5) : fX8_pass n v0 v1 (hpV E V) = (gX8_pass n v0 v1 V).map (hpV E) := by
  unfold fX8_pass gX8_pass
  refine sb_some (s_isO h0) ?_
  exact smX8_pass_b2 _ v0 h0 v1 h1 0 V
def gX8_meantBits_b4 (n : Nat) : Nat → Nat → Nat → Int32 → Int32 → VT → Option (Int32 × VT)
  | 0, _, _, _, _, _ => none
  | w + 1, v0, v1, v2, v3, V =>
    if (V.F v1 6) ≤ v3 then
    (some (v2, V))
    else
    ((rdA 7 (V.A ((v0 + 1))) v3).bind fun x1 =>
    if x1 = 0 then
    (gX8_meantBits_b4 n w v0 v1 (v2 ||| ((1 : Int32) <<< (v3 &&& 31))) (v3 + 1) V)
    else
    (gX8_meantBits_b4 n w v0 v1 v2 (v3 + 1) V))
set_option maxHeartbeats 1000000 in
theorem smX8_meantBits_b4 {E : VE} {n : Nat} : ∀ (w : Nat) (v0 : Nat) (hv0 : clsAt v0 = some 8) (v1 : Nat) (hv1 : clsAt v1 = some 5) (v2 : Int32)  (v3 : Int32)  (V : VT), fX8_meantBits_b4 n w v0 v1 v2 v3 (hpV E V) = (gX8_meantBits_b4 n w v0 v1 v2 v3 V).map (fun p => (p.1, hpV E p.2)) := by
  intro w
  induction w with
  | zero => intro v0 hv0 v1 hv1 v2 v3 V; rfl
  | succ w ih =>
    intro v0 hv0 v1 hv1 v2 v3 V
    unfold fX8_meantBits_b4 gX8_meantBits_b4
    refine sb_some (s_gI hv1 rfl) ?_
    refine sb_ite ?_ ?_
    · rfl
    · refine sb_some (s_gR hv0 rfl) ?_
      refine sb_bindE (s_aI (ch8_1 hv0)) (fun x1 => ?_)
      refine sb_ite ?_ ?_
      · exact ih v0 hv0 v1 hv1 (v2 ||| ((1 : Int32) <<< (v3 &&& 31))) (v3 + 1) V
      · exact ih v0 hv0 v1 hv1 v2 (v3 + 1) V
def gX8_meantBits (n : Nat) (v0 : Nat) (v1 : Nat) (V : VT) : Option (Int32 × VT) :=
  gX8_meantBits_b4 n n v0 v1 0 0 V
set_option maxHeartbeats 1000000 in
theorem smX8_meantBits {E : VE} {n : Nat} {v0 : Nat} {v1 : Nat} {V : VT} (h0 : clsAt v0 = some 8) (h1 : clsAt v1 = some 5) : fX8_meantBits n v0 v1 (hpV E V) = (gX8_meantBits n v0 v1 V).map (fun p => (p.1, hpV E p.2)) := by
  unfold fX8_meantBits gX8_meantBits
  refine sb_some (s_isO h0) ?_
  exact smX8_meantBits_b4 _ v0 h0 v1 h1 0 0 V
def gX1_push (v0 : Nat) (v1 : Int32) (V : VT) : Option (VT) :=
  if 64 ≤ (V.F v0 3) then
  (some V)
  else
  ((wrA V ((v0 + 2)) 64 (V.F v0 3) v1).bind fun V1 =>
  (some (wF V1 v0 3 ((V1.F v0 3) + 1))).bind fun V2 =>
  some V2)
set_option maxHeartbeats 1000000 in
theorem smX1_push {E : VE} {v0 : Nat} {v1 : Int32} {V : VT} (h0 : clsAt v0 = some 1)  : fX1_push v0 v1 (hpV E V) = (gX1_push v0 v1 V).map (hpV E) := by
  unfold fX1_push gX1_push
  refine sb_some (s_isO h0) ?_
  refine sb_some (s_gI h0 rfl) ?_
  refine sb_some (s_gR h0 rfl) ?_
  refine sb_some (x := 64) (s_aN (ch1_2 h0)) ?_
  refine sb_ite ?_ ?_
  · rfl
  · refine sb_some (s_gR h0 rfl) ?_
    refine sb_some (s_gI h0 rfl) ?_
    refine sb_V (o' := wrA V ((v0 + 2)) 64 (V.F v0 3) v1) (s_sI (ch1_2 h0)) (fun V1 => ?_)
    refine sb_some (s_gI h0 rfl) ?_
    refine sb_V (o' := some (wF V1 v0 3 ((V1.F v0 3) + 1))) (w1_3 h0) (fun V2 => ?_)
    rfl
def gX1_pop (v0 : Nat) (V : VT) : Option (Int32 × VT) :=
  if 0 < (V.F v0 3) then
  ((some (wF V v0 3 ((V.F v0 3) - 1))).bind fun V1 =>
  (rdA 64 (V1.A ((v0 + 2))) (V1.F v0 3)).bind fun x2 =>
  some (x2, V1))
  else
  (some (0, V))
set_option maxHeartbeats 1000000 in
theorem smX1_pop {E : VE} {v0 : Nat} {V : VT} (h0 : clsAt v0 = some 1) : fX1_pop v0 (hpV E V) = (gX1_pop v0 V).map (fun p => (p.1, hpV E p.2)) := by
  unfold fX1_pop gX1_pop
  refine sb_some (s_isO h0) ?_
  refine sb_some (s_gI h0 rfl) ?_
  refine sb_ite ?_ ?_
  · refine sb_some (s_gI h0 rfl) ?_
    refine sb_V (o' := some (wF V v0 3 ((V.F v0 3) - 1))) (w1_3 h0) (fun V1 => ?_)
    refine sb_some (s_gR h0 rfl) ?_
    refine sb_some (s_gI h0 rfl) ?_
    refine sb_bindE (s_aI (ch1_2 h0)) (fun x2 => ?_)
    rfl
  · rfl
def gX1_joined (v0 : Int32) (v1 : Int32) (v2 : Int32) (V : VT) : Option (Int32 × VT) :=
  if v0 = 16 then
  (if v1 = 0 then
  (some (0, V))
  else
  (if v2 = 0 then
  (some (0, V))
  else
  (some (1, V))))
  else
  (if v0 = 42 then
  (some (v1 * v2, V))
  else
  (if v0 = 43 then
  (some (v1 + v2, V))
  else
  (if v0 = 45 then
  (some (v1 - v2, V))
  else
  (if v0 = 60 then
  (if v2 ≤ v1 then
  (some (0, V))
  else
  (some (1, V)))
  else
  (if v0 = 61 then
  (if v1 = v2 then
  (some (1, V))
  else
  (some (0, V)))
  else
  (if v1 = 0 then
  (if v2 = 0 then
  (some (0, V))
  else
  (some (1, V)))
  else
  (some (1, V))))))))
set_option maxHeartbeats 1000000 in
theorem smX1_joined {E : VE} {v0 : Int32} {v1 : Int32} {v2 : Int32} {V : VT}    : fX1_joined v0 v1 v2 (hpV E V) = (gX1_joined v0 v1 v2 V).map (fun p => (p.1, hpV E p.2)) := by
  unfold fX1_joined gX1_joined
  refine sb_ite ?_ ?_
  · refine sb_ite ?_ ?_
    · rfl
    · refine sb_ite ?_ ?_
      · rfl
      · rfl
  · refine sb_ite ?_ ?_
    · rfl
    · refine sb_ite ?_ ?_
      · rfl
      · refine sb_ite ?_ ?_
        · rfl
        · refine sb_ite ?_ ?_
          · refine sb_ite ?_ ?_
            · rfl
            · rfl
          · refine sb_ite ?_ ?_
            · refine sb_ite ?_ ?_
              · rfl
              · rfl
            · refine sb_ite ?_ ?_
              · refine sb_ite ?_ ?_
                · rfl
                · rfl
              · rfl
def gX1_worth_b128 (n : Nat) (K8 : Nat → Int32 → Int32 → Int32 → Int32 → Int32 → VT → Option (Int32 × VT)) (v0 : Nat) (v1 : Int32) (v2 : Int32) (v3 : Int32) (v4 : Int32) (v5 : Int32) (v6 : Int32) (V : VT) : Option (Int32 × VT) :=
  if 0 ≤ v6 then
  ((gX1_pop v0 V).bind fun p1 =>
  (gX1_pop v0 p1.2).bind fun p2 =>
  (gX1_joined v6 p2.1 p1.1 p2.2).bind fun p3 =>
  (gX1_push v0 p3.1 p3.2).bind fun V4 =>
  K8 v0 v1 v2 v3 v4 (v5 + 1) V4)
  else
  ((rdA 1000 (V.A ((v0 + 1))) v5).bind fun x5 =>
  (gX1_push v0 x5 V).bind fun V6 =>
  K8 v0 v1 v2 v3 v4 (v5 + 1) V6)
set_option maxHeartbeats 1000000 in
theorem smX1_worth_b128 {E : VE} {n : Nat} {K8 : Nat → Int32 → Int32 → Int32 → Int32 → Int32 → VT → Option (Int32 × VT)} {k8 : Nat → Int32 → Int32 → Int32 → Int32 → Int32 → qH → Option (Int32 × qH)} {v0 : Nat} {v1 : Int32} {v2 : Int32} {v3 : Int32} {v4 : Int32} {v5 : Int32} {v6 : Int32} {V : VT} (hK8 : ∀ (v0 : Nat) (hv0 : clsAt v0 = some 1) (v1 : Int32)  (v2 : Int32)  (v3 : Int32)  (v4 : Int32)  (v5 : Int32)  (V : VT), k8 v0 v1 v2 v3 v4 v5 (hpV E V) = (K8 v0 v1 v2 v3 v4 v5 V).map (fun p => (p.1, hpV E p.2))) (hv0 : clsAt v0 = some 1)       : fX1_worth_b128 n k8 v0 v1 v2 v3 v4 v5 v6 (hpV E V) = (gX1_worth_b128 n K8 v0 v1 v2 v3 v4 v5 v6 V).map (fun p => (p.1, hpV E p.2)) := by
  unfold fX1_worth_b128 gX1_worth_b128
  refine sb_ite ?_ ?_
  · refine sb_P (o' := gX1_pop v0 V) (smX1_pop hv0) (fun p1 => ?_)
    refine sb_P (o' := gX1_pop v0 p1.2) (smX1_pop hv0) (fun p2 => ?_)
    refine sb_P (o' := gX1_joined v6 p2.1 p1.1 p2.2) (smX1_joined) (fun p3 => ?_)
    refine sb_V (o' := gX1_push v0 p3.1 p3.2) (smX1_push hv0) (fun V4 => ?_)
    exact hK8 v0 hv0 v1 v2 v3 v4 (v5 + 1) V4
  · refine sb_some (s_gR hv0 rfl) ?_
    refine sb_bindE (s_aI (ch1_1 hv0)) (fun x5 => ?_)
    refine sb_V (o' := gX1_push v0 x5 V) (smX1_push hv0) (fun V6 => ?_)
    exact hK8 v0 hv0 v1 v2 v3 v4 (v5 + 1) V6
def gX1_worth_b122 (n : Nat) (K8 : Nat → Int32 → Int32 → Int32 → Int32 → Int32 → VT → Option (Int32 × VT)) (v0 : Nat) (v1 : Int32) (v2 : Int32) (v3 : Int32) (v4 : Int32) (v5 : Int32) (s0 : Int32) (s1 : Nat) (V : VT) : Option (Int32 × VT) :=
  (gX1_push s1 s0 V).bind fun V1 =>
  K8 v0 v1 v2 v3 v4 (v5 + 1) V1
set_option maxHeartbeats 1000000 in
theorem smX1_worth_b122 {E : VE} {n : Nat} {K8 : Nat → Int32 → Int32 → Int32 → Int32 → Int32 → VT → Option (Int32 × VT)} {k8 : Nat → Int32 → Int32 → Int32 → Int32 → Int32 → qH → Option (Int32 × qH)} {v0 : Nat} {v1 : Int32} {v2 : Int32} {v3 : Int32} {v4 : Int32} {v5 : Int32} {s0 : Int32} {s1 : Nat} {V : VT} (hK8 : ∀ (v0 : Nat) (hv0 : clsAt v0 = some 1) (v1 : Int32)  (v2 : Int32)  (v3 : Int32)  (v4 : Int32)  (v5 : Int32)  (V : VT), k8 v0 v1 v2 v3 v4 v5 (hpV E V) = (K8 v0 v1 v2 v3 v4 v5 V).map (fun p => (p.1, hpV E p.2))) (hv0 : clsAt v0 = some 1)       (hs1 : clsAt s1 = some 1) : fX1_worth_b122 n k8 v0 v1 v2 v3 v4 v5 s0 s1 (hpV E V) = (gX1_worth_b122 n K8 v0 v1 v2 v3 v4 v5 s0 s1 V).map (fun p => (p.1, hpV E p.2)) := by
  unfold fX1_worth_b122 gX1_worth_b122
  refine sb_V (o' := gX1_push s1 s0 V) (smX1_push hs1) (fun V1 => ?_)
  exact hK8 v0 hv0 v1 v2 v3 v4 (v5 + 1) V1
def gX1_worth_b8 (n : Nat) : Nat → Nat → Int32 → Int32 → Int32 → Int32 → Int32 → VT → Option (Int32 × VT)
  | 0, _, _, _, _, _, _, _ => none
  | w + 1, v0, v1, v2, v3, v4, v5, V =>
    if (V.F v0 2) ≤ v5 then
    ((gX1_pop v0 V).bind fun p1 =>
    some (p1.1, p1.2))
    else
    ((rdA 1000 (V.A ((v0 + 1))) v5).bind fun x2 =>
    if (x2 - 10000) = 15 then
    ((gX1_pop v0 V).bind fun p3 =>
    if p3.1 = 0 then
    (gX1_worth_b122 n (gX1_worth_b8 n w) v0 v1 v2 v3 v4 v5 1 v0 p3.2)
    else
    (gX1_worth_b122 n (gX1_worth_b8 n w) v0 v1 v2 v3 v4 v5 0 v0 p3.2))
    else
    (if (x2 - 10000) = 16 then
    (gX1_worth_b128 n (gX1_worth_b8 n w) v0 v1 v2 v3 v4 v5 (x2 - 10000) V)
    else
    (if (x2 - 10000) = 17 then
    (gX1_worth_b128 n (gX1_worth_b8 n w) v0 v1 v2 v3 v4 v5 (x2 - 10000) V)
    else
    (if (x2 - 10000) = 18 then
    ((gX1_push v0 v1 V).bind fun V4 =>
    gX1_worth_b8 n w v0 v1 v2 v3 v4 (v5 + 1) V4)
    else
    (if (x2 - 10000) = 19 then
    ((gX1_push v0 v2 V).bind fun V5 =>
    gX1_worth_b8 n w v0 v1 v2 v3 v4 (v5 + 1) V5)
    else
    (if (x2 - 10000) = 20 then
    ((gX1_push v0 v3 V).bind fun V6 =>
    gX1_worth_b8 n w v0 v1 v2 v3 v4 (v5 + 1) V6)
    else
    (if (x2 - 10000) = 21 then
    ((gX1_push v0 v4 V).bind fun V7 =>
    gX1_worth_b8 n w v0 v1 v2 v3 v4 (v5 + 1) V7)
    else
    (gX1_worth_b128 n (gX1_worth_b8 n w) v0 v1 v2 v3 v4 v5 (x2 - 10000) V))))))))
set_option maxHeartbeats 1000000 in
theorem smX1_worth_b8 {E : VE} {n : Nat} : ∀ (w : Nat) (v0 : Nat) (hv0 : clsAt v0 = some 1) (v1 : Int32)  (v2 : Int32)  (v3 : Int32)  (v4 : Int32)  (v5 : Int32)  (V : VT), fX1_worth_b8 n w v0 v1 v2 v3 v4 v5 (hpV E V) = (gX1_worth_b8 n w v0 v1 v2 v3 v4 v5 V).map (fun p => (p.1, hpV E p.2)) := by
  intro w
  induction w with
  | zero => intro v0 hv0 v1 v2 v3 v4 v5 V; rfl
  | succ w ih =>
    intro v0 hv0 v1 v2 v3 v4 v5 V
    unfold fX1_worth_b8 gX1_worth_b8
    refine sb_some (s_gI hv0 rfl) ?_
    refine sb_ite ?_ ?_
    · refine sb_P (o' := gX1_pop v0 V) (smX1_pop hv0) (fun p1 => ?_)
      rfl
    · refine sb_some (s_gR hv0 rfl) ?_
      refine sb_bindE (s_aI (ch1_1 hv0)) (fun x2 => ?_)
      refine sb_ite ?_ ?_
      · refine sb_P (o' := gX1_pop v0 V) (smX1_pop hv0) (fun p3 => ?_)
        refine sb_ite ?_ ?_
        · exact smX1_worth_b122 ih hv0 hv0
        · exact smX1_worth_b122 ih hv0 hv0
      · refine sb_ite ?_ ?_
        · exact smX1_worth_b128 ih hv0
        · refine sb_ite ?_ ?_
          · exact smX1_worth_b128 ih hv0
          · refine sb_ite ?_ ?_
            · refine sb_V (o' := gX1_push v0 v1 V) (smX1_push hv0) (fun V4 => ?_)
              exact ih v0 hv0 v1 v2 v3 v4 (v5 + 1) V4
            · refine sb_ite ?_ ?_
              · refine sb_V (o' := gX1_push v0 v2 V) (smX1_push hv0) (fun V5 => ?_)
                exact ih v0 hv0 v1 v2 v3 v4 (v5 + 1) V5
              · refine sb_ite ?_ ?_
                · refine sb_V (o' := gX1_push v0 v3 V) (smX1_push hv0) (fun V6 => ?_)
                  exact ih v0 hv0 v1 v2 v3 v4 (v5 + 1) V6
                · refine sb_ite ?_ ?_
                  · refine sb_V (o' := gX1_push v0 v4 V) (smX1_push hv0) (fun V7 => ?_)
                    exact ih v0 hv0 v1 v2 v3 v4 (v5 + 1) V7
                  · exact smX1_worth_b128 ih hv0
def gX1_worth (n : Nat) (v0 : Nat) (v1 : Int32) (v2 : Int32) (v3 : Int32) (v4 : Int32) (V : VT) : Option (Int32 × VT) :=
  (some (wF V v0 3 0)).bind fun V1 =>
  gX1_worth_b8 n n v0 v1 v2 v3 v4 0 V1
set_option maxHeartbeats 1000000 in
theorem smX1_worth {E : VE} {n : Nat} {v0 : Nat} {v1 : Int32} {v2 : Int32} {v3 : Int32} {v4 : Int32} {V : VT} (h0 : clsAt v0 = some 1)     : fX1_worth n v0 v1 v2 v3 v4 (hpV E V) = (gX1_worth n v0 v1 v2 v3 v4 V).map (fun p => (p.1, hpV E p.2)) := by
  unfold fX1_worth gX1_worth
  refine sb_some (s_isO h0) ?_
  refine sb_V (o' := some (wF V v0 3 0)) (w1_3 h0) (fun V1 => ?_)
  exact smX1_worth_b8 _ v0 h0 v1 v2 v3 v4 0 V1
def gX8_copy_b2 (n : Nat) : Nat → Nat → Nat → Int32 → VT → Option (VT)
  | 0, _, _, _, _ => none
  | w + 1, v0, v1, v2, V =>
    if 7 ≤ v2 then
    ((some (wF V v0 2 (V.F v1 2))).bind fun V1 =>
    (some (wF V1 v0 3 (V1.F v1 3))).bind fun V2 =>
    some V2)
    else
    ((rdA 7 (V.A ((v1 + 1))) v2).bind fun x3 =>
    (wrA V ((v0 + 1)) 7 v2 x3).bind fun V4 =>
    (rdA 7 (V4.A ((v1 + 2))) v2).bind fun x5 =>
    (wrA V4 ((v0 + 2)) 7 v2 x5).bind fun V6 =>
    gX8_copy_b2 n w v0 v1 (v2 + 1) V6)
set_option maxHeartbeats 1000000 in
theorem smX8_copy_b2 {E : VE} {n : Nat} : ∀ (w : Nat) (v0 : Nat) (hv0 : clsAt v0 = some 8) (v1 : Nat) (hv1 : clsAt v1 = some 8) (v2 : Int32)  (V : VT), fX8_copy_b2 n w v0 v1 v2 (hpV E V) = (gX8_copy_b2 n w v0 v1 v2 V).map (hpV E) := by
  intro w
  induction w with
  | zero => intro v0 hv0 v1 hv1 v2 V; rfl
  | succ w ih =>
    intro v0 hv0 v1 hv1 v2 V
    unfold fX8_copy_b2 gX8_copy_b2
    refine sb_ite ?_ ?_
    · refine sb_some (s_gI hv1 rfl) ?_
      refine sb_V (o' := some (wF V v0 2 (V.F v1 2))) (w8_2 hv0) (fun V1 => ?_)
      refine sb_some (s_gI hv1 rfl) ?_
      refine sb_V (o' := some (wF V1 v0 3 (V1.F v1 3))) (w8_3 hv0) (fun V2 => ?_)
      rfl
    · refine sb_some (s_gR hv0 rfl) ?_
      refine sb_some (s_gR hv1 rfl) ?_
      refine sb_bindE (s_aI (ch8_1 hv1)) (fun x3 => ?_)
      refine sb_V (o' := wrA V ((v0 + 1)) 7 v2 x3) (s_sI (ch8_1 hv0)) (fun V4 => ?_)
      refine sb_some (s_gR hv0 rfl) ?_
      refine sb_some (s_gR hv1 rfl) ?_
      refine sb_bindE (s_aI (ch8_2 hv1)) (fun x5 => ?_)
      refine sb_V (o' := wrA V4 ((v0 + 2)) 7 v2 x5) (s_sI (ch8_2 hv0)) (fun V6 => ?_)
      exact ih v0 hv0 v1 hv1 (v2 + 1) V6
def gX8_copy (n : Nat) (v0 : Nat) (v1 : Nat) (V : VT) : Option (VT) :=
  gX8_copy_b2 n n v0 v1 0 V
set_option maxHeartbeats 1000000 in
theorem smX8_copy {E : VE} {n : Nat} {v0 : Nat} {v1 : Nat} {V : VT} (h0 : clsAt v0 = some 8) (h1 : clsAt v1 = some 8) : fX8_copy n v0 v1 (hpV E V) = (gX8_copy n v0 v1 V).map (hpV E) := by
  unfold fX8_copy gX8_copy
  refine sb_some (s_isO h0) ?_
  exact smX8_copy_b2 _ v0 h0 v1 h1 0 V
def gX10_copies_b3 (n : Nat) : Nat → Nat → Nat → Int32 → Nat → Nat → Int32 → Int32 → VT → Option (VT)
  | 0, _, _, _, _, _, _, _, _ => none
  | w + 1, v0, mv0, v1, v2, mv2, v3, v4, V =>
    if 16 ≤ v4 then
    (some V)
    else
    ((rdA mv0 (V.A v0) (v1 + v4)).bind fun x1 =>
    (wrA V v2 mv2 (v3 + v4) x1).bind fun V2 =>
    gX10_copies_b3 n w v0 mv0 v1 v2 mv2 v3 (v4 + 1) V2)
set_option maxHeartbeats 1000000 in
theorem smX10_copies_b3 {E : VE} {n : Nat} : ∀ (w : Nat) (v0 : Nat)  (mv0 : Nat) (hv0 : arrAt v0 = some (.int, mv0)) (v1 : Int32)  (v2 : Nat)  (mv2 : Nat) (hv2 : arrAt v2 = some (.int, mv2)) (v3 : Int32)  (v4 : Int32)  (V : VT), fX10_copies_b3 n w v0 v1 v2 v3 v4 (hpV E V) = (gX10_copies_b3 n w v0 mv0 v1 v2 mv2 v3 v4 V).map (hpV E) := by
  intro w
  induction w with
  | zero => intro v0 mv0 hv0 v1 v2 mv2 hv2 v3 v4 V; rfl
  | succ w ih =>
    intro v0 mv0 hv0 v1 v2 mv2 hv2 v3 v4 V
    unfold fX10_copies_b3 gX10_copies_b3
    refine sb_ite ?_ ?_
    · rfl
    · refine sb_bindE (s_aI hv0) (fun x1 => ?_)
      refine sb_V (o' := wrA V v2 mv2 (v3 + v4) x1) (s_sI hv2) (fun V2 => ?_)
      exact ih v0 mv0 hv0 v1 v2 mv2 hv2 v3 (v4 + 1) V2
def gX10_copies (n : Nat) (v0 : Nat) (m0 : Nat) (v1 : Int32) (v2 : Nat) (m2 : Nat) (v3 : Int32) (V : VT) : Option (VT) :=
  gX10_copies_b3 n n v0 m0 v1 v2 m2 v3 0 V
set_option maxHeartbeats 1000000 in
theorem smX10_copies {E : VE} {n : Nat} {v0 : Nat} {m0 : Nat} {v1 : Int32} {v2 : Nat} {m2 : Nat} {v3 : Int32} {V : VT}  (h0 : arrAt v0 = some (.int, m0))   (h2 : arrAt v2 = some (.int, m2))  : fX10_copies n v0 v1 v2 v3 (hpV E V) = (gX10_copies n v0 m0 v1 v2 m2 v3 V).map (hpV E) := by
  unfold fX10_copies gX10_copies
  exact smX10_copies_b3 _ v0 m0 h0 v1 v2 m2 h2 v3 0 V
def gX10_passes_b64 (n : Nat) (K2 : Int32 → VT → Option (VT)) (v1 : Int32) (V : VT) : Option (VT) :=
  (rdA 14 (V.A 141) v1).bind fun x1 =>
  if x1 = 2 then
  ((rdA 16 (V.A 167) (2 + v1)).bind fun x2 =>
  (wrA V 167 16 (2 + v1) (if (0 : Int32) < (x2 - 1) then (x2 - 1) else (0 : Int32))).bind fun V3 =>
  K2 (v1 + 1) V3)
  else
  (K2 (v1 + 1) V)
set_option maxHeartbeats 1000000 in
theorem smX10_passes_b64 {E : VE} {n : Nat} {K2 : Int32 → VT → Option (VT)} {k2 : Nat → Int32 → qH → Option (qH)} {v1 : Int32} {V : VT} (hK2 : ∀ (v1 : Int32)  (V : VT), k2 137 v1 (hpV E V) = (K2 v1 V).map (hpV E))  : fX10_passes_b64 n k2 137 v1 (hpV E V) = (gX10_passes_b64 n K2 v1 V).map (hpV E) := by
  unfold fX10_passes_b64 gX10_passes_b64
  refine sb_some (s_gR rfl rfl) ?_
  refine sb_bindE (s_aI rfl) (fun x1 => ?_)
  refine sb_ite ?_ ?_
  · refine sb_some (s_gR rfl rfl) ?_
    refine sb_some (s_gR rfl rfl) ?_
    refine sb_bindE (s_aI rfl) (fun x2 => ?_)
    refine sb_V (o' := wrA V 167 16 (2 + v1) (if (0 : Int32) < (x2 - 1) then (x2 - 1) else (0 : Int32))) (s_sI rfl) (fun V3 => ?_)
    exact hK2 (v1 + 1) V3
  · exact hK2 (v1 + 1) V
def gX10_passes_b2 (n : Nat) : Nat → Int32 → VT → Option (VT)
  | 0, _, _ => none
  | w + 1, v1, V =>
    if (V.A 139 0) ≤ v1 then
    ((some (wA V 167 1 (if ((V.A 167 1) + (V.A 139 2)) < (200 : Int32) then ((V.A 167 1) + (V.A 139 2)) else (200 : Int32)))).bind fun V4 =>
    (some (wA V4 167 0 ((V4.A 167 0) + 1))).bind fun V6 =>
    some V6)
    else
    ((rdA 16 (V.A 167) (9 + v1)).bind fun x7 =>
    if x7 = 0 then
    (gX10_passes_b2 n w (v1 + 1) V)
    else
    ((rdA 14 (V.A 141) v1).bind fun x8 =>
    if x8 = 1 then
    ((rdA 14 (V.A 143) v1).bind fun x9 =>
    (rdA 16 (V.A 167) (2 + v1)).bind fun x10 =>
    (wrA V 167 16 (2 + v1) (if (x10 + 1) < x9 then (x10 + 1) else x9)).bind fun V11 =>
    gX10_passes_b64 n (gX10_passes_b2 n w) v1 V11)
    else
    (gX10_passes_b64 n (gX10_passes_b2 n w) v1 V)))
set_option maxHeartbeats 1000000 in
theorem smX10_passes_b2 {E : VE} {n : Nat} : ∀ (w : Nat) (v1 : Int32)  (V : VT), fX10_passes_b2 n w 137 v1 (hpV E V) = (gX10_passes_b2 n w v1 V).map (hpV E) := by
  intro w
  induction w with
  | zero => intro v1 V; rfl
  | succ w ih =>
    intro v1 V
    unfold fX10_passes_b2 gX10_passes_b2
    refine sb_some (s_gR rfl rfl) ?_
    refine sb_some ((s_aI rfl).trans (rdA_at (k := 0) (by decide) (by decide))) ?_
    refine sb_ite ?_ ?_
    · refine sb_some (s_gR rfl rfl) ?_
      refine sb_some (s_gR rfl rfl) ?_
      refine sb_some ((s_aI rfl).trans (rdA_at (k := 1) (by decide) (by decide))) ?_
      refine sb_some (s_gR rfl rfl) ?_
      refine sb_some ((s_aI rfl).trans (rdA_at (k := 2) (by decide) (by decide))) ?_
      refine sb_V (o' := some (wA V 167 1 (if ((V.A 167 1) + (V.A 139 2)) < (200 : Int32) then ((V.A 167 1) + (V.A 139 2)) else (200 : Int32)))) ((s_sI rfl).trans (congrArg _ (wrA_at (k := 1) (by decide) (by decide)))) (fun V4 => ?_)
      refine sb_some (s_gR rfl rfl) ?_
      refine sb_some ((s_aI rfl).trans (rdA_at (k := 0) (by decide) (by decide))) ?_
      refine sb_V (o' := some (wA V4 167 0 ((V4.A 167 0) + 1))) ((s_sI rfl).trans (congrArg _ (wrA_at (k := 0) (by decide) (by decide)))) (fun V6 => ?_)
      rfl
    · refine sb_some (s_gR rfl rfl) ?_
      refine sb_bindE (s_aI rfl) (fun x7 => ?_)
      refine sb_ite ?_ ?_
      · exact ih (v1 + 1) V
      · refine sb_some (s_gR rfl rfl) ?_
        refine sb_bindE (s_aI rfl) (fun x8 => ?_)
        refine sb_ite ?_ ?_
        · refine sb_some (s_gR rfl rfl) ?_
          refine sb_some (s_gR rfl rfl) ?_
          refine sb_bindE (s_aI rfl) (fun x9 => ?_)
          refine sb_some (s_gR rfl rfl) ?_
          refine sb_bindE (s_aI rfl) (fun x10 => ?_)
          refine sb_V (o' := wrA V 167 16 (2 + v1) (if (x10 + 1) < x9 then (x10 + 1) else x9)) (s_sI rfl) (fun V11 => ?_)
          exact smX10_passes_b64 ih
        · exact smX10_passes_b64 ih
def gX10_passes (n : Nat)  (V : VT) : Option (VT) :=
  gX10_passes_b2 n n 0 V
set_option maxHeartbeats 1000000 in
theorem smX10_passes {E : VE} {n : Nat}  {V : VT}  : fX10_passes n 137 (hpV E V) = (gX10_passes n  V).map (hpV E) := by
  unfold fX10_passes gX10_passes
  refine sb_some (s_isO rfl) ?_
  exact smX10_passes_b2 _ 0 V
def gX9_meant (E : VE) (n : Nat)  (V : VT) : Option (Int32 × VT) :=
  (gX8_meantBits n 24 E.1 V).bind fun p1 =>
  some (p1.1, p1.2)
set_option maxHeartbeats 1000000 in
theorem smX9_meant {E : VE} {n : Nat}  {V : VT} (hT : E.1 = 6 ∨ E.1 = 15)  : fX9_meant n 2 (hpV E V) = (gX9_meant E n  V).map (fun p => (p.1, hpV E p.2)) := by
  have hT1 := (cls_T hT).1
  have hT2 := (cls_T hT).2
  unfold fX9_meant gX9_meant
  refine sb_some (s_isO rfl) ?_
  refine sb_some (s_gR rfl rfl) ?_
  refine sb_some (s_gR rfl rfl) ?_
  refine sb_P (o' := gX8_meantBits n 24 E.1 V) (smX8_meantBits rfl hT1) (fun p1 => ?_)
  rfl
