/-! Functions over the views, and that the functions over the abstract heap are these (written by gen2.py). -/
def gX5_sourAfterCoat (n : Nat) (v0 : Nat) (v1 : Int32) (v2 : Int32) (v3 : Int32) (v4 : Int32) (V : VT) : Option (Int32 × VT) :=
  (rdA 7 (V.A ((v0 + 2))) v1).bind fun x1 =>
  if x1 = 3 then
  (some (v2, V))
  else
  ((rdA 7 (V.A ((v0 + 3))) v1).bind fun x2 =>
  (gX1_worth n ((v0 + 6)) v2 v3 ((100 - x2) + v4) (V.F v0 7) V).bind fun p3 =>
  some (if (0 : Int32) < (v2 - (if (0 : Int32) < (if p3.1 < (20 : Int32) then p3.1 else (20 : Int32)) then (if p3.1 < (20 : Int32) then p3.1 else (20 : Int32)) else (0 : Int32))) then (v2 - (if (0 : Int32) < (if p3.1 < (20 : Int32) then p3.1 else (20 : Int32)) then (if p3.1 < (20 : Int32) then p3.1 else (20 : Int32)) else (0 : Int32))) else (0 : Int32), p3.2))
set_option maxHeartbeats 1000000 in
theorem smX5_sourAfterCoat {E : VE} {n : Nat} {v0 : Nat} {v1 : Int32} {v2 : Int32} {v3 : Int32} {v4 : Int32} {V : VT} (h0 : clsAt v0 = some 5)     : fX5_sourAfterCoat n v0 v1 v2 v3 v4 (hpV E V) = (gX5_sourAfterCoat n v0 v1 v2 v3 v4 V).map (fun p => (p.1, hpV E p.2)) := by
  unfold fX5_sourAfterCoat gX5_sourAfterCoat
  refine sb_some (s_isO h0) ?_
  refine sb_some (s_gR h0 rfl) ?_
  refine sb_bindE (s_aI (ch5_2 h0)) (fun x1 => ?_)
  refine sb_ite ?_ ?_
  · rfl
  · refine sb_some (s_gR h0 rfl) ?_
    refine sb_some (s_gR h0 rfl) ?_
    refine sb_bindE (s_aI (ch5_3 h0)) (fun x2 => ?_)
    refine sb_some (s_gI h0 rfl) ?_
    refine sb_P (o' := gX1_worth n ((v0 + 6)) v2 v3 ((100 - x2) + v4) (V.F v0 7) V) (smX1_worth (ch5o_6 h0)) (fun p3 => ?_)
    rfl
def gX5_sourAfterYear (v0 : Nat) (v1 : Int32) (v2 : Int32) (v3 : Int32) (V : VT) : Option (Int32 × VT) :=
  if v3 = 0 then
  (some (v2, V))
  else
  ((rdA 7 (V.A ((v0 + 2))) v1).bind fun x1 =>
  if x1 = 1 then
  ((rdA 7 (V.A ((v0 + 4))) v1).bind fun x2 =>
  some (if (v2 + 1) < x2 then (v2 + 1) else x2, V))
  else
  (if x1 = 2 then
  (some (if (0 : Int32) < (v2 - 1) then (v2 - 1) else (0 : Int32), V))
  else
  (some (v2, V))))
set_option maxHeartbeats 1000000 in
theorem smX5_sourAfterYear {E : VE} {v0 : Nat} {v1 : Int32} {v2 : Int32} {v3 : Int32} {V : VT} (h0 : clsAt v0 = some 5)    : fX5_sourAfterYear v0 v1 v2 v3 (hpV E V) = (gX5_sourAfterYear v0 v1 v2 v3 V).map (fun p => (p.1, hpV E p.2)) := by
  unfold fX5_sourAfterYear gX5_sourAfterYear
  refine sb_some (s_isO h0) ?_
  refine sb_ite ?_ ?_
  · rfl
  · refine sb_some (s_gR h0 rfl) ?_
    refine sb_bindE (s_aI (ch5_2 h0)) (fun x1 => ?_)
    refine sb_ite ?_ ?_
    · refine sb_some (s_gR h0 rfl) ?_
      refine sb_bindE (s_aI (ch5_4 h0)) (fun x2 => ?_)
      rfl
    · refine sb_ite ?_ ?_
      · rfl
      · rfl
def gX5_storyFrom_b5 (RX5_storyFrom : Nat → Int32 → Int32 → VT → Option (Int32 × VT)) (n : Nat) : Nat → Nat → Int32 → Int32 → Int32 → Int32 → VT → Option (Int32 × VT)
  | 0, _, _, _, _, _, _ => none
  | w + 1, v0, v1, v2, v3, v4, V =>
    if (V.F v0 6) ≤ v4 then
    (some (v3 + 1, V))
    else
    (if 7 ≤ v2 then
    (some (v3 + 1, V))
    else
    ((rdA 7 (V.A ((v0 + 5))) v1).bind fun x1 =>
    (gX9_bit x1 v4 V).bind fun p2 =>
    if p2.1 = 1 then
    ((RX5_storyFrom v0 v4 (v2 + 1) p2.2).bind fun p3 =>
    gX5_storyFrom_b5 RX5_storyFrom n w v0 v1 v2 (if v3 < p3.1 then p3.1 else v3) (v4 + 1) p3.2)
    else
    (gX5_storyFrom_b5 RX5_storyFrom n w v0 v1 v2 v3 (v4 + 1) p2.2)))
set_option maxHeartbeats 1000000 in
theorem smX5_storyFrom_b5 {E : VE} {RX5_storyFrom : Nat → Int32 → Int32 → VT → Option (Int32 × VT)} {rX5_storyFrom : Nat → Int32 → Int32 → qH → Option (Int32 × qH)} {n : Nat} (hRX5_storyFrom : ∀ {v0 : Nat} (h0 : clsAt v0 = some 5) {v1 : Int32} {v2 : Int32} {V : VT}, rX5_storyFrom v0 v1 v2 (hpV E V) = (RX5_storyFrom v0 v1 v2 V).map (fun p => (p.1, hpV E p.2))) : ∀ (w : Nat) (v0 : Nat) (hv0 : clsAt v0 = some 5) (v1 : Int32)  (v2 : Int32)  (v3 : Int32)  (v4 : Int32)  (V : VT), fX5_storyFrom_b5 rX5_storyFrom n w v0 v1 v2 v3 v4 (hpV E V) = (gX5_storyFrom_b5 RX5_storyFrom n w v0 v1 v2 v3 v4 V).map (fun p => (p.1, hpV E p.2)) := by
  intro w
  induction w with
  | zero => intro v0 hv0 v1 v2 v3 v4 V; rfl
  | succ w ih =>
    intro v0 hv0 v1 v2 v3 v4 V
    unfold fX5_storyFrom_b5 gX5_storyFrom_b5
    refine sb_some (s_gI hv0 rfl) ?_
    refine sb_ite ?_ ?_
    · rfl
    · refine sb_ite ?_ ?_
      · rfl
      · refine sb_some (s_gR hv0 rfl) ?_
        refine sb_bindE (s_aI (ch5_5 hv0)) (fun x1 => ?_)
        refine sb_P (o' := gX9_bit x1 v4 V) (smX9_bit) (fun p2 => ?_)
        refine sb_ite ?_ ?_
        · refine sb_P (o' := RX5_storyFrom v0 v4 (v2 + 1) p2.2) (hRX5_storyFrom hv0) (fun p3 => ?_)
          exact ih v0 hv0 v1 v2 (if v3 < p3.1 then p3.1 else v3) (v4 + 1) p3.2
        · exact ih v0 hv0 v1 v2 v3 (v4 + 1) p2.2
def gX5_storyFrom_g (RX5_storyFrom : Nat → Int32 → Int32 → VT → Option (Int32 × VT)) (n : Nat) (v0 : Nat) (v1 : Int32) (v2 : Int32) (V : VT) : Option (Int32 × VT) :=
  gX5_storyFrom_b5 RX5_storyFrom n n v0 v1 v2 0 0 V
set_option maxHeartbeats 1000000 in
theorem smX5_storyFrom_g {E : VE} {RX5_storyFrom : Nat → Int32 → Int32 → VT → Option (Int32 × VT)} {rX5_storyFrom : Nat → Int32 → Int32 → qH → Option (Int32 × qH)} {n : Nat} {v0 : Nat} {v1 : Int32} {v2 : Int32} {V : VT} (hRX5_storyFrom : ∀ {v0 : Nat} (h0 : clsAt v0 = some 5) {v1 : Int32} {v2 : Int32} {V : VT}, rX5_storyFrom v0 v1 v2 (hpV E V) = (RX5_storyFrom v0 v1 v2 V).map (fun p => (p.1, hpV E p.2))) (h0 : clsAt v0 = some 5)   : fX5_storyFrom_g rX5_storyFrom n v0 v1 v2 (hpV E V) = (gX5_storyFrom_g RX5_storyFrom n v0 v1 v2 V).map (fun p => (p.1, hpV E p.2)) := by
  unfold fX5_storyFrom_g gX5_storyFrom_g
  refine sb_some (s_isO h0) ?_
  exact smX5_storyFrom_b5 hRX5_storyFrom _ v0 h0 v1 v2 0 0 V
def gX5_storyFrom_k (n : Nat) : Nat → Nat → Int32 → Int32 → VT → Option (Int32 × VT)
  | 0, _, _, _, _ => none
  | k + 1, v0, v1, v2, V => gX5_storyFrom_g (gX5_storyFrom_k n k) n v0 v1 v2 V
theorem smX5_storyFrom_k {E : VE} {n : Nat} : ∀ (k : Nat) {v0 : Nat} (h0 : clsAt v0 = some 5) {v1 : Int32} {v2 : Int32} {V : VT}, fX5_storyFrom_k n k v0 v1 v2 (hpV E V) = (gX5_storyFrom_k n k v0 v1 v2 V).map (fun p => (p.1, hpV E p.2)) := by
  intro k
  induction k with
  | zero => intro v0 h0 v1 v2 V; rfl
  | succ k ih =>
    intro v0 h0 v1 v2 V
    unfold fX5_storyFrom_k gX5_storyFrom_k
    exact smX5_storyFrom_g ih h0
def gX5_storyFrom (n : Nat) (v0 : Nat) (v1 : Int32) (v2 : Int32) (V : VT) : Option (Int32 × VT) := gX5_storyFrom_k n 10 v0 v1 v2 V
theorem smX5_storyFrom {E : VE} {n : Nat} {v0 : Nat} {v1 : Int32} {v2 : Int32} {V : VT} (h0 : clsAt v0 = some 5) : fX5_storyFrom n v0 v1 v2 (hpV E V) = (gX5_storyFrom n v0 v1 v2 V).map (fun p => (p.1, hpV E p.2)) := smX5_storyFrom_k 10 h0
def gX5_waysTo_b13 (RX5_waysTo : Nat → Int32 → Int32 → Int32 → VT → Option (Int32 × VT)) (n : Nat) : Nat → Nat → Int32 → Int32 → Int32 → Int32 → Int32 → VT → Option (Int32 × VT)
  | 0, _, _, _, _, _, _, _ => none
  | w + 1, v0, v1, v2, v3, v4, v5, V =>
    if (V.F v0 6) ≤ v5 then
    (some (v4, V))
    else
    (if 7 ≤ v3 then
    (some (v4, V))
    else
    ((rdA 7 (V.A ((v0 + 5))) v1).bind fun x1 =>
    (gX9_bit x1 v5 V).bind fun p2 =>
    if p2.1 = 1 then
    ((RX5_waysTo v0 v5 v2 (v3 + 1) p2.2).bind fun p3 =>
    gX5_waysTo_b13 RX5_waysTo n w v0 v1 v2 v3 (v4 + p3.1) (v5 + 1) p3.2)
    else
    (gX5_waysTo_b13 RX5_waysTo n w v0 v1 v2 v3 v4 (v5 + 1) p2.2)))
set_option maxHeartbeats 1000000 in
theorem smX5_waysTo_b13 {E : VE} {RX5_waysTo : Nat → Int32 → Int32 → Int32 → VT → Option (Int32 × VT)} {rX5_waysTo : Nat → Int32 → Int32 → Int32 → qH → Option (Int32 × qH)} {n : Nat} (hRX5_waysTo : ∀ {v0 : Nat} (h0 : clsAt v0 = some 5) {v1 : Int32} {v2 : Int32} {v3 : Int32} {V : VT}, rX5_waysTo v0 v1 v2 v3 (hpV E V) = (RX5_waysTo v0 v1 v2 v3 V).map (fun p => (p.1, hpV E p.2))) : ∀ (w : Nat) (v0 : Nat) (hv0 : clsAt v0 = some 5) (v1 : Int32)  (v2 : Int32)  (v3 : Int32)  (v4 : Int32)  (v5 : Int32)  (V : VT), fX5_waysTo_b13 rX5_waysTo n w v0 v1 v2 v3 v4 v5 (hpV E V) = (gX5_waysTo_b13 RX5_waysTo n w v0 v1 v2 v3 v4 v5 V).map (fun p => (p.1, hpV E p.2)) := by
  intro w
  induction w with
  | zero => intro v0 hv0 v1 v2 v3 v4 v5 V; rfl
  | succ w ih =>
    intro v0 hv0 v1 v2 v3 v4 v5 V
    unfold fX5_waysTo_b13 gX5_waysTo_b13
    refine sb_some (s_gI hv0 rfl) ?_
    refine sb_ite ?_ ?_
    · rfl
    · refine sb_ite ?_ ?_
      · rfl
      · refine sb_some (s_gR hv0 rfl) ?_
        refine sb_bindE (s_aI (ch5_5 hv0)) (fun x1 => ?_)
        refine sb_P (o' := gX9_bit x1 v5 V) (smX9_bit) (fun p2 => ?_)
        refine sb_ite ?_ ?_
        · refine sb_P (o' := RX5_waysTo v0 v5 v2 (v3 + 1) p2.2) (hRX5_waysTo hv0) (fun p3 => ?_)
          exact ih v0 hv0 v1 v2 v3 (v4 + p3.1) (v5 + 1) p3.2
        · exact ih v0 hv0 v1 v2 v3 v4 (v5 + 1) p2.2
def gX5_waysTo_g (RX5_waysTo : Nat → Int32 → Int32 → Int32 → VT → Option (Int32 × VT)) (n : Nat) (v0 : Nat) (v1 : Int32) (v2 : Int32) (v3 : Int32) (V : VT) : Option (Int32 × VT) :=
  if v1 = v2 then
  (some (1, V))
  else
  (gX5_waysTo_b13 RX5_waysTo n n v0 v1 v2 v3 0 0 V)
set_option maxHeartbeats 1000000 in
theorem smX5_waysTo_g {E : VE} {RX5_waysTo : Nat → Int32 → Int32 → Int32 → VT → Option (Int32 × VT)} {rX5_waysTo : Nat → Int32 → Int32 → Int32 → qH → Option (Int32 × qH)} {n : Nat} {v0 : Nat} {v1 : Int32} {v2 : Int32} {v3 : Int32} {V : VT} (hRX5_waysTo : ∀ {v0 : Nat} (h0 : clsAt v0 = some 5) {v1 : Int32} {v2 : Int32} {v3 : Int32} {V : VT}, rX5_waysTo v0 v1 v2 v3 (hpV E V) = (RX5_waysTo v0 v1 v2 v3 V).map (fun p => (p.1, hpV E p.2))) (h0 : clsAt v0 = some 5)    : fX5_waysTo_g rX5_waysTo n v0 v1 v2 v3 (hpV E V) = (gX5_waysTo_g RX5_waysTo n v0 v1 v2 v3 V).map (fun p => (p.1, hpV E p.2)) := by
  unfold fX5_waysTo_g gX5_waysTo_g
  refine sb_some (s_isO h0) ?_
  refine sb_ite ?_ ?_
  · rfl
  · exact smX5_waysTo_b13 hRX5_waysTo _ v0 h0 v1 v2 v3 0 0 V
def gX5_waysTo_k (n : Nat) : Nat → Nat → Int32 → Int32 → Int32 → VT → Option (Int32 × VT)
  | 0, _, _, _, _, _ => none
  | k + 1, v0, v1, v2, v3, V => gX5_waysTo_g (gX5_waysTo_k n k) n v0 v1 v2 v3 V
theorem smX5_waysTo_k {E : VE} {n : Nat} : ∀ (k : Nat) {v0 : Nat} (h0 : clsAt v0 = some 5) {v1 : Int32} {v2 : Int32} {v3 : Int32} {V : VT}, fX5_waysTo_k n k v0 v1 v2 v3 (hpV E V) = (gX5_waysTo_k n k v0 v1 v2 v3 V).map (fun p => (p.1, hpV E p.2)) := by
  intro k
  induction k with
  | zero => intro v0 h0 v1 v2 v3 V; rfl
  | succ k ih =>
    intro v0 h0 v1 v2 v3 V
    unfold fX5_waysTo_k gX5_waysTo_k
    exact smX5_waysTo_g ih h0
def gX5_waysTo (n : Nat) (v0 : Nat) (v1 : Int32) (v2 : Int32) (v3 : Int32) (V : VT) : Option (Int32 × VT) := gX5_waysTo_k n 10 v0 v1 v2 v3 V
theorem smX5_waysTo {E : VE} {n : Nat} {v0 : Nat} {v1 : Int32} {v2 : Int32} {v3 : Int32} {V : VT} (h0 : clsAt v0 = some 5) : fX5_waysTo n v0 v1 v2 v3 (hpV E V) = (gX5_waysTo n v0 v1 v2 v3 V).map (fun p => (p.1, hpV E p.2)) := smX5_waysTo_k 10 h0
def gX5_widestGap_b4 (n : Nat) : Nat → Nat → Int32 → Int32 → VT → Option (Int32 × VT)
  | 0, _, _, _, _ => none
  | w + 1, v0, v1, v2, V =>
    if (V.F v0 6) ≤ v2 then
    (some (v1, V))
    else
    ((rdA 7 (V.A ((v0 + 3))) v2).bind fun x1 =>
    (gX5_nextBirth n v0 x1 V).bind fun p2 =>
    (rdA 7 (p2.2.A ((v0 + 3))) v2).bind fun x3 =>
    gX5_widestGap_b4 n w v0 (if v1 < (p2.1 - x3) then (p2.1 - x3) else v1) (v2 + 1) p2.2)
set_option maxHeartbeats 1000000 in
theorem smX5_widestGap_b4 {E : VE} {n : Nat} : ∀ (w : Nat) (v0 : Nat) (hv0 : clsAt v0 = some 5) (v1 : Int32)  (v2 : Int32)  (V : VT), fX5_widestGap_b4 n w v0 v1 v2 (hpV E V) = (gX5_widestGap_b4 n w v0 v1 v2 V).map (fun p => (p.1, hpV E p.2)) := by
  intro w
  induction w with
  | zero => intro v0 hv0 v1 v2 V; rfl
  | succ w ih =>
    intro v0 hv0 v1 v2 V
    unfold fX5_widestGap_b4 gX5_widestGap_b4
    refine sb_some (s_gI hv0 rfl) ?_
    refine sb_ite ?_ ?_
    · rfl
    · refine sb_some (s_gR hv0 rfl) ?_
      refine sb_bindE (s_aI (ch5_3 hv0)) (fun x1 => ?_)
      refine sb_P (o' := gX5_nextBirth n v0 x1 V) (smX5_nextBirth hv0) (fun p2 => ?_)
      refine sb_some (s_gR hv0 rfl) ?_
      refine sb_bindE (s_aI (ch5_3 hv0)) (fun x3 => ?_)
      exact ih v0 hv0 (if v1 < (p2.1 - x3) then (p2.1 - x3) else v1) (v2 + 1) p2.2
def gX5_widestGap (n : Nat) (v0 : Nat) (V : VT) : Option (Int32 × VT) :=
  gX5_widestGap_b4 n n v0 0 0 V
set_option maxHeartbeats 1000000 in
theorem smX5_widestGap {E : VE} {n : Nat} {v0 : Nat} {V : VT} (h0 : clsAt v0 = some 5) : fX5_widestGap n v0 (hpV E V) = (gX5_widestGap n v0 V).map (fun p => (p.1, hpV E p.2)) := by
  unfold fX5_widestGap gX5_widestGap
  refine sb_some (s_isO h0) ?_
  exact smX5_widestGap_b4 _ v0 h0 0 0 V
def gX6_addSign_b18 (v1 : Int32) (V : VT) : Option (VT) :=
  if 1000 ≤ (V.F 3 1) then
  (some V)
  else
  ((wrA V 4 1000 (V.F 3 1) (qnar .char ((v1.toUInt32 % 65536).toInt32))).bind fun V1 =>
  (some (wF V1 3 1 ((V1.F 3 1) + 1))).bind fun V2 =>
  some V2)
set_option maxHeartbeats 1000000 in
theorem smX6_addSign_b18 {E : VE} {v1 : Int32} {V : VT}  : fX6_addSign_b18 3 v1 (hpV E V) = (gX6_addSign_b18 v1 V).map (hpV E) := by
  unfold fX6_addSign_b18 gX6_addSign_b18
  refine sb_some (s_gI rfl rfl) ?_
  refine sb_some (s_gR rfl rfl) ?_
  refine sb_some (x := 1000) (s_aN rfl) ?_
  refine sb_ite ?_ ?_
  · rfl
  · refine sb_some (s_gR rfl rfl) ?_
    refine sb_some (s_gI rfl rfl) ?_
    refine sb_V (o' := wrA V 4 1000 (V.F 3 1) (qnar .char ((v1.toUInt32 % 65536).toInt32))) (s_sI rfl) (fun V1 => ?_)
    refine sb_some (s_gI rfl rfl) ?_
    refine sb_V (o' := some (wF V1 3 1 ((V1.F 3 1) + 1))) (w6_1 rfl) (fun V2 => ?_)
    rfl
def gX6_addSign (v1 : Int32) (V : VT) : Option (VT) :=
  if v1 = 10 then
  (gX6_addSign_b18 v1 V)
  else
  (if v1 < 32 then
  (some V)
  else
  (if 126 < v1 then
  (some V)
  else
  (gX6_addSign_b18 v1 V)))
set_option maxHeartbeats 1000000 in
theorem smX6_addSign {E : VE} {v1 : Int32} {V : VT}  : fX6_addSign 3 v1 (hpV E V) = (gX6_addSign v1 V).map (hpV E) := by
  unfold fX6_addSign gX6_addSign
  refine sb_some (s_isO rfl) ?_
  refine sb_ite ?_ ?_
  · exact smX6_addSign_b18
  · refine sb_ite ?_ ?_
    · rfl
    · refine sb_ite ?_ ?_
      · rfl
      · exact smX6_addSign_b18
def gX6_addBytes_b3 (n : Nat) : Nat → Int64 → Int32 → VT → Option (VT)
  | 0, _, _, _ => none
  | w + 1, v1, v3, V =>
    if v3 < 0 then
    (some V)
    else
    ((gX6_addSign ((((v1.toUInt64 >>> (v3.toInt64.toUInt64 &&& Int64.toUInt64 63)).toInt64).toInt32) &&& 255) V).bind fun V1 =>
    gX6_addBytes_b3 n w v1 (v3 + (-8)) V1)
set_option maxHeartbeats 1000000 in
theorem smX6_addBytes_b3 {E : VE} {n : Nat} : ∀ (w : Nat) (v1 : Int64)  (v3 : Int32)  (V : VT), fX6_addBytes_b3 n w 3 v1 v3 (hpV E V) = (gX6_addBytes_b3 n w v1 v3 V).map (hpV E) := by
  intro w
  induction w with
  | zero => intro v1 v3 V; rfl
  | succ w ih =>
    intro v1 v3 V
    unfold fX6_addBytes_b3 gX6_addBytes_b3
    refine sb_ite ?_ ?_
    · rfl
    · refine sb_V (o' := gX6_addSign ((((v1.toUInt64 >>> (v3.toInt64.toUInt64 &&& Int64.toUInt64 63)).toInt64).toInt32) &&& 255) V) (smX6_addSign) (fun V1 => ?_)
      exact ih v1 (v3 + (-8)) V1
def gX6_addBytes (n : Nat) (v1 : Int64) (V : VT) : Option (VT) :=
  gX6_addBytes_b3 n n v1 56 V
set_option maxHeartbeats 1000000 in
theorem smX6_addBytes {E : VE} {n : Nat} {v1 : Int64} {V : VT}  : fX6_addBytes n 3 v1 (hpV E V) = (gX6_addBytes n v1 V).map (hpV E) := by
  unfold fX6_addBytes gX6_addBytes
  refine sb_some (s_isO rfl) ?_
  exact smX6_addBytes_b3 _ v1 56 V
def gX7_add (v0 : Nat) (v1 : Int32) (v2 : Int32) (v3 : Int32) (V : VT) : Option (Int32 × VT) :=
  if (V.F v0 3) < 8 then
  ((wrA V ((v0 + 1)) 8 (V.F v0 3) v1).bind fun V1 =>
  (wrA V1 ((v0 + 2)) 8 (V1.F v0 3) v2).bind fun V2 =>
  (wrA V2 ((v0 + 3)) 8 (V2.F v0 3) (qnar .boolean v3)).bind fun V3 =>
  (some (wF V3 v0 3 ((V3.F v0 3) + 1))).bind fun V4 =>
  some (1, V4))
  else
  (some (0, V))
set_option maxHeartbeats 1000000 in
theorem smX7_add {E : VE} {v0 : Nat} {v1 : Int32} {v2 : Int32} {v3 : Int32} {V : VT} (h0 : clsAt v0 = some 7)    : fX7_add v0 v1 v2 v3 (hpV E V) = (gX7_add v0 v1 v2 v3 V).map (fun p => (p.1, hpV E p.2)) := by
  unfold fX7_add gX7_add
  refine sb_some (s_isO h0) ?_
  refine sb_some (s_gI h0 rfl) ?_
  refine sb_some (s_gR h0 rfl) ?_
  refine sb_some (x := 8) (s_aN (ch7_1 h0)) ?_
  refine sb_ite ?_ ?_
  · refine sb_some (s_gR h0 rfl) ?_
    refine sb_some (s_gI h0 rfl) ?_
    refine sb_V (o' := wrA V ((v0 + 1)) 8 (V.F v0 3) v1) (s_sI (ch7_1 h0)) (fun V1 => ?_)
    refine sb_some (s_gR h0 rfl) ?_
    refine sb_some (s_gI h0 rfl) ?_
    refine sb_V (o' := wrA V1 ((v0 + 2)) 8 (V1.F v0 3) v2) (s_sI (ch7_2 h0)) (fun V2 => ?_)
    refine sb_some (s_gR h0 rfl) ?_
    refine sb_some (s_gI h0 rfl) ?_
    refine sb_V (o' := wrA V2 ((v0 + 3)) 8 (V2.F v0 3) (qnar .boolean v3)) (s_sI (ch7_3 h0)) (fun V3 => ?_)
    refine sb_some (s_gI h0 rfl) ?_
    refine sb_V (o' := some (wF V3 v0 3 ((V3.F v0 3) + 1))) (w7_3 h0) (fun V4 => ?_)
    rfl
  · rfl
def gX8_begin_b2 (n : Nat) : Nat → Nat → Nat → Int32 → VT → Option (VT)
  | 0, _, _, _, _ => none
  | w + 1, v0, v1, v2, V =>
    if 7 ≤ v2 then
    ((some (wF V v0 2 (V.F v1 8))).bind fun V1 =>
    (some (wF V1 v0 3 0)).bind fun V2 =>
    some V2)
    else
    ((rdA 7 (V.A ((v1 + 4))) v2).bind fun x3 =>
    (wrA V ((v0 + 1)) 7 v2 x3).bind fun V4 =>
    (wrA V4 ((v0 + 2)) 7 v2 0).bind fun V5 =>
    gX8_begin_b2 n w v0 v1 (v2 + 1) V5)
set_option maxHeartbeats 1000000 in
theorem smX8_begin_b2 {E : VE} {n : Nat} : ∀ (w : Nat) (v0 : Nat) (hv0 : clsAt v0 = some 8) (v1 : Nat) (hv1 : clsAt v1 = some 5) (v2 : Int32)  (V : VT), fX8_begin_b2 n w v0 v1 v2 (hpV E V) = (gX8_begin_b2 n w v0 v1 v2 V).map (hpV E) := by
  intro w
  induction w with
  | zero => intro v0 hv0 v1 hv1 v2 V; rfl
  | succ w ih =>
    intro v0 hv0 v1 hv1 v2 V
    unfold fX8_begin_b2 gX8_begin_b2
    refine sb_ite ?_ ?_
    · refine sb_some (s_gI hv1 rfl) ?_
      refine sb_V (o' := some (wF V v0 2 (V.F v1 8))) (w8_2 hv0) (fun V1 => ?_)
      refine sb_V (o' := some (wF V1 v0 3 0)) (w8_3 hv0) (fun V2 => ?_)
      rfl
    · refine sb_some (s_gR hv0 rfl) ?_
      refine sb_some (s_gR hv1 rfl) ?_
      refine sb_bindE (s_aI (ch5_4 hv1)) (fun x3 => ?_)
      refine sb_V (o' := wrA V ((v0 + 1)) 7 v2 x3) (s_sI (ch8_1 hv0)) (fun V4 => ?_)
      refine sb_some (s_gR hv0 rfl) ?_
      refine sb_V (o' := wrA V4 ((v0 + 2)) 7 v2 0) (s_sI (ch8_2 hv0)) (fun V5 => ?_)
      exact ih v0 hv0 v1 hv1 (v2 + 1) V5
def gX8_begin (n : Nat) (v0 : Nat) (v1 : Nat) (V : VT) : Option (VT) :=
  gX8_begin_b2 n n v0 v1 0 V
set_option maxHeartbeats 1000000 in
theorem smX8_begin {E : VE} {n : Nat} {v0 : Nat} {v1 : Nat} {V : VT} (h0 : clsAt v0 = some 8) (h1 : clsAt v1 = some 5) : fX8_begin n v0 v1 (hpV E V) = (gX8_begin n v0 v1 V).map (hpV E) := by
  unfold fX8_begin gX8_begin
  refine sb_some (s_isO h0) ?_
  exact smX8_begin_b2 _ v0 h0 v1 h1 0 V
def gX8_canSpread (v0 : Nat) (v1 : Nat) (v2 : Int32) (V : VT) : Option (Int32 × VT) :=
  (gX5_price v1 v2 V).bind fun p1 =>
  if (V.F v0 2) < p1.1 then
  (some (0, p1.2))
  else
  (some (1, p1.2))
set_option maxHeartbeats 1000000 in
theorem smX8_canSpread {E : VE} {v0 : Nat} {v1 : Nat} {v2 : Int32} {V : VT} (h0 : clsAt v0 = some 8) (h1 : clsAt v1 = some 5)  : fX8_canSpread v0 v1 v2 (hpV E V) = (gX8_canSpread v0 v1 v2 V).map (fun p => (p.1, hpV E p.2)) := by
  unfold fX8_canSpread gX8_canSpread
  refine sb_some (s_isO h0) ?_
  refine sb_some (s_gI h0 rfl) ?_
  refine sb_P (o' := gX5_price v1 v2 V) (smX5_price h1) (fun p1 => ?_)
  refine sb_ite ?_ ?_
  · rfl
  · rfl
def gX8_pass_b2 (n : Nat) : Nat → Nat → Nat → Int32 → VT → Option (VT)
  | 0, _, _, _, _ => none
  | w + 1, v0, v1, v2, V =>
    if (V.F v1 6) ≤ v2 then
    ((gX5_potAfterYear v1 (V.F v0 2) V).bind fun p1 =>
    (some (wF p1.2 v0 2 p1.1)).bind fun V2 =>
    (some (wF V2 v0 3 ((V2.F v0 3) + 1))).bind fun V3 =>
    some V3)
    else
    ((rdA 7 (V.A ((v0 + 1))) v2).bind fun x4 =>
    (rdA 7 (V.A ((v0 + 2))) v2).bind fun x5 =>
    (gX5_sourAfterYear v1 v2 x4 x5 V).bind fun p6 =>
    (wrA p6.2 ((v0 + 1)) 7 v2 p6.1).bind fun V7 =>
    gX8_pass_b2 n w v0 v1 (v2 + 1) V7)
set_option maxHeartbeats 1000000 in
theorem smX8_pass_b2 {E : VE} {n : Nat} : ∀ (w : Nat) (v0 : Nat) (hv0 : clsAt v0 = some 8) (v1 : Nat) (hv1 : clsAt v1 = some 5) (v2 : Int32)  (V : VT), fX8_pass_b2 n w v0 v1 v2 (hpV E V) = (gX8_pass_b2 n w v0 v1 v2 V).map (hpV E) := by
  intro w
  induction w with
  | zero => intro v0 hv0 v1 hv1 v2 V; rfl
  | succ w ih =>
    intro v0 hv0 v1 hv1 v2 V
    unfold fX8_pass_b2 gX8_pass_b2
    refine sb_some (s_gI hv1 rfl) ?_
    refine sb_ite ?_ ?_
    · refine sb_some (s_gI hv0 rfl) ?_
      refine sb_P (o' := gX5_potAfterYear v1 (V.F v0 2) V) (smX5_potAfterYear hv1) (fun p1 => ?_)
      refine sb_V (o' := some (wF p1.2 v0 2 p1.1)) (w8_2 hv0) (fun V2 => ?_)
      refine sb_some (s_gI hv0 rfl) ?_
      refine sb_V (o' := some (wF V2 v0 3 ((V2.F v0 3) + 1))) (w8_3 hv0) (fun V3 => ?_)
      rfl
    · refine sb_some (s_gR hv0 rfl) ?_
      refine sb_some (s_gR hv0 rfl) ?_
      refine sb_bindE (s_aI (ch8_1 hv0)) (fun x4 => ?_)
      refine sb_some (s_gR hv0 rfl) ?_
      refine sb_bindE (s_aI (ch8_2 hv0)) (fun x5 => ?_)
      refine sb_P (o' := gX5_sourAfterYear v1 v2 x4 x5 V) (smX5_sourAfterYear hv1) (fun p6 => ?_)
      refine sb_V (o' := wrA p6.2 ((v0 + 1)) 7 v2 p6.1) (s_sI (ch8_1 hv0)) (fun V7 => ?_)
      exact ih v0 hv0 v1 hv1 (v2 + 1) V7
def gX8_pass (n : Nat) (v0 : Nat) (v1 : Nat) (V : VT) : Option (VT) :=
  gX8_pass_b2 n n v0 v1 0 V
set_option maxHeartbeats 1000000 in
theorem smX8_pass {E : VE} {n : Nat} {v0 : Nat} {v1 : Nat} {V : VT} (h0 : clsAt v0 = some 8) (h1 : clsAt v1 = some 5) : fX8_pass n v0 v1 (hpV E V) = (gX8_pass n v0 v1 V).map (hpV E) := by
  unfold fX8_pass gX8_pass
  refine sb_some (s_isO h0) ?_
  exact smX8_pass_b2 _ v0 h0 v1 h1 0 V
def gX8_putOn (n : Nat) (v0 : Nat) (v1 : Nat) (v2 : Int32) (V : VT) : Option (VT) :=
  (gX5_price v1 v2 V).bind fun p1 =>
  (some (wF p1.2 v0 2 ((V.F v0 2) - p1.1))).bind fun V2 =>
  (rdA 7 (V2.A ((v0 + 1))) v2).bind fun x3 =>
  (rdA 7 (V2.A ((v0 + 2))) v2).bind fun x4 =>
  (gX5_sourAfterCoat n v1 v2 x3 x4 (V2.F v0 3) V2).bind fun p5 =>
  (wrA p5.2 ((v0 + 1)) 7 v2 p5.1).bind fun V6 =>
  (rdA 7 (V6.A ((v0 + 2))) v2).bind fun x7 =>
  (gX5_coatsAfterCoat v1 v2 x7 V6).bind fun p8 =>
  (wrA p8.2 ((v0 + 2)) 7 v2 p8.1).bind fun V9 =>
  some V9
set_option maxHeartbeats 1000000 in
theorem smX8_putOn {E : VE} {n : Nat} {v0 : Nat} {v1 : Nat} {v2 : Int32} {V : VT} (h0 : clsAt v0 = some 8) (h1 : clsAt v1 = some 5)  : fX8_putOn n v0 v1 v2 (hpV E V) = (gX8_putOn n v0 v1 v2 V).map (hpV E) := by
  unfold fX8_putOn gX8_putOn
  refine sb_some (s_isO h0) ?_
  refine sb_some (s_gI h0 rfl) ?_
  refine sb_P (o' := gX5_price v1 v2 V) (smX5_price h1) (fun p1 => ?_)
  refine sb_V (o' := some (wF p1.2 v0 2 ((V.F v0 2) - p1.1))) (w8_2 h0) (fun V2 => ?_)
  refine sb_some (s_gR h0 rfl) ?_
  refine sb_some (s_gR h0 rfl) ?_
  refine sb_bindE (s_aI (ch8_1 h0)) (fun x3 => ?_)
  refine sb_some (s_gR h0 rfl) ?_
  refine sb_bindE (s_aI (ch8_2 h0)) (fun x4 => ?_)
  refine sb_some (s_gI h0 rfl) ?_
  refine sb_P (o' := gX5_sourAfterCoat n v1 v2 x3 x4 (V2.F v0 3) V2) (smX5_sourAfterCoat h1) (fun p5 => ?_)
  refine sb_V (o' := wrA p5.2 ((v0 + 1)) 7 v2 p5.1) (s_sI (ch8_1 h0)) (fun V6 => ?_)
  refine sb_some (s_gR h0 rfl) ?_
  refine sb_some (s_gR h0 rfl) ?_
  refine sb_bindE (s_aI (ch8_2 h0)) (fun x7 => ?_)
  refine sb_P (o' := gX5_coatsAfterCoat v1 v2 x7 V6) (smX5_coatsAfterCoat h1) (fun p8 => ?_)
  refine sb_V (o' := wrA p8.2 ((v0 + 2)) 7 v2 p8.1) (s_sI (ch8_2 h0)) (fun V9 => ?_)
  rfl
def gX8_takeOff (v0 : Nat) (v1 : Nat) (v2 : Int32) (V : VT) : Option (VT) :=
  (wrA V ((v0 + 2)) 7 v2 0).bind fun V1 =>
  (rdA 7 (V1.A ((v1 + 4))) v2).bind fun x2 =>
  (wrA V1 ((v0 + 1)) 7 v2 x2).bind fun V3 =>
  some V3
set_option maxHeartbeats 1000000 in
theorem smX8_takeOff {E : VE} {v0 : Nat} {v1 : Nat} {v2 : Int32} {V : VT} (h0 : clsAt v0 = some 8) (h1 : clsAt v1 = some 5)  : fX8_takeOff v0 v1 v2 (hpV E V) = (gX8_takeOff v0 v1 v2 V).map (hpV E) := by
  unfold fX8_takeOff gX8_takeOff
  refine sb_some (s_isO h0) ?_
  refine sb_some (s_gR h0 rfl) ?_
  refine sb_V (o' := wrA V ((v0 + 2)) 7 v2 0) (s_sI (ch8_2 h0)) (fun V1 => ?_)
  refine sb_some (s_gR h0 rfl) ?_
  refine sb_some (s_gR h1 rfl) ?_
  refine sb_bindE (s_aI (ch5_4 h1)) (fun x2 => ?_)
  refine sb_V (o' := wrA V1 ((v0 + 1)) 7 v2 x2) (s_sI (ch8_1 h0)) (fun V3 => ?_)
  rfl
def gX8_follow_b50 (n : Nat) (v0 : Nat) (v1 : Nat) (v2 : Int32) (v3 : Int32) (V : VT) : Option (Int32 × VT) :=
  if v2 = 9 then
  ((rdA 7 (V.A ((v0 + 2))) v3).bind fun x1 =>
  if x1 ≤ 0 then
  (some (0, V))
  else
  ((gX8_takeOff v0 v1 v3 V).bind fun V2 =>
  some (1, V2)))
  else
  (some (0, V))
set_option maxHeartbeats 1000000 in
theorem smX8_follow_b50 {E : VE} {n : Nat} {v0 : Nat} {v1 : Nat} {v2 : Int32} {v3 : Int32} {V : VT} (hv0 : clsAt v0 = some 8) (hv1 : clsAt v1 = some 5)   : fX8_follow_b50 n v0 v1 v2 v3 (hpV E V) = (gX8_follow_b50 n v0 v1 v2 v3 V).map (fun p => (p.1, hpV E p.2)) := by
  unfold fX8_follow_b50 gX8_follow_b50
  refine sb_ite ?_ ?_
  · refine sb_some (s_gR hv0 rfl) ?_
    refine sb_bindE (s_aI (ch8_2 hv0)) (fun x1 => ?_)
    refine sb_ite ?_ ?_
    · rfl
    · refine sb_V (o' := gX8_takeOff v0 v1 v3 V) (smX8_takeOff hv0 hv1) (fun V2 => ?_)
      rfl
  · rfl
def gX8_follow (n : Nat) (v0 : Nat) (v1 : Nat) (v2 : Int32) (v3 : Int32) (V : VT) : Option (Int32 × VT) :=
  if v2 = 10 then
  ((gX8_pass n v0 v1 V).bind fun V3 =>
  some (1, V3))
  else
  (if v3 < 0 then
  (some (0, V))
  else
  (if v3 < (V.F v1 6) then
  (if v2 = 8 then
  ((gX8_canSpread v0 v1 v3 V).bind fun p1 =>
  if p1.1 = 0 then
  (gX8_follow_b50 n v0 v1 v2 v3 p1.2)
  else
  ((gX8_putOn n v0 v1 v3 p1.2).bind fun V2 =>
  some (1, V2)))
  else
  (gX8_follow_b50 n v0 v1 v2 v3 V))
  else
  (some (0, V))))
set_option maxHeartbeats 1000000 in
theorem smX8_follow {E : VE} {n : Nat} {v0 : Nat} {v1 : Nat} {v2 : Int32} {v3 : Int32} {V : VT} (h0 : clsAt v0 = some 8) (h1 : clsAt v1 = some 5)   : fX8_follow n v0 v1 v2 v3 (hpV E V) = (gX8_follow n v0 v1 v2 v3 V).map (fun p => (p.1, hpV E p.2)) := by
  unfold fX8_follow gX8_follow
  refine sb_some (s_isO h0) ?_
  refine sb_ite ?_ ?_
  · refine sb_V (o' := gX8_pass n v0 v1 V) (smX8_pass h0 h1) (fun V3 => ?_)
    rfl
  · refine sb_ite ?_ ?_
    · rfl
    · refine sb_some (s_gI h1 rfl) ?_
      refine sb_ite ?_ ?_
      · refine sb_ite ?_ ?_
        · refine sb_P (o' := gX8_canSpread v0 v1 v3 V) (smX8_canSpread h0 h1) (fun p1 => ?_)
          refine sb_ite ?_ ?_
          · exact smX8_follow_b50 h0 h1
          · refine sb_V (o' := gX8_putOn n v0 v1 v3 p1.2) (smX8_putOn h0 h1) (fun V2 => ?_)
            rfl
        · exact smX8_follow_b50 h0 h1
      · rfl
def gX8_meantBits_b4 (n : Nat) : Nat → Nat → Nat → Int32 → Int32 → VT → Option (Int32 × VT)
  | 0, _, _, _, _, _ => none
  | w + 1, v0, v1, v2, v3, V =>
    if (V.F v1 6) ≤ v3 then
    (some (v2, V))
    else
    ((rdA 7 (V.A ((v0 + 1))) v3).bind fun x1 =>
    if x1 = 0 then
    (gX8_meantBits_b4 n w v0 v1 (v2 ||| ((1 : Int32) <<< (v3 &&& 31))) (v3 + 1) V)
    else
    (gX8_meantBits_b4 n w v0 v1 v2 (v3 + 1) V))
set_option maxHeartbeats 1000000 in
theorem smX8_meantBits_b4 {E : VE} {n : Nat} : ∀ (w : Nat) (v0 : Nat) (hv0 : clsAt v0 = some 8) (v1 : Nat) (hv1 : clsAt v1 = some 5) (v2 : Int32)  (v3 : Int32)  (V : VT), fX8_meantBits_b4 n w v0 v1 v2 v3 (hpV E V) = (gX8_meantBits_b4 n w v0 v1 v2 v3 V).map (fun p => (p.1, hpV E p.2)) := by
  intro w
  induction w with
  | zero => intro v0 hv0 v1 hv1 v2 v3 V; rfl
  | succ w ih =>
    intro v0 hv0 v1 hv1 v2 v3 V
    unfold fX8_meantBits_b4 gX8_meantBits_b4
    refine sb_some (s_gI hv1 rfl) ?_
    refine sb_ite ?_ ?_
    · rfl
    · refine sb_some (s_gR hv0 rfl) ?_
      refine sb_bindE (s_aI (ch8_1 hv0)) (fun x1 => ?_)
      refine sb_ite ?_ ?_
      · exact ih v0 hv0 v1 hv1 (v2 ||| ((1 : Int32) <<< (v3 &&& 31))) (v3 + 1) V
      · exact ih v0 hv0 v1 hv1 v2 (v3 + 1) V
def gX8_meantBits (n : Nat) (v0 : Nat) (v1 : Nat) (V : VT) : Option (Int32 × VT) :=
  gX8_meantBits_b4 n n v0 v1 0 0 V
set_option maxHeartbeats 1000000 in
theorem smX8_meantBits {E : VE} {n : Nat} {v0 : Nat} {v1 : Nat} {V : VT} (h0 : clsAt v0 = some 8) (h1 : clsAt v1 = some 5) : fX8_meantBits n v0 v1 (hpV E V) = (gX8_meantBits n v0 v1 V).map (fun p => (p.1, hpV E p.2)) := by
  unfold fX8_meantBits gX8_meantBits
  refine sb_some (s_isO h0) ?_
  exact smX8_meantBits_b4 _ v0 h0 v1 h1 0 0 V
def gX9_isMatter (E : VE) (v1 : Int32) (V : VT) : Option (Int32 × VT) :=
  if v1 < 0 then
  (some (0, V))
  else
  (if (V.F E.1 6) ≤ v1 then
  (some (0, V))
  else
  (some (1, V)))
set_option maxHeartbeats 1000000 in
theorem smX9_isMatter {E : VE} {v1 : Int32} {V : VT} (hT : E.1 = 6 ∨ E.1 = 15)  : fX9_isMatter 2 v1 (hpV E V) = (gX9_isMatter E v1 V).map (fun p => (p.1, hpV E p.2)) := by
  have hT1 := (cls_T hT).1
  have hT2 := (cls_T hT).2
  unfold fX9_isMatter gX9_isMatter
  refine sb_some (s_isO rfl) ?_
  refine sb_ite ?_ ?_
  · rfl
  · refine sb_some (s_gR rfl rfl) ?_
    refine sb_some (s_gI hT1 rfl) ?_
    refine sb_ite ?_ ?_
    · rfl
    · rfl
def gX9_again_b26 (E : VE) (n : Nat) : Nat → Int32 → Int32 → Int32 → VT → Option (Int32 × VT)
  | 0, _, _, _, _ => none
  | w + 1, v1, v2, v3, V =>
    if 60 < v3 then
    (some ((-1), V))
    else
    ((rdA 7 (V.A 26) v1).bind fun x1 =>
    (gX5_sourAfterYear E.1 v1 v2 x1 V).bind fun p2 =>
    if p2.1 = 0 then
    (gX9_again_b26 E n w v1 p2.1 (v3 + 1) p2.2)
    else
    (some (v3, p2.2)))
set_option maxHeartbeats 1000000 in
theorem smX9_again_b26 {E : VE} {n : Nat} (hT : E.1 = 6 ∨ E.1 = 15) : ∀ (w : Nat) (v1 : Int32)  (v2 : Int32)  (v3 : Int32)  (V : VT), fX9_again_b26 n w 2 v1 v2 v3 (hpV E V) = (gX9_again_b26 E n w v1 v2 v3 V).map (fun p => (p.1, hpV E p.2)) := by
  have hT1 := (cls_T hT).1
  have hT2 := (cls_T hT).2
  intro w
  induction w with
  | zero => intro v1 v2 v3 V; rfl
  | succ w ih =>
    intro v1 v2 v3 V
    unfold fX9_again_b26 gX9_again_b26
    refine sb_ite ?_ ?_
    · rfl
    · refine sb_some (s_gR rfl rfl) ?_
      refine sb_some (s_gR rfl rfl) ?_
      refine sb_some (s_gR rfl rfl) ?_
      refine sb_bindE (s_aI rfl) (fun x1 => ?_)
      refine sb_P (o' := gX5_sourAfterYear E.1 v1 v2 x1 V) (smX5_sourAfterYear hT1) (fun p2 => ?_)
      refine sb_ite ?_ ?_
      · exact ih v1 p2.1 (v3 + 1) p2.2
      · rfl
def gX9_again (E : VE) (n : Nat) (v1 : Int32) (V : VT) : Option (Int32 × VT) :=
  (gX9_isMatter E v1 V).bind fun p1 =>
  if p1.1 = 0 then
  (some ((-1), p1.2))
  else
  ((rdA 7 (p1.2.A 25) v1).bind fun x2 =>
  if x2 = 0 then
  (gX9_again_b26 E n n v1 0 1 p1.2)
  else
  (some ((-1), p1.2)))
set_option maxHeartbeats 1000000 in
theorem smX9_again {E : VE} {n : Nat} {v1 : Int32} {V : VT} (hT : E.1 = 6 ∨ E.1 = 15)  : fX9_again n 2 v1 (hpV E V) = (gX9_again E n v1 V).map (fun p => (p.1, hpV E p.2)) := by
  have hT1 := (cls_T hT).1
  have hT2 := (cls_T hT).2
  unfold fX9_again gX9_again
  refine sb_some (s_isO rfl) ?_
  refine sb_P (o' := gX9_isMatter E v1 V) (smX9_isMatter hT) (fun p1 => ?_)
  refine sb_ite ?_ ?_
  · rfl
  · refine sb_some (s_gR rfl rfl) ?_
    refine sb_some (s_gR rfl rfl) ?_
    refine sb_bindE (s_aI rfl) (fun x2 => ?_)
    refine sb_ite ?_ ?_
    · exact smX9_again_b26 hT _ v1 0 1 p1.2
    · rfl
def gX9_costOfSet_b4 (E : VE) (n : Nat) : Nat → Int32 → Int32 → Int32 → VT → Option (Int32 × VT)
  | 0, _, _, _, _ => none
  | w + 1, v1, v2, v3, V =>
    if (V.F E.1 6) ≤ v3 then
    (some (v2, V))
    else
    ((gX9_bit v1 v3 V).bind fun p1 =>
    if p1.1 = 1 then
    ((rdA 7 (p1.2.A 91) v3).bind fun x2 =>
    if x2 = ((-1)) then
    (some ((-1), p1.2))
    else
    ((rdA 7 (p1.2.A 91) v3).bind fun x3 =>
    gX9_costOfSet_b4 E n w v1 (v2 + x3) (v3 + 1) p1.2))
    else
    (gX9_costOfSet_b4 E n w v1 v2 (v3 + 1) p1.2))
set_option maxHeartbeats 1000000 in
theorem smX9_costOfSet_b4 {E : VE} {n : Nat} (hT : E.1 = 6 ∨ E.1 = 15) : ∀ (w : Nat) (v1 : Int32)  (v2 : Int32)  (v3 : Int32)  (V : VT), fX9_costOfSet_b4 n w 2 v1 v2 v3 (hpV E V) = (gX9_costOfSet_b4 E n w v1 v2 v3 V).map (fun p => (p.1, hpV E p.2)) := by
  have hT1 := (cls_T hT).1
  have hT2 := (cls_T hT).2
  intro w
  induction w with
  | zero => intro v1 v2 v3 V; rfl
  | succ w ih =>
    intro v1 v2 v3 V
    unfold fX9_costOfSet_b4 gX9_costOfSet_b4
    refine sb_some (s_gR rfl rfl) ?_
    refine sb_some (s_gI hT1 rfl) ?_
    refine sb_ite ?_ ?_
    · rfl
    · refine sb_P (o' := gX9_bit v1 v3 V) (smX9_bit) (fun p1 => ?_)
      refine sb_ite ?_ ?_
      · refine sb_some (s_gR rfl rfl) ?_
        refine sb_bindE (s_aI rfl) (fun x2 => ?_)
        refine sb_ite ?_ ?_
        · rfl
        · refine sb_some (s_gR rfl rfl) ?_
          refine sb_bindE (s_aI rfl) (fun x3 => ?_)
          exact ih v1 (v2 + x3) (v3 + 1) p1.2
      · exact ih v1 v2 (v3 + 1) p1.2
def gX9_costOfSet (E : VE) (n : Nat) (v1 : Int32) (V : VT) : Option (Int32 × VT) :=
  gX9_costOfSet_b4 E n n v1 0 0 V
set_option maxHeartbeats 1000000 in
theorem smX9_costOfSet {E : VE} {n : Nat} {v1 : Int32} {V : VT} (hT : E.1 = 6 ∨ E.1 = 15)  : fX9_costOfSet n 2 v1 (hpV E V) = (gX9_costOfSet E n v1 V).map (fun p => (p.1, hpV E p.2)) := by
  have hT1 := (cls_T hT).1
  have hT2 := (cls_T hT).2
  unfold fX9_costOfSet gX9_costOfSet
  refine sb_some (s_isO rfl) ?_
  exact smX9_costOfSet_b4 hT _ v1 0 0 V
def gX9_meant (E : VE) (n : Nat)  (V : VT) : Option (Int32 × VT) :=
  (gX8_meantBits n 24 E.1 V).bind fun p1 =>
  some (p1.1, p1.2)
set_option maxHeartbeats 1000000 in
theorem smX9_meant {E : VE} {n : Nat}  {V : VT} (hT : E.1 = 6 ∨ E.1 = 15)  : fX9_meant n 2 (hpV E V) = (gX9_meant E n  V).map (fun p => (p.1, hpV E p.2)) := by
  have hT1 := (cls_T hT).1
  have hT2 := (cls_T hT).2
  unfold fX9_meant gX9_meant
  refine sb_some (s_isO rfl) ?_
  refine sb_some (s_gR rfl rfl) ?_
  refine sb_some (s_gR rfl rfl) ?_
  refine sb_P (o' := gX8_meantBits n 24 E.1 V) (smX8_meantBits rfl hT1) (fun p1 => ?_)
  rfl
def gX9_coatsWanted_b12 (E : VE) (n : Nat) : Nat → Int32 → Int32 → Int32 → VT → Option (Int32 × VT)
  | 0, _, _, _, _ => none
  | w + 1, v1, v2, v3, V =>
    if 40 < v3 then
    (some ((-1), V))
    else
    (if v2 = 0 then
    (some (v3, V))
    else
    ((rdA 7 (V.A 26) v1).bind fun x1 =>
    (gX5_sourAfterCoat n E.1 v1 v2 (x1 + v3) (V.F 24 3) V).bind fun p2 =>
    gX9_coatsWanted_b12 E n w v1 p2.1 (v3 + 1) p2.2))
set_option maxHeartbeats 1000000 in
theorem smX9_coatsWanted_b12 {E : VE} {n : Nat} (hT : E.1 = 6 ∨ E.1 = 15) : ∀ (w : Nat) (v1 : Int32)  (v2 : Int32)  (v3 : Int32)  (V : VT), fX9_coatsWanted_b12 n w 2 v1 v2 v3 (hpV E V) = (gX9_coatsWanted_b12 E n w v1 v2 v3 V).map (fun p => (p.1, hpV E p.2)) := by
  have hT1 := (cls_T hT).1
  have hT2 := (cls_T hT).2
  intro w
  induction w with
  | zero => intro v1 v2 v3 V; rfl
  | succ w ih =>
    intro v1 v2 v3 V
    unfold fX9_coatsWanted_b12 gX9_coatsWanted_b12
    refine sb_ite ?_ ?_
    · rfl
    · refine sb_ite ?_ ?_
      · rfl
      · refine sb_some (s_gR rfl rfl) ?_
        refine sb_some (s_gR rfl rfl) ?_
        refine sb_some (s_gR rfl rfl) ?_
        refine sb_bindE (s_aI rfl) (fun x1 => ?_)
        refine sb_some (s_gR rfl rfl) ?_
        refine sb_some (s_gI rfl rfl) ?_
        refine sb_P (o' := gX5_sourAfterCoat n E.1 v1 v2 (x1 + v3) (V.F 24 3) V) (smX5_sourAfterCoat hT1) (fun p2 => ?_)
        exact ih v1 p2.1 (v3 + 1) p2.2
def gX9_coatsWanted (E : VE) (n : Nat) (v1 : Int32) (V : VT) : Option (Int32 × VT) :=
  (rdA 7 (V.A 25) v1).bind fun x1 =>
  gX9_coatsWanted_b12 E n n v1 x1 0 V
set_option maxHeartbeats 1000000 in
theorem smX9_coatsWanted {E : VE} {n : Nat} {v1 : Int32} {V : VT} (hT : E.1 = 6 ∨ E.1 = 15)  : fX9_coatsWanted n 2 v1 (hpV E V) = (gX9_coatsWanted E n v1 V).map (fun p => (p.1, hpV E p.2)) := by
  have hT1 := (cls_T hT).1
  have hT2 := (cls_T hT).2
  unfold fX9_coatsWanted gX9_coatsWanted
  refine sb_some (s_isO rfl) ?_
  refine sb_some (s_gR rfl rfl) ?_
  refine sb_some (s_gR rfl rfl) ?_
  refine sb_bindE (s_aI rfl) (fun x1 => ?_)
  exact smX9_coatsWanted_b12 hT _ v1 x1 0 V
def gX9_mustardFor (E : VE) (v1 : Int32) (v2 : Int32) (V : VT) : Option (Int32 × VT) :=
  if v2 = ((-1)) then
  (some ((-1), V))
  else
  ((gX5_price E.1 v1 V).bind fun p1 =>
  some (v2 * p1.1, p1.2))
set_option maxHeartbeats 1000000 in
theorem smX9_mustardFor {E : VE} {v1 : Int32} {v2 : Int32} {V : VT} (hT : E.1 = 6 ∨ E.1 = 15)   : fX9_mustardFor 2 v1 v2 (hpV E V) = (gX9_mustardFor E v1 v2 V).map (fun p => (p.1, hpV E p.2)) := by
  have hT1 := (cls_T hT).1
  have hT2 := (cls_T hT).2
  unfold fX9_mustardFor gX9_mustardFor
  refine sb_some (s_isO rfl) ?_
  refine sb_ite ?_ ?_
  · rfl
  · refine sb_some (s_gR rfl rfl) ?_
    refine sb_P (o' := gX5_price E.1 v1 V) (smX5_price hT1) (fun p1 => ?_)
    rfl
def gX9_reckonCosts_b2 (E : VE) (n : Nat) : Nat → Int32 → VT → Option (VT)
  | 0, _, _ => none
  | w + 1, v1, V =>
    if (V.F E.1 6) ≤ v1 then
    (some V)
    else
    ((gX9_coatsWanted E n v1 V).bind fun p1 =>
    (gX9_mustardFor E v1 p1.1 p1.2).bind fun p2 =>
    (wrA p2.2 91 7 v1 p2.1).bind fun V3 =>
    gX9_reckonCosts_b2 E n w (v1 + 1) V3)
set_option maxHeartbeats 1000000 in
theorem smX9_reckonCosts_b2 {E : VE} {n : Nat} (hT : E.1 = 6 ∨ E.1 = 15) : ∀ (w : Nat) (v1 : Int32)  (V : VT), fX9_reckonCosts_b2 n w 2 v1 (hpV E V) = (gX9_reckonCosts_b2 E n w v1 V).map (hpV E) := by
  have hT1 := (cls_T hT).1
  have hT2 := (cls_T hT).2
  intro w
  induction w with
  | zero => intro v1 V; rfl
  | succ w ih =>
    intro v1 V
    unfold fX9_reckonCosts_b2 gX9_reckonCosts_b2
    refine sb_some (s_gR rfl rfl) ?_
    refine sb_some (s_gI hT1 rfl) ?_
    refine sb_ite ?_ ?_
    · rfl
    · refine sb_some (s_gR rfl rfl) ?_
      refine sb_P (o' := gX9_coatsWanted E n v1 V) (smX9_coatsWanted hT) (fun p1 => ?_)
      refine sb_P (o' := gX9_mustardFor E v1 p1.1 p1.2) (smX9_mustardFor hT) (fun p2 => ?_)
      refine sb_V (o' := wrA p2.2 91 7 v1 p2.1) (s_sI rfl) (fun V3 => ?_)
      exact ih (v1 + 1) V3
def gX9_reckonCosts (E : VE) (n : Nat)  (V : VT) : Option (VT) :=
  gX9_reckonCosts_b2 E n n 0 V
set_option maxHeartbeats 1000000 in
theorem smX9_reckonCosts {E : VE} {n : Nat}  {V : VT} (hT : E.1 = 6 ∨ E.1 = 15)  : fX9_reckonCosts n 2 (hpV E V) = (gX9_reckonCosts E n  V).map (hpV E) := by
  have hT1 := (cls_T hT).1
  have hT2 := (cls_T hT).2
  unfold fX9_reckonCosts gX9_reckonCosts
  refine sb_some (s_isO rfl) ?_
  exact smX9_reckonCosts_b2 hT _ 0 V
def gX9_all_b48 (E : VE) (n : Nat) (K13 : Int32 → Int32 → Int32 → VT → Option (Int32 × VT)) (v1 : Int32) (v2 : Int32) (v3 : Int32) (v4 : Int32) (V : VT) : Option (Int32 × VT) :=
  (gX5_rightBy n E.1 (v3 ||| v1) V).bind fun p1 =>
  (gX5_everyone E.1 p1.2).bind fun p2 =>
  if p1.1 = p2.1 then
  (K13 v1 v4 (v3 + 1) p2.2)
  else
  (K13 v1 v2 (v3 + 1) p2.2)
set_option maxHeartbeats 1000000 in
theorem smX9_all_b48 {E : VE} {n : Nat} {K13 : Int32 → Int32 → Int32 → VT → Option (Int32 × VT)} {k13 : Nat → Int32 → Int32 → Int32 → qH → Option (Int32 × qH)} {v1 : Int32} {v2 : Int32} {v3 : Int32} {v4 : Int32} {V : VT} (hT : E.1 = 6 ∨ E.1 = 15) (hK13 : ∀ (v1 : Int32)  (v2 : Int32)  (v3 : Int32)  (V : VT), k13 2 v1 v2 v3 (hpV E V) = (K13 v1 v2 v3 V).map (fun p => (p.1, hpV E p.2)))     : fX9_all_b48 n k13 2 v1 v2 v3 v4 (hpV E V) = (gX9_all_b48 E n K13 v1 v2 v3 v4 V).map (fun p => (p.1, hpV E p.2)) := by
  have hT1 := (cls_T hT).1
  have hT2 := (cls_T hT).2
  unfold fX9_all_b48 gX9_all_b48
  refine sb_some (s_gR rfl rfl) ?_
  refine sb_P (o' := gX5_rightBy n E.1 (v3 ||| v1) V) (smX5_rightBy hT1) (fun p1 => ?_)
  refine sb_some (s_gR rfl rfl) ?_
  refine sb_P (o' := gX5_everyone E.1 p1.2) (smX5_everyone hT1) (fun p2 => ?_)
  refine sb_ite ?_ ?_
  · exact hK13 v1 v4 (v3 + 1) p2.2
  · exact hK13 v1 v2 (v3 + 1) p2.2
def gX9_all_b13 (E : VE) (n : Nat) : Nat → Int32 → Int32 → Int32 → VT → Option (Int32 × VT)
  | 0, _, _, _, _ => none
  | w + 1, v1, v2, v3, V =>
    (gX5_everyone E.1 V).bind fun p1 =>
    if p1.1 < v3 then
    (some (v2, p1.2))
    else
    ((gX9_costOfSet E n v3 p1.2).bind fun p2 =>
    if p2.1 = ((-1)) then
    (gX9_all_b13 E n w v1 v2 (v3 + 1) p2.2)
    else
    (if v2 = ((-1)) then
    (gX9_all_b48 E n (gX9_all_b13 E n w) v1 v2 v3 p2.1 p2.2)
    else
    (if v2 ≤ p2.1 then
    (gX9_all_b13 E n w v1 v2 (v3 + 1) p2.2)
    else
    (gX9_all_b48 E n (gX9_all_b13 E n w) v1 v2 v3 p2.1 p2.2))))
set_option maxHeartbeats 1000000 in
theorem smX9_all_b13 {E : VE} {n : Nat} (hT : E.1 = 6 ∨ E.1 = 15) : ∀ (w : Nat) (v1 : Int32)  (v2 : Int32)  (v3 : Int32)  (V : VT), fX9_all_b13 n w 2 v1 v2 v3 (hpV E V) = (gX9_all_b13 E n w v1 v2 v3 V).map (fun p => (p.1, hpV E p.2)) := by
  have hT1 := (cls_T hT).1
  have hT2 := (cls_T hT).2
  intro w
  induction w with
  | zero => intro v1 v2 v3 V; rfl
  | succ w ih =>
    intro v1 v2 v3 V
    unfold fX9_all_b13 gX9_all_b13
    refine sb_some (s_gR rfl rfl) ?_
    refine sb_P (o' := gX5_everyone E.1 V) (smX5_everyone hT1) (fun p1 => ?_)
    refine sb_ite ?_ ?_
    · rfl
    · refine sb_P (o' := gX9_costOfSet E n v3 p1.2) (smX9_costOfSet hT) (fun p2 => ?_)
      refine sb_ite ?_ ?_
      · exact ih v1 v2 (v3 + 1) p2.2
      · refine sb_ite ?_ ?_
        · exact smX9_all_b48 hT ih
        · refine sb_ite ?_ ?_
          · exact ih v1 v2 (v3 + 1) p2.2
          · exact smX9_all_b48 hT ih
def gX9_all (E : VE) (n : Nat)  (V : VT) : Option (Int32 × VT) :=
  (gX9_reckonCosts E n V).bind fun V1 =>
  (gX9_meant E n V1).bind fun p2 =>
  gX9_all_b13 E n n p2.1 ((-1)) 0 p2.2
set_option maxHeartbeats 1000000 in
theorem smX9_all {E : VE} {n : Nat}  {V : VT} (hT : E.1 = 6 ∨ E.1 = 15)  : fX9_all n 2 (hpV E V) = (gX9_all E n  V).map (fun p => (p.1, hpV E p.2)) := by
  have hT1 := (cls_T hT).1
  have hT2 := (cls_T hT).2
  unfold fX9_all gX9_all
  refine sb_some (s_isO rfl) ?_
  refine sb_V (o' := gX9_reckonCosts E n V) (smX9_reckonCosts hT) (fun V1 => ?_)
  refine sb_P (o' := gX9_meant E n V1) (smX9_meant hT) (fun p2 => ?_)
  exact smX9_all_b13 hT _ p2.1 ((-1)) 0 p2.2
def gX9_bare_b4 (E : VE) (n : Nat) : Nat → Int32 → Int32 → VT → Option (Int32 × VT)
  | 0, _, _, _ => none
  | w + 1, v1, v2, V =>
    if (V.F E.1 6) ≤ v2 then
    (some (v1, V))
    else
    ((rdA 7 (V.A ((E.1 + 2))) v2).bind fun x1 =>
    if x1 = 3 then
    ((rdA 7 (V.A 25) v2).bind fun x2 =>
    if x2 = 0 then
    (gX9_bare_b4 E n w v1 (v2 + 1) V)
    else
    (gX9_bare_b4 E n w (v1 ||| ((1 : Int32) <<< (v2 &&& 31))) (v2 + 1) V))
    else
    (gX9_bare_b4 E n w v1 (v2 + 1) V))
set_option maxHeartbeats 1000000 in
theorem smX9_bare_b4 {E : VE} {n : Nat} (hT : E.1 = 6 ∨ E.1 = 15) : ∀ (w : Nat) (v1 : Int32)  (v2 : Int32)  (V : VT), fX9_bare_b4 n w 2 v1 v2 (hpV E V) = (gX9_bare_b4 E n w v1 v2 V).map (fun p => (p.1, hpV E p.2)) := by
  have hT1 := (cls_T hT).1
  have hT2 := (cls_T hT).2
  intro w
  induction w with
  | zero => intro v1 v2 V; rfl
  | succ w ih =>
    intro v1 v2 V
    unfold fX9_bare_b4 gX9_bare_b4
    refine sb_some (s_gR rfl rfl) ?_
    refine sb_some (s_gI hT1 rfl) ?_
    refine sb_ite ?_ ?_
    · rfl
    · refine sb_some (s_gR rfl rfl) ?_
      refine sb_some (s_gR hT1 rfl) ?_
      refine sb_bindE (s_aI (ch5_2 hT1)) (fun x1 => ?_)
      refine sb_ite ?_ ?_
      · refine sb_some (s_gR rfl rfl) ?_
        refine sb_some (s_gR rfl rfl) ?_
        refine sb_bindE (s_aI rfl) (fun x2 => ?_)
        refine sb_ite ?_ ?_
        · exact ih v1 (v2 + 1) V
        · exact ih (v1 ||| ((1 : Int32) <<< (v2 &&& 31))) (v2 + 1) V
      · exact ih v1 (v2 + 1) V
def gX9_bare (E : VE) (n : Nat)  (V : VT) : Option (Int32 × VT) :=
  gX9_bare_b4 E n n 0 0 V
set_option maxHeartbeats 1000000 in
theorem smX9_bare {E : VE} {n : Nat}  {V : VT} (hT : E.1 = 6 ∨ E.1 = 15)  : fX9_bare n 2 (hpV E V) = (gX9_bare E n  V).map (fun p => (p.1, hpV E p.2)) := by
  have hT1 := (cls_T hT).1
  have hT2 := (cls_T hT).2
  unfold fX9_bare gX9_bare
  refine sb_some (s_isO rfl) ?_
  exact smX9_bare_b4 hT _ 0 0 V
def gX9_beginAnew_b35 (E : VE) (n : Nat) : Nat → Int32 → VT → Option (VT)
  | 0, _, _ => none
  | w + 1, v1, V =>
    if 4 ≤ v1 then
    (some V)
    else
    ((rd90 v1).bind fun x1 =>
    (some (wF V x1 3 0)).bind fun V3 =>
    gX9_beginAnew_b35 E n w (v1 + 1) V3)
set_option maxHeartbeats 1000000 in
theorem smX9_beginAnew_b35 {E : VE} {n : Nat} (hT : E.1 = 6 ∨ E.1 = 15) : ∀ (w : Nat) (v1 : Int32)  (V : VT), fX9_beginAnew_b35 n w 2 v1 (hpV E V) = (gX9_beginAnew_b35 E n w v1 V).map (hpV E) := by
  have hT1 := (cls_T hT).1
  have hT2 := (cls_T hT).2
  intro w
  induction w with
  | zero => intro v1 V; rfl
  | succ w ih =>
    intro v1 V
    unfold fX9_beginAnew_b35 gX9_beginAnew_b35
    refine sb_some (s_gR rfl rfl) ?_
    refine sb_some (x := 4) (s_aN90) ?_
    refine sb_ite ?_ ?_
    · rfl
    · refine sb_some (s_gR rfl rfl) ?_
      refine sb_90 (fun x1 e2 => ?_)
      refine sb_V (o' := some (wF V x1 3 0)) (w3_3 e2) (fun V3 => ?_)
      exact ih (v1 + 1) V3
def gX9_beginAnew (E : VE) (n : Nat)  (V : VT) : Option (VT) :=
  (gX8_begin n 24 E.1 V).bind fun V1 =>
  (gX2_clear 80 V1).bind fun V2 =>
  (some (wF V2 86 3 0)).bind fun V3 =>
  (gX0_clear V3).bind fun V4 =>
  gX9_beginAnew_b35 E n n 0 V4
set_option maxHeartbeats 1000000 in
theorem smX9_beginAnew {E : VE} {n : Nat}  {V : VT} (hT : E.1 = 6 ∨ E.1 = 15)  : fX9_beginAnew n 2 (hpV E V) = (gX9_beginAnew E n  V).map (hpV E) := by
  have hT1 := (cls_T hT).1
  have hT2 := (cls_T hT).2
  unfold fX9_beginAnew gX9_beginAnew
  refine sb_some (s_isO rfl) ?_
  refine sb_some (s_gR rfl rfl) ?_
  refine sb_some (s_gR rfl rfl) ?_
  refine sb_V (o' := gX8_begin n 24 E.1 V) (smX8_begin rfl hT1) (fun V1 => ?_)
  refine sb_some (s_gR rfl rfl) ?_
  refine sb_V (o' := gX2_clear 80 V1) (smX2_clear rfl) (fun V2 => ?_)
  refine sb_some (s_gR rfl rfl) ?_
  refine sb_V (o' := some (wF V2 86 3 0)) (w7_3 rfl) (fun V3 => ?_)
  refine sb_some (s_gR rfl rfl) ?_
  refine sb_V (o' := gX0_clear V3) (smX0_clear) (fun V4 => ?_)
  exact smX9_beginAnew_b35 hT _ 0 V4
def gX9_causes (E : VE) (n : Nat) (v1 : Int32) (V : VT) : Option (Int32 × VT) :=
  (gX9_isMatter E v1 V).bind fun p1 =>
  if p1.1 = 0 then
  (some ((-1), p1.2))
  else
  ((gX5_causeBits n E.1 v1 p1.2).bind fun p2 =>
  some (p2.1, p2.2))
set_option maxHeartbeats 1000000 in
theorem smX9_causes {E : VE} {n : Nat} {v1 : Int32} {V : VT} (hT : E.1 = 6 ∨ E.1 = 15)  : fX9_causes n 2 v1 (hpV E V) = (gX9_causes E n v1 V).map (fun p => (p.1, hpV E p.2)) := by
  have hT1 := (cls_T hT).1
  have hT2 := (cls_T hT).2
  unfold fX9_causes gX9_causes
  refine sb_some (s_isO rfl) ?_
  refine sb_P (o' := gX9_isMatter E v1 V) (smX9_isMatter hT) (fun p1 => ?_)
  refine sb_ite ?_ ?_
  · rfl
  · refine sb_some (s_gR rfl rfl) ?_
    refine sb_P (o' := gX5_causeBits n E.1 v1 p1.2) (smX5_causeBits hT1) (fun p2 => ?_)
    rfl
def gX9_partsMeant_g (E : VE) (RX9_partsMeant : Int32 → Int32 → Int32 → Int32 → Int32 → Int32 → Int32 → VT → Option (Int32 × VT)) (n : Nat) (v1 : Int32) (v2 : Int32) (v3 : Int32) (v4 : Int32) (v5 : Int32) (v6 : Int32) (v7 : Int32) (V : VT) : Option (Int32 × VT) :=
  if v5 < v6 then
  ((gX5_sourAfterYear E.1 v1 v2 v3 V).bind fun p1 =>
  (gX5_potAfterYear E.1 v4 p1.2).bind fun p2 =>
  (RX9_partsMeant v1 p1.1 v3 p2.1 (v5 + 1) v6 v7 p2.2).bind fun p3 =>
  (gX5_price E.1 v1 p3.2).bind fun p4 =>
  if v7 = 0 then
  (some (10 * p3.1, p4.2))
  else
  (if p4.1 ≤ v4 then
  ((gX5_sourAfterCoat n E.1 v1 v2 v3 v5 p4.2).bind fun p5 =>
  (gX5_coatsAfterCoat E.1 v1 v3 p5.2).bind fun p6 =>
  (gX5_sourAfterYear E.1 v1 p5.1 p6.1 p6.2).bind fun p7 =>
  (gX5_potAfterYear E.1 (v4 - p4.1) p7.2).bind fun p8 =>
  (RX9_partsMeant v1 p7.1 p6.1 p8.1 (v5 + 1) v6 v7 p8.2).bind fun p9 =>
  some ((v7 * p9.1) + ((10 - v7) * p3.1), p9.2))
  else
  (some (10 * p3.1, p4.2))))
  else
  (if v2 = 0 then
  (some (1, V))
  else
  (some (0, V)))
set_option maxHeartbeats 1000000 in
theorem smX9_partsMeant_g {E : VE} {RX9_partsMeant : Int32 → Int32 → Int32 → Int32 → Int32 → Int32 → Int32 → VT → Option (Int32 × VT)} {rX9_partsMeant : Nat → Int32 → Int32 → Int32 → Int32 → Int32 → Int32 → Int32 → qH → Option (Int32 × qH)} {n : Nat} {v1 : Int32} {v2 : Int32} {v3 : Int32} {v4 : Int32} {v5 : Int32} {v6 : Int32} {v7 : Int32} {V : VT} (hT : E.1 = 6 ∨ E.1 = 15) (hRX9_partsMeant : ∀ {v1 : Int32} {v2 : Int32} {v3 : Int32} {v4 : Int32} {v5 : Int32} {v6 : Int32} {v7 : Int32} {V : VT}, rX9_partsMeant 2 v1 v2 v3 v4 v5 v6 v7 (hpV E V) = (RX9_partsMeant v1 v2 v3 v4 v5 v6 v7 V).map (fun p => (p.1, hpV E p.2)))        : fX9_partsMeant_g rX9_partsMeant n 2 v1 v2 v3 v4 v5 v6 v7 (hpV E V) = (gX9_partsMeant_g E RX9_partsMeant n v1 v2 v3 v4 v5 v6 v7 V).map (fun p => (p.1, hpV E p.2)) := by
  have hT1 := (cls_T hT).1
  have hT2 := (cls_T hT).2
  unfold fX9_partsMeant_g gX9_partsMeant_g
  refine sb_some (s_isO rfl) ?_
  refine sb_ite ?_ ?_
  · refine sb_some (s_gR rfl rfl) ?_
    refine sb_P (o' := gX5_sourAfterYear E.1 v1 v2 v3 V) (smX5_sourAfterYear hT1) (fun p1 => ?_)
    refine sb_some (s_gR rfl rfl) ?_
    refine sb_P (o' := gX5_potAfterYear E.1 v4 p1.2) (smX5_potAfterYear hT1) (fun p2 => ?_)
    refine sb_P (o' := RX9_partsMeant v1 p1.1 v3 p2.1 (v5 + 1) v6 v7 p2.2) (hRX9_partsMeant) (fun p3 => ?_)
    refine sb_some (s_gR rfl rfl) ?_
    refine sb_P (o' := gX5_price E.1 v1 p3.2) (smX5_price hT1) (fun p4 => ?_)
    refine sb_ite ?_ ?_
    · rfl
    · refine sb_ite ?_ ?_
      · refine sb_some (s_gR rfl rfl) ?_
        refine sb_P (o' := gX5_sourAfterCoat n E.1 v1 v2 v3 v5 p4.2) (smX5_sourAfterCoat hT1) (fun p5 => ?_)
        refine sb_some (s_gR rfl rfl) ?_
        refine sb_P (o' := gX5_coatsAfterCoat E.1 v1 v3 p5.2) (smX5_coatsAfterCoat hT1) (fun p6 => ?_)
        refine sb_some (s_gR rfl rfl) ?_
        refine sb_P (o' := gX5_sourAfterYear E.1 v1 p5.1 p6.1 p6.2) (smX5_sourAfterYear hT1) (fun p7 => ?_)
        refine sb_some (s_gR rfl rfl) ?_
        refine sb_P (o' := gX5_potAfterYear E.1 (v4 - p4.1) p7.2) (smX5_potAfterYear hT1) (fun p8 => ?_)
        refine sb_P (o' := RX9_partsMeant v1 p7.1 p6.1 p8.1 (v5 + 1) v6 v7 p8.2) (hRX9_partsMeant) (fun p9 => ?_)
        rfl
      · rfl
  · refine sb_ite ?_ ?_
    · rfl
    · rfl
def gX9_partsMeant_k (E : VE) (n : Nat) : Nat → Int32 → Int32 → Int32 → Int32 → Int32 → Int32 → Int32 → VT → Option (Int32 × VT)
  | 0, _, _, _, _, _, _, _, _ => none
  | k + 1, v1, v2, v3, v4, v5, v6, v7, V => gX9_partsMeant_g E (gX9_partsMeant_k E n k) n v1 v2 v3 v4 v5 v6 v7 V
theorem smX9_partsMeant_k {E : VE} {n : Nat} (hT : E.1 = 6 ∨ E.1 = 15) : ∀ (k : Nat) {v1 : Int32} {v2 : Int32} {v3 : Int32} {v4 : Int32} {v5 : Int32} {v6 : Int32} {v7 : Int32} {V : VT}, fX9_partsMeant_k n k 2 v1 v2 v3 v4 v5 v6 v7 (hpV E V) = (gX9_partsMeant_k E n k v1 v2 v3 v4 v5 v6 v7 V).map (fun p => (p.1, hpV E p.2)) := by
  intro k
  induction k with
  | zero => intro  v1 v2 v3 v4 v5 v6 v7 V; rfl
  | succ k ih =>
    intro  v1 v2 v3 v4 v5 v6 v7 V
    unfold fX9_partsMeant_k gX9_partsMeant_k
    exact smX9_partsMeant_g hT ih
def gX9_partsMeant (E : VE) (n : Nat) (v1 : Int32) (v2 : Int32) (v3 : Int32) (v4 : Int32) (v5 : Int32) (v6 : Int32) (v7 : Int32) (V : VT) : Option (Int32 × VT) := gX9_partsMeant_k E n 10 v1 v2 v3 v4 v5 v6 v7 V
theorem smX9_partsMeant {E : VE} {n : Nat} {v1 : Int32} {v2 : Int32} {v3 : Int32} {v4 : Int32} {v5 : Int32} {v6 : Int32} {v7 : Int32} {V : VT} (hT : E.1 = 6 ∨ E.1 = 15) : fX9_partsMeant n 2 v1 v2 v3 v4 v5 v6 v7 (hpV E V) = (gX9_partsMeant E n v1 v2 v3 v4 v5 v6 v7 V).map (fun p => (p.1, hpV E p.2)) := smX9_partsMeant_k hT 10
def gX9_chance_b82 (E : VE) (n : Nat) : Nat → Int32 → Int32 → VT → Option (Int32 × VT)
  | 0, _, _, _ => none
  | w + 1, v4, v5, V =>
    if 6 ≤ v5 then
    (some (v4, V))
    else
    (gX9_chance_b82 E n w (v4 * 10) (v5 + 1) V)
set_option maxHeartbeats 1000000 in
theorem smX9_chance_b82 {E : VE} {n : Nat} (hT : E.1 = 6 ∨ E.1 = 15) : ∀ (w : Nat) (v4 : Int32)  (v5 : Int32)  (V : VT), fX9_chance_b82 n w v4 v5 (hpV E V) = (gX9_chance_b82 E n w v4 v5 V).map (fun p => (p.1, hpV E p.2)) := by
  have hT1 := (cls_T hT).1
  have hT2 := (cls_T hT).2
  intro w
  induction w with
  | zero => intro v4 v5 V; rfl
  | succ w ih =>
    intro v4 v5 V
    unfold fX9_chance_b82 gX9_chance_b82
    refine sb_ite ?_ ?_
    · rfl
    · exact ih (v4 * 10) (v5 + 1) V
def gX9_chance (E : VE) (n : Nat) (v1 : Int32) (v2 : Int32) (v3 : Int32) (V : VT) : Option (Int32 × VT) :=
  (gX9_isMatter E v1 V).bind fun p1 =>
  if p1.1 = 0 then
  (some ((-1), p1.2))
  else
  ((gX9_within v2 1 6 p1.2).bind fun p2 =>
  if p2.1 = 0 then
  (some ((-1), p2.2))
  else
  ((gX9_within v3 0 10 p2.2).bind fun p3 =>
  if p3.1 = 0 then
  (some ((-1), p3.2))
  else
  ((rdA 7 (p3.2.A 25) v1).bind fun x4 =>
  (rdA 7 (p3.2.A 26) v1).bind fun x5 =>
  (gX9_partsMeant E n v1 x4 x5 (p3.2.F 24 2) (p3.2.F 24 3) ((p3.2.F 24 3) + v2) v3 p3.2).bind fun p6 =>
  gX9_chance_b82 E n n p6.1 v2 p6.2)))
set_option maxHeartbeats 1000000 in
theorem smX9_chance {E : VE} {n : Nat} {v1 : Int32} {v2 : Int32} {v3 : Int32} {V : VT} (hT : E.1 = 6 ∨ E.1 = 15)    : fX9_chance n 2 v1 v2 v3 (hpV E V) = (gX9_chance E n v1 v2 v3 V).map (fun p => (p.1, hpV E p.2)) := by
  have hT1 := (cls_T hT).1
  have hT2 := (cls_T hT).2
  unfold fX9_chance gX9_chance
  refine sb_some (s_isO rfl) ?_
  refine sb_P (o' := gX9_isMatter E v1 V) (smX9_isMatter hT) (fun p1 => ?_)
  refine sb_ite ?_ ?_
  · rfl
  · refine sb_P (o' := gX9_within v2 1 6 p1.2) (smX9_within) (fun p2 => ?_)
    refine sb_ite ?_ ?_
    · rfl
    · refine sb_P (o' := gX9_within v3 0 10 p2.2) (smX9_within) (fun p3 => ?_)
      refine sb_ite ?_ ?_
      · rfl
      · refine sb_some (s_gR rfl rfl) ?_
        refine sb_some (s_gR rfl rfl) ?_
        refine sb_bindE (s_aI rfl) (fun x4 => ?_)
        refine sb_some (s_gR rfl rfl) ?_
        refine sb_some (s_gR rfl rfl) ?_
        refine sb_bindE (s_aI rfl) (fun x5 => ?_)
        refine sb_some (s_gR rfl rfl) ?_
        refine sb_some (s_gI rfl rfl) ?_
        refine sb_some (s_gR rfl rfl) ?_
        refine sb_some (s_gI rfl rfl) ?_
        refine sb_some (s_gR rfl rfl) ?_
        refine sb_some (s_gI rfl rfl) ?_
        refine sb_P (o' := gX9_partsMeant E n v1 x4 x5 (p3.2.F 24 2) (p3.2.F 24 3) ((p3.2.F 24 3) + v2) v3 p3.2) (smX9_partsMeant hT) (fun p6 => ?_)
        exact smX9_chance_b82 hT _ p6.1 v2 p6.2
def gX9_cheapestOf_b4 (E : VE) (n : Nat) : Nat → Int32 → Int32 → Int32 → VT → Option (Int32 × VT)
  | 0, _, _, _, _ => none
  | w + 1, v1, v2, v3, V =>
    if (V.F E.1 6) ≤ v3 then
    (some (v2, V))
    else
    ((gX9_bit v1 v3 V).bind fun p1 =>
    if p1.1 = 1 then
    ((rdA 7 (p1.2.A 91) v3).bind fun x2 =>
    if x2 = ((-1)) then
    (gX9_cheapestOf_b4 E n w v1 v2 (v3 + 1) p1.2)
    else
    (if v2 = ((-1)) then
    (gX9_cheapestOf_b4 E n w v1 v3 (v3 + 1) p1.2)
    else
    ((rdA 7 (p1.2.A 91) v3).bind fun x3 =>
    (rdA 7 (p1.2.A 91) v2).bind fun x4 =>
    if x4 ≤ x3 then
    (gX9_cheapestOf_b4 E n w v1 v2 (v3 + 1) p1.2)
    else
    (gX9_cheapestOf_b4 E n w v1 v3 (v3 + 1) p1.2))))
    else
    (gX9_cheapestOf_b4 E n w v1 v2 (v3 + 1) p1.2))
set_option maxHeartbeats 1000000 in
theorem smX9_cheapestOf_b4 {E : VE} {n : Nat} (hT : E.1 = 6 ∨ E.1 = 15) : ∀ (w : Nat) (v1 : Int32)  (v2 : Int32)  (v3 : Int32)  (V : VT), fX9_cheapestOf_b4 n w 2 v1 v2 v3 (hpV E V) = (gX9_cheapestOf_b4 E n w v1 v2 v3 V).map (fun p => (p.1, hpV E p.2)) := by
  have hT1 := (cls_T hT).1
  have hT2 := (cls_T hT).2
  intro w
  induction w with
  | zero => intro v1 v2 v3 V; rfl
  | succ w ih =>
    intro v1 v2 v3 V
    unfold fX9_cheapestOf_b4 gX9_cheapestOf_b4
    refine sb_some (s_gR rfl rfl) ?_
    refine sb_some (s_gI hT1 rfl) ?_
    refine sb_ite ?_ ?_
    · rfl
    · refine sb_P (o' := gX9_bit v1 v3 V) (smX9_bit) (fun p1 => ?_)
      refine sb_ite ?_ ?_
      · refine sb_some (s_gR rfl rfl) ?_
        refine sb_bindE (s_aI rfl) (fun x2 => ?_)
        refine sb_ite ?_ ?_
        · exact ih v1 v2 (v3 + 1) p1.2
        · refine sb_ite ?_ ?_
          · exact ih v1 v3 (v3 + 1) p1.2
          · refine sb_some (s_gR rfl rfl) ?_
            refine sb_bindE (s_aI rfl) (fun x3 => ?_)
            refine sb_some (s_gR rfl rfl) ?_
            refine sb_bindE (s_aI rfl) (fun x4 => ?_)
            refine sb_ite ?_ ?_
            · exact ih v1 v2 (v3 + 1) p1.2
            · exact ih v1 v3 (v3 + 1) p1.2
      · exact ih v1 v2 (v3 + 1) p1.2
def gX9_cheapestOf (E : VE) (n : Nat) (v1 : Int32) (V : VT) : Option (Int32 × VT) :=
  gX9_cheapestOf_b4 E n n v1 ((-1)) 0 V
set_option maxHeartbeats 1000000 in
theorem smX9_cheapestOf {E : VE} {n : Nat} {v1 : Int32} {V : VT} (hT : E.1 = 6 ∨ E.1 = 15)  : fX9_cheapestOf n 2 v1 (hpV E V) = (gX9_cheapestOf E n v1 V).map (fun p => (p.1, hpV E p.2)) := by
  have hT1 := (cls_T hT).1
  have hT2 := (cls_T hT).2
  unfold fX9_cheapestOf gX9_cheapestOf
  refine sb_some (s_isO rfl) ?_
  exact smX9_cheapestOf_b4 hT _ v1 ((-1)) 0 V
def gX9_right (E : VE) (n : Nat)  (V : VT) : Option (Int32 × VT) :=
  (gX9_meant E n V).bind fun p1 =>
  (gX5_rightBy n E.1 p1.1 p1.2).bind fun p2 =>
  some (p2.1, p2.2)
set_option maxHeartbeats 1000000 in
theorem smX9_right {E : VE} {n : Nat}  {V : VT} (hT : E.1 = 6 ∨ E.1 = 15)  : fX9_right n 2 (hpV E V) = (gX9_right E n  V).map (fun p => (p.1, hpV E p.2)) := by
  have hT1 := (cls_T hT).1
  have hT2 := (cls_T hT).2
  unfold fX9_right gX9_right
  refine sb_some (s_isO rfl) ?_
  refine sb_some (s_gR rfl rfl) ?_
  refine sb_P (o' := gX9_meant E n V) (smX9_meant hT) (fun p1 => ?_)
  refine sb_P (o' := gX5_rightBy n E.1 p1.1 p1.2) (smX5_rightBy hT1) (fun p2 => ?_)
  rfl
def gX9_cheapestFor (E : VE) (n : Nat) (v1 : Int32) (V : VT) : Option (Int32 × VT) :=
  (gX9_right E n V).bind fun p1 =>
  (gX9_bit p1.1 v1 p1.2).bind fun p2 =>
  if p2.1 = 1 then
  (some (v1, p2.2))
  else
  ((gX5_fruitBits n E.1 v1 p2.2).bind fun p3 =>
  (gX9_cheapestOf E n (p3.1 ||| ((1 : Int32) <<< (v1 &&& 31))) p3.2).bind fun p4 =>
  some (p4.1, p4.2))
set_option maxHeartbeats 1000000 in
theorem smX9_cheapestFor {E : VE} {n : Nat} {v1 : Int32} {V : VT} (hT : E.1 = 6 ∨ E.1 = 15)  : fX9_cheapestFor n 2 v1 (hpV E V) = (gX9_cheapestFor E n v1 V).map (fun p => (p.1, hpV E p.2)) := by
  have hT1 := (cls_T hT).1
  have hT2 := (cls_T hT).2
  unfold fX9_cheapestFor gX9_cheapestFor
  refine sb_some (s_isO rfl) ?_
  refine sb_P (o' := gX9_right E n V) (smX9_right hT) (fun p1 => ?_)
  refine sb_P (o' := gX9_bit p1.1 v1 p1.2) (smX9_bit) (fun p2 => ?_)
  refine sb_ite ?_ ?_
  · rfl
  · refine sb_some (s_gR rfl rfl) ?_
    refine sb_P (o' := gX5_fruitBits n E.1 v1 p2.2) (smX5_fruitBits hT1) (fun p3 => ?_)
    refine sb_P (o' := gX9_cheapestOf E n (p3.1 ||| ((1 : Int32) <<< (v1 &&& 31))) p3.2) (smX9_cheapestOf hT) (fun p4 => ?_)
    rfl
