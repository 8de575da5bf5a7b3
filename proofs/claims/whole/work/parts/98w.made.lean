/-! PURE: the constructors, with the script and without. -/
section PMade
variable {L : Nat} {xs : Nat → Int32} {h : qH}
theorem Mo_X8_init {v0 : Nat} (k : okh h) : Mh L xs (fX8_init v0 h) (fX8_init v0 (ph L xs h)) := by
  unfold fX8_init
  repeat (first | exact Mh_s (by assumption) | refine Mh_v (Mv_isO (by assumption)) (fun _ => ?_) | refine Mh_v (Mv_gR (by assumption)) (fun _ => ?_) | refine Mh_v (Mv_gI (by assumption)) (fun _ => ?_) | refine Mh_v (Mv_aN (by assumption)) (fun _ => ?_) | refine Mh_v (Mv_aI (by assumption)) (fun _ => ?_) | refine Mh_h (Mh_nw (by assumption) (by first | exact okc_r | exact okc_a | exact okc_l | exact okc_n)) (fun _ _ => ?_) | refine Mh_h (Mh_pF (by assumption)) (fun _ _ => ?_) | refine Mh_h (Mh_sI (by assumption)) (fun _ _ => ?_) | refine Mh_h (Mh_sR (by assumption)) (fun _ _ => ?_) | refine Mh_if ?_ ?_)
theorem Mo_X0_init_b15 {n : Nat} : ∀ (w : Nat) (v0 : Nat) (v1 : Int32) (h : qH), okh h → Mh L xs (fX0_init_b15 n w v0 v1 h) (fX0_init_b15 n w v0 v1 (ph L xs h)) := by
  intro w
  induction w with
  | zero =>
    intros
    unfold fX0_init_b15
    exact Mh_no
  | succ w ih =>
    intro v0 v1 h k
    unfold fX0_init_b15
    repeat (first | exact Mh_s (by assumption) | exact ih _ _ _ (by assumption) | refine Mh_v (Mv_isO (by assumption)) (fun _ => ?_) | refine Mh_v (Mv_gR (by assumption)) (fun _ => ?_) | refine Mh_v (Mv_gI (by assumption)) (fun _ => ?_) | refine Mh_v (Mv_aN (by assumption)) (fun _ => ?_) | refine Mh_v (Mv_aI (by assumption)) (fun _ => ?_) | refine Mh_h (Mh_nw (by assumption) (by first | exact okc_r | exact okc_a | exact okc_l | exact okc_n)) (fun _ _ => ?_) | refine Mh_h (Mh_pF (by assumption)) (fun _ _ => ?_) | refine Mh_h (Mh_sI (by assumption)) (fun _ _ => ?_) | refine Mh_h (Mh_sR (by assumption)) (fun _ _ => ?_) | refine Mh_h (Mo_X8_init (by assumption)) (fun _ _ => ?_) | exact Mo_X8_init (by assumption) | refine Mh_if ?_ ?_)
theorem Mo_X0_init {n : Nat} {v0 : Nat} (k : okh h) : Mh L xs (fX0_init n v0 h) (fX0_init n v0 (ph L xs h)) := by
  unfold fX0_init
  repeat (first | exact Mh_s (by assumption) | refine Mh_v (Mv_isO (by assumption)) (fun _ => ?_) | refine Mh_v (Mv_gR (by assumption)) (fun _ => ?_) | refine Mh_v (Mv_gI (by assumption)) (fun _ => ?_) | refine Mh_v (Mv_aN (by assumption)) (fun _ => ?_) | refine Mh_v (Mv_aI (by assumption)) (fun _ => ?_) | refine Mh_h (Mh_nw (by assumption) (by first | exact okc_r | exact okc_a | exact okc_l | exact okc_n)) (fun _ _ => ?_) | refine Mh_h (Mh_pF (by assumption)) (fun _ _ => ?_) | refine Mh_h (Mh_sI (by assumption)) (fun _ _ => ?_) | refine Mh_h (Mh_sR (by assumption)) (fun _ _ => ?_) | refine Mh_h (Mo_X0_init_b15 _ _ _ _ (by assumption)) (fun _ _ => ?_) | exact Mo_X0_init_b15 _ _ _ _ (by assumption) | refine Mh_if ?_ ?_)
theorem Mo_X1_init {v0 : Nat} (k : okh h) : Mh L xs (fX1_init v0 h) (fX1_init v0 (ph L xs h)) := by
  unfold fX1_init
  repeat (first | exact Mh_s (by assumption) | refine Mh_v (Mv_isO (by assumption)) (fun _ => ?_) | refine Mh_v (Mv_gR (by assumption)) (fun _ => ?_) | refine Mh_v (Mv_gI (by assumption)) (fun _ => ?_) | refine Mh_v (Mv_aN (by assumption)) (fun _ => ?_) | refine Mh_v (Mv_aI (by assumption)) (fun _ => ?_) | refine Mh_h (Mh_nw (by assumption) (by first | exact okc_r | exact okc_a | exact okc_l | exact okc_n)) (fun _ _ => ?_) | refine Mh_h (Mh_pF (by assumption)) (fun _ _ => ?_) | refine Mh_h (Mh_sI (by assumption)) (fun _ _ => ?_) | refine Mh_h (Mh_sR (by assumption)) (fun _ _ => ?_) | refine Mh_if ?_ ?_)
theorem Mo_X2_init {v0 : Nat} (k : okh h) : Mh L xs (fX2_init v0 h) (fX2_init v0 (ph L xs h)) := by
  unfold fX2_init
  repeat (first | exact Mh_s (by assumption) | refine Mh_v (Mv_isO (by assumption)) (fun _ => ?_) | refine Mh_v (Mv_gR (by assumption)) (fun _ => ?_) | refine Mh_v (Mv_gI (by assumption)) (fun _ => ?_) | refine Mh_v (Mv_aN (by assumption)) (fun _ => ?_) | refine Mh_v (Mv_aI (by assumption)) (fun _ => ?_) | refine Mh_h (Mh_nw (by assumption) (by first | exact okc_r | exact okc_a | exact okc_l | exact okc_n)) (fun _ _ => ?_) | refine Mh_h (Mh_pF (by assumption)) (fun _ _ => ?_) | refine Mh_h (Mh_sI (by assumption)) (fun _ _ => ?_) | refine Mh_h (Mh_sR (by assumption)) (fun _ _ => ?_) | refine Mh_if ?_ ?_)
theorem Mo_X7_init {v0 : Nat} (k : okh h) : Mh L xs (fX7_init v0 h) (fX7_init v0 (ph L xs h)) := by
  unfold fX7_init
  repeat (first | exact Mh_s (by assumption) | refine Mh_v (Mv_isO (by assumption)) (fun _ => ?_) | refine Mh_v (Mv_gR (by assumption)) (fun _ => ?_) | refine Mh_v (Mv_gI (by assumption)) (fun _ => ?_) | refine Mh_v (Mv_aN (by assumption)) (fun _ => ?_) | refine Mh_v (Mv_aI (by assumption)) (fun _ => ?_) | refine Mh_h (Mh_nw (by assumption) (by first | exact okc_r | exact okc_a | exact okc_l | exact okc_n)) (fun _ _ => ?_) | refine Mh_h (Mh_pF (by assumption)) (fun _ _ => ?_) | refine Mh_h (Mh_sI (by assumption)) (fun _ _ => ?_) | refine Mh_h (Mh_sR (by assumption)) (fun _ _ => ?_) | refine Mh_if ?_ ?_)
theorem Mo_X3_init {v0 : Nat} (k : okh h) : Mh L xs (fX3_init v0 h) (fX3_init v0 (ph L xs h)) := by
  unfold fX3_init
  repeat (first | exact Mh_s (by assumption) | refine Mh_v (Mv_isO (by assumption)) (fun _ => ?_) | refine Mh_v (Mv_gR (by assumption)) (fun _ => ?_) | refine Mh_v (Mv_gI (by assumption)) (fun _ => ?_) | refine Mh_v (Mv_aN (by assumption)) (fun _ => ?_) | refine Mh_v (Mv_aI (by assumption)) (fun _ => ?_) | refine Mh_h (Mh_nw (by assumption) (by first | exact okc_r | exact okc_a | exact okc_l | exact okc_n)) (fun _ _ => ?_) | refine Mh_h (Mh_pF (by assumption)) (fun _ _ => ?_) | refine Mh_h (Mh_sI (by assumption)) (fun _ _ => ?_) | refine Mh_h (Mh_sR (by assumption)) (fun _ _ => ?_) | refine Mh_h (Mo_X8_init (by assumption)) (fun _ _ => ?_) | refine Mh_h (Mo_X2_init (by assumption)) (fun _ _ => ?_) | refine Mh_h (Mo_X7_init (by assumption)) (fun _ _ => ?_) | exact Mo_X8_init (by assumption) | exact Mo_X2_init (by assumption) | exact Mo_X7_init (by assumption) | refine Mh_if ?_ ?_)
theorem Mo_X4_init {v0 : Nat} {v1 : Nat} (k : okh h) : Mh L xs (fX4_init v0 v1 h) (fX4_init v0 v1 (ph L xs h)) := by
  unfold fX4_init
  repeat (first | exact Mh_s (by assumption) | refine Mh_v (Mv_isO (by assumption)) (fun _ => ?_) | refine Mh_v (Mv_gR (by assumption)) (fun _ => ?_) | refine Mh_v (Mv_gI (by assumption)) (fun _ => ?_) | refine Mh_v (Mv_aN (by assumption)) (fun _ => ?_) | refine Mh_v (Mv_aI (by assumption)) (fun _ => ?_) | refine Mh_h (Mh_nw (by assumption) (by first | exact okc_r | exact okc_a | exact okc_l | exact okc_n)) (fun _ _ => ?_) | refine Mh_h (Mh_pF (by assumption)) (fun _ _ => ?_) | refine Mh_h (Mh_sI (by assumption)) (fun _ _ => ?_) | refine Mh_h (Mh_sR (by assumption)) (fun _ _ => ?_) | refine Mh_if ?_ ?_)
theorem Mo_X5_init {v0 : Nat} (k : okh h) : Mh L xs (fX5_init v0 h) (fX5_init v0 (ph L xs h)) := by
  unfold fX5_init
  repeat (first | exact Mh_s (by assumption) | refine Mh_v (Mv_isO (by assumption)) (fun _ => ?_) | refine Mh_v (Mv_gR (by assumption)) (fun _ => ?_) | refine Mh_v (Mv_gI (by assumption)) (fun _ => ?_) | refine Mh_v (Mv_aN (by assumption)) (fun _ => ?_) | refine Mh_v (Mv_aI (by assumption)) (fun _ => ?_) | refine Mh_h (Mh_nw (by assumption) (by first | exact okc_r | exact okc_a | exact okc_l | exact okc_n)) (fun _ _ => ?_) | refine Mh_h (Mh_pF (by assumption)) (fun _ _ => ?_) | refine Mh_h (Mh_sI (by assumption)) (fun _ _ => ?_) | refine Mh_h (Mh_sR (by assumption)) (fun _ _ => ?_) | refine Mh_h (Mo_X1_init (by assumption)) (fun _ _ => ?_) | exact Mo_X1_init (by assumption) | refine Mh_if ?_ ?_)
theorem Mo_X6_init {v0 : Nat} (k : okh h) : Mh L xs (fX6_init v0 h) (fX6_init v0 (ph L xs h)) := by
  unfold fX6_init
  repeat (first | exact Mh_s (by assumption) | refine Mh_v (Mv_isO (by assumption)) (fun _ => ?_) | refine Mh_v (Mv_gR (by assumption)) (fun _ => ?_) | refine Mh_v (Mv_gI (by assumption)) (fun _ => ?_) | refine Mh_v (Mv_aN (by assumption)) (fun _ => ?_) | refine Mh_v (Mv_aI (by assumption)) (fun _ => ?_) | refine Mh_h (Mh_nw (by assumption) (by first | exact okc_r | exact okc_a | exact okc_l | exact okc_n)) (fun _ _ => ?_) | refine Mh_h (Mh_pF (by assumption)) (fun _ _ => ?_) | refine Mh_h (Mh_sI (by assumption)) (fun _ _ => ?_) | refine Mh_h (Mh_sR (by assumption)) (fun _ _ => ?_) | refine Mh_if ?_ ?_)
theorem Mo_X1_clear {v0 : Nat} (k : okh h) : Mh L xs (fX1_clear v0 h) (fX1_clear v0 (ph L xs h)) := by
  unfold fX1_clear
  repeat (first | exact Mh_s (by assumption) | refine Mh_v (Mv_isO (by assumption)) (fun _ => ?_) | refine Mh_v (Mv_gR (by assumption)) (fun _ => ?_) | refine Mh_v (Mv_gI (by assumption)) (fun _ => ?_) | refine Mh_v (Mv_aN (by assumption)) (fun _ => ?_) | refine Mh_v (Mv_aI (by assumption)) (fun _ => ?_) | refine Mh_h (Mh_nw (by assumption) (by first | exact okc_r | exact okc_a | exact okc_l | exact okc_n)) (fun _ _ => ?_) | refine Mh_h (Mh_pF (by assumption)) (fun _ _ => ?_) | refine Mh_h (Mh_sI (by assumption)) (fun _ _ => ?_) | refine Mh_h (Mh_sR (by assumption)) (fun _ _ => ?_) | refine Mh_if ?_ ?_)
theorem Mo_X1_add {v0 : Nat} {v1 : Int32} (k : okh h) : Mh L xs (fX1_add v0 v1 h) (fX1_add v0 v1 (ph L xs h)) := by
  unfold fX1_add
  repeat (first | exact Mh_s (by assumption) | refine Mh_v (Mv_isO (by assumption)) (fun _ => ?_) | refine Mh_v (Mv_gR (by assumption)) (fun _ => ?_) | refine Mh_v (Mv_gI (by assumption)) (fun _ => ?_) | refine Mh_v (Mv_aN (by assumption)) (fun _ => ?_) | refine Mh_v (Mv_aI (by assumption)) (fun _ => ?_) | refine Mh_h (Mh_nw (by assumption) (by first | exact okc_r | exact okc_a | exact okc_l | exact okc_n)) (fun _ _ => ?_) | refine Mh_h (Mh_pF (by assumption)) (fun _ _ => ?_) | refine Mh_h (Mh_sI (by assumption)) (fun _ _ => ?_) | refine Mh_h (Mh_sR (by assumption)) (fun _ _ => ?_) | refine Mh_if ?_ ?_)
theorem Mo_X5_clear {v0 : Nat} (k : okh h) : Mh L xs (fX5_clear v0 h) (fX5_clear v0 (ph L xs h)) := by
  unfold fX5_clear
  repeat (first | exact Mh_s (by assumption) | refine Mh_v (Mv_isO (by assumption)) (fun _ => ?_) | refine Mh_v (Mv_gR (by assumption)) (fun _ => ?_) | refine Mh_v (Mv_gI (by assumption)) (fun _ => ?_) | refine Mh_v (Mv_aN (by assumption)) (fun _ => ?_) | refine Mh_v (Mv_aI (by assumption)) (fun _ => ?_) | refine Mh_h (Mh_nw (by assumption) (by first | exact okc_r | exact okc_a | exact okc_l | exact okc_n)) (fun _ _ => ?_) | refine Mh_h (Mh_pF (by assumption)) (fun _ _ => ?_) | refine Mh_h (Mh_sI (by assumption)) (fun _ _ => ?_) | refine Mh_h (Mh_sR (by assumption)) (fun _ _ => ?_) | refine Mh_h (Mo_X1_clear (by assumption)) (fun _ _ => ?_) | refine Mh_h (Mo_X1_add (by assumption)) (fun _ _ => ?_) | exact Mo_X1_clear (by assumption) | exact Mo_X1_add (by assumption) | refine Mh_if ?_ ?_)
theorem Mo_X8_begin_b2 {n : Nat} : ∀ (w : Nat) (v0 : Nat) (v1 : Nat) (v2 : Int32) (h : qH), okh h → Mh L xs (fX8_begin_b2 n w v0 v1 v2 h) (fX8_begin_b2 n w v0 v1 v2 (ph L xs h)) := by
  intro w
  induction w with
  | zero =>
    intros
    unfold fX8_begin_b2
    exact Mh_no
  | succ w ih =>
    intro v0 v1 v2 h k
    unfold fX8_begin_b2
    repeat (first | exact Mh_s (by assumption) | exact ih _ _ _ _ (by assumption) | refine Mh_v (Mv_isO (by assumption)) (fun _ => ?_) | refine Mh_v (Mv_gR (by assumption)) (fun _ => ?_) | refine Mh_v (Mv_gI (by assumption)) (fun _ => ?_) | refine Mh_v (Mv_aN (by assumption)) (fun _ => ?_) | refine Mh_v (Mv_aI (by assumption)) (fun _ => ?_) | refine Mh_h (Mh_nw (by assumption) (by first | exact okc_r | exact okc_a | exact okc_l | exact okc_n)) (fun _ _ => ?_) | refine Mh_h (Mh_pF (by assumption)) (fun _ _ => ?_) | refine Mh_h (Mh_sI (by assumption)) (fun _ _ => ?_) | refine Mh_h (Mh_sR (by assumption)) (fun _ _ => ?_) | refine Mh_if ?_ ?_)
theorem Mo_X8_begin {n : Nat} {v0 : Nat} {v1 : Nat} (k : okh h) : Mh L xs (fX8_begin n v0 v1 h) (fX8_begin n v0 v1 (ph L xs h)) := by
  unfold fX8_begin
  repeat (first | exact Mh_s (by assumption) | refine Mh_v (Mv_isO (by assumption)) (fun _ => ?_) | refine Mh_v (Mv_gR (by assumption)) (fun _ => ?_) | refine Mh_v (Mv_gI (by assumption)) (fun _ => ?_) | refine Mh_v (Mv_aN (by assumption)) (fun _ => ?_) | refine Mh_v (Mv_aI (by assumption)) (fun _ => ?_) | refine Mh_h (Mh_nw (by assumption) (by first | exact okc_r | exact okc_a | exact okc_l | exact okc_n)) (fun _ _ => ?_) | refine Mh_h (Mh_pF (by assumption)) (fun _ _ => ?_) | refine Mh_h (Mh_sI (by assumption)) (fun _ _ => ?_) | refine Mh_h (Mh_sR (by assumption)) (fun _ _ => ?_) | refine Mh_h (Mo_X8_begin_b2 _ _ _ _ _ (by assumption)) (fun _ _ => ?_) | exact Mo_X8_begin_b2 _ _ _ _ _ (by assumption) | refine Mh_if ?_ ?_)
theorem Mo_X9_init_b144 {n : Nat} : ∀ (w : Nat) (v0 : Nat) (v1 : Int32) (h : qH), okh h → Mh L xs (fX9_init_b144 n w v0 v1 h) (fX9_init_b144 n w v0 v1 (ph L xs h)) := by
  intro w
  induction w with
  | zero =>
    intros
    unfold fX9_init_b144
    exact Mh_no
  | succ w ih =>
    intro v0 v1 h k
    unfold fX9_init_b144
    repeat (first | exact Mh_s (by assumption) | exact ih _ _ _ (by assumption) | refine Mh_v (Mv_isO (by assumption)) (fun _ => ?_) | refine Mh_v (Mv_gR (by assumption)) (fun _ => ?_) | refine Mh_v (Mv_gI (by assumption)) (fun _ => ?_) | refine Mh_v (Mv_aN (by assumption)) (fun _ => ?_) | refine Mh_v (Mv_aI (by assumption)) (fun _ => ?_) | refine Mh_h (Mh_nw (by assumption) (by first | exact okc_r | exact okc_a | exact okc_l | exact okc_n)) (fun _ _ => ?_) | refine Mh_h (Mh_pF (by assumption)) (fun _ _ => ?_) | refine Mh_h (Mh_sI (by assumption)) (fun _ _ => ?_) | refine Mh_h (Mh_sR (by assumption)) (fun _ _ => ?_) | refine Mh_h (Mo_X3_init (by assumption)) (fun _ _ => ?_) | refine Mh_h (Mo_X5_clear (by assumption)) (fun _ _ => ?_) | refine Mh_h (Mo_X8_begin (by assumption)) (fun _ _ => ?_) | exact Mo_X3_init (by assumption) | exact Mo_X5_clear (by assumption) | exact Mo_X8_begin (by assumption) | refine Mh_if ?_ ?_)
theorem Mo_X9_init {n : Nat} {v0 : Nat} (k : okh h) : Mh L xs (fX9_init n v0 h) (fX9_init n v0 (ph L xs h)) := by
  unfold fX9_init
  repeat (first | exact Mh_s (by assumption) | refine Mh_v (Mv_isO (by assumption)) (fun _ => ?_) | refine Mh_v (Mv_gR (by assumption)) (fun _ => ?_) | refine Mh_v (Mv_gI (by assumption)) (fun _ => ?_) | refine Mh_v (Mv_aN (by assumption)) (fun _ => ?_) | refine Mh_v (Mv_aI (by assumption)) (fun _ => ?_) | refine Mh_h (Mh_nw (by assumption) (by first | exact okc_r | exact okc_a | exact okc_l | exact okc_n)) (fun _ _ => ?_) | refine Mh_h (Mh_pF (by assumption)) (fun _ _ => ?_) | refine Mh_h (Mh_sI (by assumption)) (fun _ _ => ?_) | refine Mh_h (Mh_sR (by assumption)) (fun _ _ => ?_) | refine Mh_h (Mo_X6_init (by assumption)) (fun _ _ => ?_) | refine Mh_h (Mo_X4_init (by assumption)) (fun _ _ => ?_) | refine Mh_h (Mo_X5_init (by assumption)) (fun _ _ => ?_) | refine Mh_h (Mo_X8_init (by assumption)) (fun _ _ => ?_) | refine Mh_h (Mo_X0_init (by assumption)) (fun _ _ => ?_) | refine Mh_h (Mo_X2_init (by assumption)) (fun _ _ => ?_) | refine Mh_h (Mo_X7_init (by assumption)) (fun _ _ => ?_) | refine Mh_h (Mo_X9_init_b144 _ _ _ _ (by assumption)) (fun _ _ => ?_) | exact Mo_X6_init (by assumption) | exact Mo_X4_init (by assumption) | exact Mo_X5_init (by assumption) | exact Mo_X8_init (by assumption) | exact Mo_X0_init (by assumption) | exact Mo_X2_init (by assumption) | exact Mo_X7_init (by assumption) | exact Mo_X9_init_b144 _ _ _ _ (by assumption) | refine Mh_if ?_ ?_)
theorem Mo_X10_usual {v0 : Nat} {v1 : Int32} (k : okh h) : Mh L xs (fX10_usual v0 v1 h) (fX10_usual v0 v1 (ph L xs h)) := by
  unfold fX10_usual
  repeat (first | exact Mh_s (by assumption) | refine Mh_v (Mv_isO (by assumption)) (fun _ => ?_) | refine Mh_v (Mv_gR (by assumption)) (fun _ => ?_) | refine Mh_v (Mv_gI (by assumption)) (fun _ => ?_) | refine Mh_v (Mv_aN (by assumption)) (fun _ => ?_) | refine Mh_v (Mv_aI (by assumption)) (fun _ => ?_) | refine Mh_h (Mh_nw (by assumption) (by first | exact okc_r | exact okc_a | exact okc_l | exact okc_n)) (fun _ _ => ?_) | refine Mh_h (Mh_pF (by assumption)) (fun _ _ => ?_) | refine Mh_h (Mh_sI (by assumption)) (fun _ _ => ?_) | refine Mh_h (Mh_sR (by assumption)) (fun _ _ => ?_) | refine Mh_if ?_ ?_)
theorem Mo_X10_fresh0_b35 {n : Nat} : ∀ (w : Nat) (v0 : Nat) (v1 : Int32) (h : qH), okh h → Mh L xs (fX10_fresh0_b35 n w v0 v1 h) (fX10_fresh0_b35 n w v0 v1 (ph L xs h)) := by
  intro w
  induction w with
  | zero =>
    intros
    unfold fX10_fresh0_b35
    exact Mh_no
  | succ w ih =>
    intro v0 v1 h k
    unfold fX10_fresh0_b35
    repeat (first | exact Mh_s (by assumption) | exact ih _ _ _ (by assumption) | refine Mh_v (Mv_isO (by assumption)) (fun _ => ?_) | refine Mh_v (Mv_gR (by assumption)) (fun _ => ?_) | refine Mh_v (Mv_gI (by assumption)) (fun _ => ?_) | refine Mh_v (Mv_aN (by assumption)) (fun _ => ?_) | refine Mh_v (Mv_aI (by assumption)) (fun _ => ?_) | refine Mh_h (Mh_nw (by assumption) (by first | exact okc_r | exact okc_a | exact okc_l | exact okc_n)) (fun _ _ => ?_) | refine Mh_h (Mh_pF (by assumption)) (fun _ _ => ?_) | refine Mh_h (Mh_sI (by assumption)) (fun _ _ => ?_) | refine Mh_h (Mh_sR (by assumption)) (fun _ _ => ?_) | refine Mh_if ?_ ?_)
theorem Mo_X10_fresh0_b2 {n : Nat} : ∀ (w : Nat) (v0 : Nat) (v1 : Int32) (h : qH), okh h → Mh L xs (fX10_fresh0_b2 n w v0 v1 h) (fX10_fresh0_b2 n w v0 v1 (ph L xs h)) := by
  intro w
  induction w with
  | zero =>
    intros
    unfold fX10_fresh0_b2
    exact Mh_no
  | succ w ih =>
    intro v0 v1 h k
    unfold fX10_fresh0_b2
    repeat (first | exact Mh_s (by assumption) | exact ih _ _ _ (by assumption) | refine Mh_v (Mv_isO (by assumption)) (fun _ => ?_) | refine Mh_v (Mv_gR (by assumption)) (fun _ => ?_) | refine Mh_v (Mv_gI (by assumption)) (fun _ => ?_) | refine Mh_v (Mv_aN (by assumption)) (fun _ => ?_) | refine Mh_v (Mv_aI (by assumption)) (fun _ => ?_) | refine Mh_h (Mh_nw (by assumption) (by first | exact okc_r | exact okc_a | exact okc_l | exact okc_n)) (fun _ _ => ?_) | refine Mh_h (Mh_pF (by assumption)) (fun _ _ => ?_) | refine Mh_h (Mh_sI (by assumption)) (fun _ _ => ?_) | refine Mh_h (Mh_sR (by assumption)) (fun _ _ => ?_) | refine Mh_h (Mo_X10_fresh0_b35 _ _ _ _ (by assumption)) (fun _ _ => ?_) | exact Mo_X10_fresh0_b35 _ _ _ _ (by assumption) | refine Mh_if ?_ ?_)
theorem Mo_X10_fresh0 {n : Nat} {v0 : Nat} (k : okh h) : Mh L xs (fX10_fresh0 n v0 h) (fX10_fresh0 n v0 (ph L xs h)) := by
  unfold fX10_fresh0
  repeat (first | exact Mh_s (by assumption) | refine Mh_v (Mv_isO (by assumption)) (fun _ => ?_) | refine Mh_v (Mv_gR (by assumption)) (fun _ => ?_) | refine Mh_v (Mv_gI (by assumption)) (fun _ => ?_) | refine Mh_v (Mv_aN (by assumption)) (fun _ => ?_) | refine Mh_v (Mv_aI (by assumption)) (fun _ => ?_) | refine Mh_h (Mh_nw (by assumption) (by first | exact okc_r | exact okc_a | exact okc_l | exact okc_n)) (fun _ _ => ?_) | refine Mh_h (Mh_pF (by assumption)) (fun _ _ => ?_) | refine Mh_h (Mh_sI (by assumption)) (fun _ _ => ?_) | refine Mh_h (Mh_sR (by assumption)) (fun _ _ => ?_) | refine Mh_h (Mo_X10_fresh0_b2 _ _ _ _ (by assumption)) (fun _ _ => ?_) | exact Mo_X10_fresh0_b2 _ _ _ _ (by assumption) | refine Mh_if ?_ ?_)
theorem Mo_X10_init {n : Nat} {v0 : Nat} (k : okh h) : Mh L xs (fX10_init n v0 h) (fX10_init n v0 (ph L xs h)) := by
  unfold fX10_init
  repeat (first | exact Mh_s (by assumption) | refine Mh_v (Mv_isO (by assumption)) (fun _ => ?_) | refine Mh_v (Mv_gR (by assumption)) (fun _ => ?_) | refine Mh_v (Mv_gI (by assumption)) (fun _ => ?_) | refine Mh_v (Mv_aN (by assumption)) (fun _ => ?_) | refine Mh_v (Mv_aI (by assumption)) (fun _ => ?_) | refine Mh_h (Mh_nw (by assumption) (by first | exact okc_r | exact okc_a | exact okc_l | exact okc_n)) (fun _ _ => ?_) | refine Mh_h (Mh_pF (by assumption)) (fun _ _ => ?_) | refine Mh_h (Mh_sI (by assumption)) (fun _ _ => ?_) | refine Mh_h (Mh_sR (by assumption)) (fun _ _ => ?_) | refine Mh_h (Mo_X10_usual (by assumption)) (fun _ _ => ?_) | refine Mh_h (Mo_X10_fresh0 (by assumption)) (fun _ _ => ?_) | exact Mo_X10_usual (by assumption) | exact Mo_X10_fresh0 (by assumption) | refine Mh_if ?_ ?_)
end PMade
