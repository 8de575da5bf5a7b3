/-! PURE: the model's reckoning of a law, as a machine of its own. -/
abbrev MX : Type := Nat → Nat → Int32
def up2 (X : MX) (a d : Nat) (x : Int32) : MX := fun i j => if i = a ∧ j = d then x else X i j
def opX (d : Nat) (X : MX) : MX := up2 (up2 (up2 (up2 (up2 X 151 d 0) 153 d 0) 154 d 0) 155 d 20) 157 d 0
def suX (d : Nat) (X : MX) : MX := up2 (up2 X 154 d (if X 155 d = 21 then X 154 d - X 156 d else X 154 d + X 156 d)) 157 d 0
/-- what a test is worth: the sum is done -/
def tvX (d : Nat) (X : MX) : Int32 :=
  let v := X 154 d
  let v := if X 153 d = 24 then (if X 154 d ≤ X 152 d then 0 else 1) else v
  let v := if X 153 d = 25 then (if X 152 d = X 154 d then 1 else 0) else v
  let v := if X 151 d = 26 then (if X 150 d = 0 then 0 else if v = 0 then 0 else 1) else v
  if X 151 d = 27 then (if X 150 d = 0 then (if v = 0 then 0 else 1) else 1) else v
def teX (d : Nat) (X : MX) : MX := up2 (up2 (up2 (up2 (suX d X) 150 d (tvX d (suX d X))) 153 d 0) 154 d 0) 155 d 20
/-- out of the nots -/
def ntX (X : MX) : Nat → Int32 → Nat × Int32
  | 0, v => (0, v)
  | d + 1, v => if X 158 (d + 1) = 1 then ntX X d (if v = 0 then 1 else 0) else (d + 1, v)
def vaX (d : Nat) (v : Int32) (X : MX) : Nat × MX := ((ntX X d v).1, up2 X 156 (ntX X d v).1 (if X 157 (ntX X d v).1 = 0 then (ntX X d v).2 else X 156 (ntX X d v).1 * (ntX X d v).2))
/-- one code -/
def mst (vl : Nat → Int32) (c : Nat) (s : Nat × MX) : Option (Nat × MX) :=
  if c = 28 ∨ c = 30 then (if s.1 < 6 then some (s.1 + 1, opX (s.1 + 1) (up2 s.2 158 (s.1 + 1) (if c = 30 then 1 else 0))) else none)
  else if c = 20 ∨ c = 21 then some (s.1, up2 (suX s.1 s.2) 155 s.1 (nI c))
  else if c = 22 then some (s.1, up2 s.2 157 s.1 (nI c))
  else if c = 24 ∨ c = 25 then some (s.1, up2 (up2 (up2 (up2 (suX s.1 s.2) 152 s.1 (suX s.1 s.2 154 s.1)) 153 s.1 (nI c)) 154 s.1 0) 155 s.1 20)
  else if c = 26 ∨ c = 27 then some (s.1, up2 (teX s.1 s.2) 151 s.1 (nI c))
  else if c = 29 then (if 0 < s.1 then some (vaX (s.1 - 1) (teX s.1 s.2 150 s.1) (teX s.1 s.2)) else none)
  else some (vaX s.1 (if c < 100 then (if 20 ≤ c then 0 else vl c) else nI (c - 100)) s.2)
def mrun (vl : Nat → Int32) : List Nat → Nat × MX → Option (Nat × MX)
  | [], s => some s
  | c :: cs, s => (mst vl c s).bind (mrun vl cs)
/-- the model's arrays hold X -/
def isX (V : VT) (X : MX) : Prop := ∀ a d, 150 ≤ a → a ≤ 158 → d < 7 → V.A a d = X a d
def wkA (a : Nat) : Prop := 150 ≤ a ∧ a ≤ 158
def nof (_ _ : Nat) : Prop := False
theorem isX.up {V : VT} {X : MX} {a d : Nat} (h : isX V X) (x : Int32) : isX (wA V a d x) (up2 X a d x) := by
  intro i j h1 h2 h3
  rw [wA_A]
  unfold up2
  rw [h i j h1 h2 h3]
theorem w_fr {V : VT} {a : Nat} (d : Nat) (x : Int32) (h : 150 ≤ a ∧ a ≤ 158) : fr wkA nof V (wA V a d x) := fr_A _ _ h
section PWorked
variable {V : VT} {X : MX} {d : Nat}
theorem w_opens (h : isX V X) (hd : d < 7) : tot (gX10_opens (nI d) V) (fun W => isX W (opX d X) ∧ fr wkA nof V W) := by
  unfold gX10_opens
  simp (disch := omega) only [fa_lit, ne_le, ne_lt, ne_eq', nI_add, pk_mul, pk_sub, rdA_n, wrA_n, rdL_n, wrL_n, nI_one, nI_bit1, nI_bit0, fa_or, fa_and, nI_df, nat31, Option.bind_some, m1_le0, m1_lt0, m1_eq, eq_m1, ite_nI, sub_m, pk_m1', not_lt0]
  exact tot_some ⟨((((h.up _).up _).up _).up _).up _, ((((w_fr _ _ (by omega)).trans (w_fr _ _ (by omega))).trans (w_fr _ _ (by omega))).trans (w_fr _ _ (by omega))).trans (w_fr _ _ (by omega))⟩
theorem w_sums (h : isX V X) (hd : d < 7) : tot (gX10_sums (nI d) V) (fun W => isX W (suX d X) ∧ fr wkA nof V W) := by
  unfold gX10_sums gX10_sums_b45 suX
  simp (disch := omega) only [fa_lit, ne_le, ne_lt, ne_eq', nI_add, pk_mul, pk_sub, rdA_n, wrA_n, rdL_n, wrL_n, nI_one, nI_bit1, nI_bit0, fa_or, fa_and, nI_df, nat31, Option.bind_some, m1_le0, m1_lt0, m1_eq, eq_m1, ite_nI, sub_m, pk_m1', not_lt0]
  rw [h 155 d (by omega) (by omega) hd, h 154 d (by omega) (by omega) hd, h 156 d (by omega) (by omega) hd]
  split
  · exact tot_some ⟨(h.up _).up _, (w_fr _ _ (by omega)).trans (w_fr _ _ (by omega))⟩
  · exact tot_some ⟨(h.up _).up _, (w_fr _ _ (by omega)).trans (w_fr _ _ (by omega))⟩
theorem w_tests (h : isX V X) (hd : d < 7) : tot (gX10_tests (nI d) V) (fun W => isX W (teX d X) ∧ fr wkA nof V W) := by
  unfold gX10_tests
  refine tot_bd (w_sums h hd) (fun W hW => ?_)
  obtain ⟨h1, h2⟩ := hW
  have e0 := h1 150 d (by omega) (by omega) hd
  have e1 := h1 151 d (by omega) (by omega) hd
  have e2 := h1 152 d (by omega) (by omega) hd
  have e3 := h1 153 d (by omega) (by omega) hd
  have e4 := h1 154 d (by omega) (by omega) hd
  have last : ∀ v : Int32, v = tvX d (suX d X) → tot (gX10_tests_b136 (nI d) v W) (fun W => isX W (teX d X) ∧ fr wkA nof V W) := by
    intro v hv
    subst hv
    unfold gX10_tests_b136
    simp (disch := omega) only [fa_lit, ne_le, ne_lt, ne_eq', nI_add, pk_mul, pk_sub, rdA_n, wrA_n, rdL_n, wrL_n, nI_one, nI_bit1, nI_bit0, fa_or, fa_and, nI_df, nat31, Option.bind_some, m1_le0, m1_lt0, m1_eq, eq_m1, ite_nI, sub_m, pk_m1', not_lt0]
    exact tot_some ⟨(((h1.up _).up _).up _).up _, h2.trans ((((w_fr _ _ (by omega)).trans (w_fr _ _ (by omega))).trans (w_fr _ _ (by omega))).trans (w_fr _ _ (by omega)))⟩
  have l106 : ∀ v : Int32, (if suX d X 151 d = 27 then (if suX d X 150 d = 0 then (if v = 0 then 0 else 1) else 1) else v) = tvX d (suX d X) → tot (gX10_tests_b106 (nI d) v W) (fun W => isX W (teX d X) ∧ fr wkA nof V W) := by
    intro v hv
    unfold gX10_tests_b106 gX10_tests_b135 gX10_tests_b130 gX10_tests_b135
    rw [rdA_n (by omega) (by omega), rdA_n (by omega) (by omega), Option.bind_some, Option.bind_some, e1, e0]
    revert hv
    split
    · split
      · split
        · exact fun hv => last _ hv
        · exact fun hv => last _ hv
      · exact fun hv => last _ hv
    · exact fun hv => last _ hv
  have l76 : ∀ v : Int32, (let v := (if suX d X 151 d = 26 then (if suX d X 150 d = 0 then 0 else if v = 0 then 0 else 1) else v); if suX d X 151 d = 27 then (if suX d X 150 d = 0 then (if v = 0 then 0 else 1) else 1) else v) = tvX d (suX d X) → tot (gX10_tests_b76 (nI d) v W) (fun W => isX W (teX d X) ∧ fr wkA nof V W) := by
    intro v hv
    unfold gX10_tests_b76 gX10_tests_b104 gX10_tests_b105
    rw [rdA_n (by omega) (by omega), rdA_n (by omega) (by omega), Option.bind_some, Option.bind_some, e1, e0]
    dsimp only at hv
    by_cases c1 : suX d X 151 d = 26
    · rw [if_pos c1]
      by_cases c2 : suX d X 150 d = 0
      · rw [if_pos c2]
        refine l106 _ ?_
        rw [← hv]
        simp [c1, c2]
      · rw [if_neg c2]
        by_cases c3 : v = 0
        · rw [if_pos c3]
          refine l106 _ ?_
          rw [← hv]
          simp [c1, c2, c3]
        · rw [if_neg c3]
          refine l106 _ ?_
          rw [← hv]
          simp [c1, c2, c3]
    · rw [if_neg c1]
      refine l106 _ ?_
      rw [← hv]
      simp [c1]
  have l44 : ∀ v : Int32, (let v := if suX d X 153 d = 25 then (if suX d X 152 d = suX d X 154 d then 1 else 0) else v; let v := (if suX d X 151 d = 26 then (if suX d X 150 d = 0 then 0 else if v = 0 then 0 else 1) else v); if suX d X 151 d = 27 then (if suX d X 150 d = 0 then (if v = 0 then 0 else 1) else 1) else v) = tvX d (suX d X) → tot (gX10_tests_b44 (nI d) v W) (fun W => isX W (teX d X) ∧ fr wkA nof V W) := by
    intro v hv
    unfold gX10_tests_b44 gX10_tests_b75
    rw [rdA_n (by omega) (by omega), rdA_n (by omega) (by omega), rdA_n (by omega) (by omega), Option.bind_some, Option.bind_some, Option.bind_some, e3, e2, e4]
    dsimp only at hv
    by_cases c1 : suX d X 153 d = 25
    · rw [if_pos c1] at hv ⊢
      by_cases c2 : suX d X 152 d = suX d X 154 d
      · rw [if_pos c2] at hv ⊢
        exact l76 _ hv
      · rw [if_neg c2] at hv ⊢
        exact l76 _ hv
    · rw [if_neg c1] at hv ⊢
      exact l76 _ hv
  rw [rdA_n (by omega) (by omega), rdA_n (by omega) (by omega), rdA_n (by omega) (by omega), Option.bind_some, Option.bind_some, Option.bind_some, Option.bind_some, e3, e2, e4]
  unfold gX10_tests_b43
  by_cases c1 : suX d X 153 d = 24
  · rw [if_pos c1]
    by_cases c2 : suX d X 154 d ≤ suX d X 152 d
    · rw [if_pos c2]
      refine l44 _ ?_
      unfold tvX
      dsimp only
      rw [if_pos c1, if_pos c2]
    · rw [if_neg c2]
      refine l44 _ ?_
      unfold tvX
      dsimp only
      rw [if_pos c1, if_neg c2]
  · rw [if_neg c1]
    refine l44 _ ?_
    unfold tvX
    dsimp only
    rw [if_neg c1]
end PWorked
