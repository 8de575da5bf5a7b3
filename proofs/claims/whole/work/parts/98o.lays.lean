/-! PURE: a PAST that was read becomes the PAST. -/
section PLays
variable {V W : VT} {p : PP} {N : Nat}
theorem m_shift {a k n : Nat} (h2 : 2 * k ≤ n) (hn : n ≤ 2000) (hN : 2000 < N) : tot (gX10_shifts N a n (nI k) V) (fun W => (∀ j, W.A a j = if j < k then V.A a (k + j) else V.A a j) ∧ fr (fun i => i = a) nof V W) := by
  unfold gX10_shifts
  refine loop_T (F := fun w (_ : Unit) j V => gX10_shifts_b2 N w a n (nI k) (nI j) V) k (fun i _ W => (∀ j, W.A a j = if j < i then V.A a (k + j) else V.A a j) ∧ fr (fun i => i = a) nof V W) ?_ ?_ N 0 () V (by omega) (by omega) ⟨fun j => by rw [if_neg (by omega)], fr.rf⟩
  · intro w i _ W hi hI hK
    obtain ⟨i1, i2⟩ := hI
    show tot (gX10_shifts_b2 N (w + 1) a n (nI k) (nI i) W) _
    unfold gX10_shifts_b2
    try simp (disch := omega) only [fa_lit, ne_le, ne_lt, ne_eq', nI_add, pk_mul, pk_sub, rdA_n, wrA_n, rdL_n, wrL_n, nI_one, nI_bit1, nI_bit0, fa_or, fa_and, nI_df, nat31, Option.bind_some, m1_le0, m1_lt0, m1_eq, eq_m1, ite_nI, sub_m, pk_m1', not_lt0]
    rw [if_neg (by omega)]
    refine hK () _ ⟨fun j => ?_, i2.trans (fr_A _ _ rfl)⟩
    have r1 := i1 (k + i)
    rw [if_neg (by omega)] at r1
    by_cases e : j = i
    · subst e
      try simp (disch := omega) only [wA_A, wF_F, wA_F, wF_A, wA_L, wF_L, wA_G, wF_G, true_and, and_true, and_self, if_true, if_false, if_pos, if_neg]
      exact r1
    · have r2 := i1 j
      rw [wA_A, if_neg (fun q => e q.2), r2]
      by_cases e2 : j < i
      · rw [if_pos e2, if_pos (by omega)]
      · rw [if_neg e2, if_neg (by omega)]
  · intro w _ W hI
    show tot (gX10_shifts_b2 N (w + 1) a n (nI k) (nI k) W) _
    unfold gX10_shifts_b2
    try simp (disch := omega) only [fa_lit, ne_le, ne_lt, ne_eq', nI_add, pk_mul, pk_sub, rdA_n, wrA_n, rdL_n, wrL_n, nI_one, nI_bit1, nI_bit0, fa_or, fa_and, nI_df, nat31, Option.bind_some, m1_le0, m1_lt0, m1_eq, eq_m1, ite_nI, sub_m, pk_m1', not_lt0]
    rw [if_pos (Nat.le_refl _)]
    exact tot_some hI
/-- what lays leaves -/
theorem m_lays' (hN : 2000 < N) : tot (gX10_lays N V) (fun W => (∀ j, j < 4 → W.A 139 j = V.A 139 (4 + j)) ∧ (∀ j, j < 7 → W.L 140 j = V.L 140 (7 + j) ∧ W.A 141 j = V.A 141 (7 + j) ∧ W.A 142 j = V.A 142 (7 + j) ∧ W.A 143 j = V.A 143 (7 + j) ∧ W.A 144 j = V.A 144 (7 + j)) ∧ (∀ j, j < 1000 → W.A 147 j = V.A 147 (1000 + j)) ∧ W.A 145 0 = V.A 145 1 - 1000 ∧ W.A 146 0 = V.A 146 1 - 1000 ∧ W.F = V.F ∧ (∀ a, ¬ (139 ≤ a ∧ a ≤ 147) → W.A a = V.A a) ∧ ∀ a, a ≠ 140 → W.L a = V.L a) := by
  unfold gX10_lays
  refine tot_bd (m_shift (a := 139) (k := 4) (n := 8) (by omega) (by omega) hN) (fun V1 h1 => ?_)
  refine loop_T (F := fun w (_ : Unit) k V => gX10_lays_b10 N w (nI k) V) 7 (fun k _ W => W.A = V1.A ∧ W.F = V1.F ∧ (∀ a, a ≠ 140 → W.L a = V1.L a) ∧ ∀ j, W.L 140 j = if j < k then V1.L 140 (7 + j) else V1.L 140 j) ?_ ?_ N 0 () V1 (by omega) (by omega) ⟨rfl, rfl, fun _ _ => rfl, fun j => by rw [if_neg (by omega)]⟩
  · intro w k _ W hk hI hK
    obtain ⟨i1, i2, i3, i4⟩ := hI
    show tot (gX10_lays_b10 N (w + 1) (nI k) W) _
    unfold gX10_lays_b10
    try simp (disch := omega) only [fa_lit, ne_le, ne_lt, ne_eq', nI_add, pk_mul, pk_sub, rdA_n, wrA_n, rdL_n, wrL_n, nI_one, nI_bit1, nI_bit0, fa_or, fa_and, nI_df, nat31, Option.bind_some, m1_le0, m1_lt0, m1_eq, eq_m1, ite_nI, sub_m, pk_m1', not_lt0]
    rw [if_neg (by omega)]
    refine hK () _ ⟨i1, i2, fun a ha => by rw [wL_n _ _ _ ha]; exact i3 a ha, fun j => ?_⟩
    rw [wL_L, i4 (7 + k), if_neg (show ¬ 7 + k < k by omega)]
    by_cases e : j = k
    · rw [if_pos ⟨rfl, e⟩, if_pos (by omega), e]
    · rw [if_neg (fun q => e q.2), i4 j]
      by_cases e2 : j < k
      · rw [if_pos e2, if_pos (by omega)]
      · rw [if_neg e2, if_neg (by omega)]
  · intro w _ W hI
    obtain ⟨i1, i2, i3, i4⟩ := hI
    show tot (gX10_lays_b10 N (w + 1) (nI 7) W) _
    unfold gX10_lays_b10
    rw [if_pos (by decide), show (7 : Int32) = nI 7 from rfl, show (1000 : Int32) = nI 1000 from rfl]
    refine tot_bd (m_shift (a := 141) (k := 7) (n := 14) (by omega) (by omega) hN) (fun W1 w1 => ?_)
    refine tot_bd (m_shift (a := 142) (k := 7) (n := 14) (by omega) (by omega) hN) (fun W2 w2 => ?_)
    refine tot_bd (m_shift (a := 143) (k := 7) (n := 14) (by omega) (by omega) hN) (fun W3 w3 => ?_)
    refine tot_bd (m_shift (a := 144) (k := 7) (n := 14) (by omega) (by omega) hN) (fun W4 w4 => ?_)
    refine tot_bd (m_shift (a := 147) (k := 1000) (n := 2000) (by omega) (by omega) hN) (fun W5 w5 => ?_)
    rw [Option.bind_some, Option.bind_some]
    have c0 : ∀ a, a ≠ 139 → W.A a = V.A a := fun a ha => by rw [i1]; exact h1.2.2.2.1 a ha
    have c1 : ∀ a, a ≠ 139 → a ≠ 141 → W1.A a = V.A a := fun a ha hb => by rw [w1.2.2.2.1 a hb, c0 a ha]
    have c2 : ∀ a, a ≠ 139 → a ≠ 141 → a ≠ 142 → W2.A a = V.A a := fun a ha hb hc => by rw [w2.2.2.2.1 a hc, c1 a ha hb]
    have c3 : ∀ a, a ≠ 139 → a ≠ 141 → a ≠ 142 → a ≠ 143 → W3.A a = V.A a := fun a ha hb hc hd => by rw [w3.2.2.2.1 a hd, c2 a ha hb hc]
    have c4 : ∀ a, a ≠ 139 → a ≠ 141 → a ≠ 142 → a ≠ 143 → a ≠ 144 → W4.A a = V.A a := fun a ha hb hc hd he => by rw [w4.2.2.2.1 a he, c3 a ha hb hc hd]
    have cF : W5.F = V.F := by
      funext i k
      rw [w5.2.2.2.2 i k (fun q => q), w4.2.2.2.2 i k (fun q => q), w3.2.2.2.2 i k (fun q => q), w2.2.2.2.2 i k (fun q => q), w1.2.2.2.2 i k (fun q => q), i2, h1.2.2.2.2 i k (fun q => q)]
    have cL : W5.L = W.L := by rw [w5.2.1, w4.2.1, w3.2.1, w2.2.1, w1.2.1]
    generalize hX : wA (wA W5 145 0 (W5.A 145 1 - nI 1000)) 146 0 ((wA W5 145 0 (W5.A 145 1 - nI 1000)).A 146 1 - nI 1000) = X
    have xA : ∀ a, a ≠ 145 → a ≠ 146 → X.A a = W5.A a := fun a h1 h2 => by rw [← hX, wA_n _ _ _ h2, wA_n _ _ _ h1]
    have x145 : X.A 145 0 = V.A 145 1 - nI 1000 := by rw [← hX, wA_n _ _ _ (by omega), wA_A, if_pos ⟨rfl, rfl⟩, w5.2.2.2.1 145 (by omega), c4 145 (by omega) (by omega) (by omega) (by omega) (by omega)]
    have x146 : X.A 146 0 = V.A 146 1 - nI 1000 := by rw [← hX, wA_A, if_pos ⟨rfl, rfl⟩, wA_n _ _ _ (by omega), w5.2.2.2.1 146 (by omega), c4 146 (by omega) (by omega) (by omega) (by omega) (by omega)]
    have xF : X.F = V.F := by rw [← hX]; exact cF
    have xL : X.L = W.L := by rw [← hX]; exact cL
    refine tot_some ⟨fun j hj => ?_, fun j hj => ⟨?_, ?_, ?_, ?_, ?_⟩, fun j hj => ?_, x145, x146, xF, fun a ha => ?_, fun a ha => ?_⟩
    · rw [xA 139 (by omega) (by omega), w5.2.2.2.1 139 (by omega), w4.2.2.2.1 139 (by omega), w3.2.2.2.1 139 (by omega), w2.2.2.2.1 139 (by omega), w1.2.2.2.1 139 (by omega), i1, h1.1 j, if_pos hj]
    · rw [xL, i4 j, if_pos hj, h1.2.1]
    · rw [xA 141 (by omega) (by omega), w5.2.2.2.1 141 (by omega), w4.2.2.2.1 141 (by omega), w3.2.2.2.1 141 (by omega), w2.2.2.2.1 141 (by omega), w1.1 j, if_pos hj, c0 141 (by omega)]
    · rw [xA 142 (by omega) (by omega), w5.2.2.2.1 142 (by omega), w4.2.2.2.1 142 (by omega), w3.2.2.2.1 142 (by omega), w2.1 j, if_pos hj, c1 142 (by omega) (by omega)]
    · rw [xA 143 (by omega) (by omega), w5.2.2.2.1 143 (by omega), w4.2.2.2.1 143 (by omega), w3.1 j, if_pos hj, c2 143 (by omega) (by omega) (by omega)]
    · rw [xA 144 (by omega) (by omega), w5.2.2.2.1 144 (by omega), w4.1 j, if_pos hj, c3 144 (by omega) (by omega) (by omega) (by omega)]
    · rw [xA 147 (by omega) (by omega), w5.1 j, if_pos hj, c4 147 (by omega) (by omega) (by omega) (by omega) (by omega)]
    · rw [xA a (by omega) (by omega), w5.2.2.2.1 a (by omega), c4 a (by omega) (by omega) (by omega) (by omega) (by omega)]
    · rw [xL, i3 a ha, h1.2.1]
/-- what came of what, laid -/
theorem m_causes (g : GoodP p) (hN : 1000 < N) (hn0 : V.A 139 0 = nI p.n) (hl : ∀ m, m < p.n → V.A 144 m = nI (p.le m)) : tot (gX10_laysCauses N V) (fun W => (∀ m, m < p.n → W.A 173 m = nI (cmN p m)) ∧ fr (fun a => a = 173) nof V W) := by
  have hn := g.1
  have hp := pw_lt g
  have kp : ∀ {X : VT}, fr (fun a => a = 173) nof V X → X.A 139 0 = nI p.n ∧ ∀ m, m < p.n → X.A 144 m = nI (p.le m) := fun f => ⟨by rw [f.2.2.1 139 (by omega)]; exact hn0, fun m hm => by rw [f.2.2.1 144 (by omega)]; exact hl m hm⟩
  -- reached so far: between what it led to and all; all of those of small rank
  have hle : ∀ m, m < p.n → ∀ o, (p.le m).testBit o = true → (cmN p m).testBit o = true := fun m hm o h => by
    have ho := tb_out (le_lt g hm) h
    exact ((came g).mpr (Or.inl ⟨hm, ho, h⟩)).2.2
  let J := fun (k j : Nat) (X : VT) => ∃ c : Nat → Nat, (∀ m, m < p.n → X.A 173 m = nI (c m)) ∧ (∀ m, m < p.n → (∀ o, (p.le m).testBit o = true → (c m).testBit o = true) ∧ (∀ o, (c m).testBit o = true → (cmN p m).testBit o = true)) ∧ (∀ m, m < p.n → rk p m < k → c m = cmN p m) ∧ (∀ m, m < j → m < p.n → rk p m < k + 1 → c m = cmN p m)
  unfold gX10_laysCauses
  refine loop_T (F := fun w (_ : Unit) k V => gX10_laysCauses_b2 N w (nI k) V) 7 (fun k _ X => (∀ m, m < k → m < p.n → X.A 173 m = nI (p.le m)) ∧ fr (fun a => a = 173) nof V X) ?_ ?_ N 0 () V (by omega) (by omega) ⟨fun m hm => by omega, fr.rf⟩
  · intro w k _ X hk hI hK
    obtain ⟨i1, i2⟩ := hI
    show tot (gX10_laysCauses_b2 N (w + 1) (nI k) X) _
    unfold gX10_laysCauses_b2 gX10_laysCauses_b33
    rw [(kp i2).1]
    try simp (disch := omega) only [fa_lit, ne_le, ne_lt, ne_eq', nI_add, pk_mul, pk_sub, rdA_n, wrA_n, rdL_n, wrL_n, nI_one, nI_bit1, nI_bit0, fa_or, fa_and, nI_df, nat31, Option.bind_some, m1_le0, m1_lt0, m1_eq, eq_m1, ite_nI, sub_m, pk_m1', not_lt0]
    rw [if_neg (by omega)]
    by_cases hc : p.n ≤ k
    · rw [if_pos hc]
      refine hK () _ ⟨fun m h1 h2 => ?_, i2.trans (fr_A _ _ rfl)⟩
      try simp (disch := omega) only [wA_A, wF_F, wA_F, wF_A, wA_L, wF_L, wA_G, wF_G, true_and, and_true, and_self, if_true, if_false, if_pos, if_neg]
      exact i1 m (by omega) h2
    · rw [if_neg hc, (kp i2).2 k (by omega)]
      refine hK () _ ⟨fun m h1 h2 => ?_, i2.trans (fr_A _ _ rfl)⟩
      by_cases e : m = k
      · subst e
        try simp (disch := omega) only [wA_A, wF_F, wA_F, wF_A, wA_L, wF_L, wA_G, wF_G, true_and, and_true, and_self, if_true, if_false, if_pos, if_neg]
      · try simp (disch := omega) only [wA_A, wF_F, wA_F, wF_A, wA_L, wF_L, wA_G, wF_G, true_and, and_true, and_self, if_true, if_false, if_pos, if_neg]
        exact i1 m (by omega) h2
  · intro w _ X hI
    obtain ⟨i1, i2⟩ := hI
    show tot (gX10_laysCauses_b2 N (w + 1) (nI 7) X) _
    unfold gX10_laysCauses_b2
    rw [if_pos (by decide)]
    refine loop_T (F := fun w (_ : Unit) k V => gX10_laysCauses_b42 N w (nI k) V) 7 (fun k _ X => J k 0 X ∧ fr (fun a => a = 173) nof V X) ?_ ?_ N 0 () X (by omega) (by omega) ⟨⟨p.le, fun m hm => i1 m (by omega) hm, fun m hm => ⟨fun o h => h, hle m hm⟩, fun m _ h => by omega, fun m h => by omega⟩, i2⟩
    · intro w k _ X hk hI hK
      obtain ⟨j1, j2⟩ := hI
      show tot (gX10_laysCauses_b42 N (w + 1) (nI k) X) _
      unfold gX10_laysCauses_b42
      try simp (disch := omega) only [fa_lit, ne_le, ne_lt, ne_eq', nI_add, pk_mul, pk_sub, rdA_n, wrA_n, rdL_n, wrL_n, nI_one, nI_bit1, nI_bit0, fa_or, fa_and, nI_df, nat31, Option.bind_some, m1_le0, m1_lt0, m1_eq, eq_m1, ite_nI, sub_m, pk_m1', not_lt0]
      rw [if_neg (by omega)]
      refine loop_T (F := fun w2 (_ : Unit) m V => gX10_laysCauses_b50 N (gX10_laysCauses_b42 N w) w2 (nI k) (nI m) V) p.n (fun m _ X => J k m X ∧ fr (fun a => a = 173) nof V X) ?_ ?_ N 0 () X (by omega) (by omega) ⟨j1, j2⟩
      · intro w2 m _ Y hm hI2 hK2
        obtain ⟨⟨c, y1, y2, y3, y4⟩, y5⟩ := hI2
        have cl : ∀ x, x < p.n → c x < 2 ^ p.n := fun x hx => by
          refine Classical.byContradiction (fun q => ?_)
          have h1 : ∀ i, i < p.n → True := fun _ _ => trivial
          have h2 : c x = c x % 2 ^ p.n := by
            apply Nat.eq_of_testBit_eq
            intro i
            rw [Nat.testBit_mod_two_pow]
            cases hb : (c x).testBit i with
            | false => simp
            | true =>
              have := tb_out (cm_lt p x) ((y2 x hx).2 i hb)
              simp [this]
          have := Nat.mod_lt (c x) (Nat.two_pow_pos p.n)
          omega
        show tot (gX10_laysCauses_b50 N (gX10_laysCauses_b42 N w) (w2 + 1) (nI k) (nI m) Y) _
        unfold gX10_laysCauses_b50
        rw [(kp y5).1]
        try simp (disch := omega) only [fa_lit, ne_le, ne_lt, ne_eq', nI_add, pk_mul, pk_sub, rdA_n, wrA_n, rdL_n, wrL_n, nI_one, nI_bit1, nI_bit0, fa_or, fa_and, nI_df, nat31, Option.bind_some, m1_le0, m1_lt0, m1_eq, eq_m1, ite_nI, sub_m, pk_m1', not_lt0]
        rw [if_neg (by omega)]
        refine loop_T (F := fun w3 (x : Nat) o V => gX10_laysCauses_b62 N (gX10_laysCauses_b50 N (gX10_laysCauses_b42 N w) w2) w3 (nI k) (nI m) (nI o) V) p.n (fun o x X => (X.A 173 m = nI x ∧ x < 2 ^ p.n ∧ ∀ m', m' < p.n → m' ≠ m → X.A 173 m' = nI (c m')) ∧ ((∀ i, (p.le m).testBit i = true → x.testBit i = true) ∧ (∀ i, (c m).testBit i = true → x.testBit i = true) ∧ ∀ i, x.testBit i = true → (cmN p m).testBit i = true) ∧ (∀ i, i < o → (p.le m).testBit i = true → ∀ z, (c i).testBit z = true → x.testBit z = true) ∧ fr (fun a => a = 173) nof V X) ?_ ?_ N 0 (c m) Y (by omega) (by omega) ⟨⟨y1 m hm, cl m hm, fun m' h1 _ => y1 m' h1⟩, ⟨(y2 m hm).1, fun i h => h, (y2 m hm).2⟩, fun i hi => by omega, y5⟩
        · intro w3 o x Z ho hI3 hK3
          obtain ⟨⟨z1, z2, z3⟩, ⟨z4, z5, z6⟩, z7, z8⟩ := hI3
          have hZo : ∃ u, Z.A 173 o = nI u ∧ u < 2 ^ p.n ∧ (∀ i, (c o).testBit i = true → u.testBit i = true) ∧ (x.testBit o = true → ∀ i, u.testBit i = true → (cmN p m).testBit i = true) := by
            by_cases e : o = m
            · subst e
              exact ⟨x, z1, z2, z5, fun _ => z6⟩
            · refine ⟨c o, z3 o ho e, cl o ho, fun i h => h, fun hx i h => ?_⟩
              have h1 : cm p m o := ⟨hm, ho, z6 o hx⟩
              have h2 := (y2 o ho).2 i h
              have hi := tb_out (cm_lt p o) h2
              exact (cm_trans g h1 ⟨ho, hi, h2⟩).2.2
          obtain ⟨u, u1, u2, u3, u4⟩ := hZo
          show tot (gX10_laysCauses_b62 N (gX10_laysCauses_b50 N (gX10_laysCauses_b42 N w) w2) (w3 + 1) (nI k) (nI m) (nI o) Z) _
          unfold gX10_laysCauses_b62 gX10_laysCauses_b103
          rw [(kp z8).1]
          try simp (disch := omega) only [fa_lit, ne_le, ne_lt, ne_eq', nI_add, pk_mul, pk_sub, rdA_n, wrA_n, rdL_n, wrL_n, nI_one, nI_bit1, nI_bit0, fa_or, fa_and, nI_df, nat31, Option.bind_some, m1_le0, m1_lt0, m1_eq, eq_m1, ite_nI, sub_m, pk_m1', not_lt0, z1, u1]
          rw [if_neg (by omega)]
          by_cases e : x.testBit o = true
          · rw [if_pos e]
            refine hK3 (x ||| u) _ ⟨⟨?_, Nat.or_lt_two_pow z2 u2, fun m' h1 h2 => ?_⟩, ⟨fun i h => (or_tb2 _ _ _).mpr (Or.inl (z4 i h)), fun i h => (or_tb2 _ _ _).mpr (Or.inl (z5 i h)), fun i h => ?_⟩, fun i hi hli z hz => (or_tb2 _ _ _).mpr ?_, z8.trans (fr_A _ _ rfl)⟩
            · try simp (disch := omega) only [wA_A, wF_F, wA_F, wF_A, wA_L, wF_L, wA_G, wF_G, true_and, and_true, and_self, if_true, if_false, if_pos, if_neg]
            · try simp (disch := omega) only [wA_A, wF_F, wA_F, wF_A, wA_L, wF_L, wA_G, wF_G, true_and, and_true, and_self, if_true, if_false, if_pos, if_neg]
              exact z3 m' h1 h2
            · rcases (or_tb2 _ _ _).mp h with q | q
              · exact z6 i q
              · exact u4 e i q
            · by_cases ei : i = o
              · subst ei
                exact Or.inr (u3 z hz)
              · exact Or.inl (z7 i (by omega) hli z hz)
          · rw [if_neg e]
            refine hK3 x _ ⟨⟨?_, z2, fun m' h1 h2 => ?_⟩, ⟨z4, z5, z6⟩, fun i hi hli z hz => ?_, z8.trans (fr_A _ _ rfl)⟩
            · try simp (disch := omega) only [wA_A, wF_F, wA_F, wF_A, wA_L, wF_L, wA_G, wF_G, true_and, and_true, and_self, if_true, if_false, if_pos, if_neg]
              rw [Nat.or_zero]
            · try simp (disch := omega) only [wA_A, wF_F, wA_F, wF_A, wA_L, wF_L, wA_G, wF_G, true_and, and_true, and_self, if_true, if_false, if_pos, if_neg]
              exact z3 m' h1 h2
            · by_cases ei : i = o
              · subst ei
                exact absurd (z4 i hli) e
              · exact z7 i (by omega) hli z hz
        · intro w3 x Z hI3
          obtain ⟨⟨z1, z2, z3⟩, ⟨z4, z5, z6⟩, z7, z8⟩ := hI3
          show tot (gX10_laysCauses_b62 N (gX10_laysCauses_b50 N (gX10_laysCauses_b42 N w) w2) (w3 + 1) (nI k) (nI m) (nI p.n) Z) _
          unfold gX10_laysCauses_b62
          rw [(kp z8).1]
          try simp (disch := omega) only [fa_lit, ne_le, ne_lt, ne_eq', nI_add, pk_mul, pk_sub, rdA_n, wrA_n, rdL_n, wrL_n, nI_one, nI_bit1, nI_bit0, fa_or, fa_and, nI_df, nat31, Option.bind_some, m1_le0, m1_lt0, m1_eq, eq_m1, ite_nI, sub_m, pk_m1', not_lt0]
          rw [if_pos (Nat.le_refl _)]
          have full : rk p m < k + 1 → x = cmN p m := by
            intro hr
            refine tb_ext z2 (cm_lt p m) (fun i hi => ?_)
            rw [Bool.eq_iff_iff]
            refine ⟨z6 i, fun h => ?_⟩
            rcases (came g).mp ⟨hm, hi, h⟩ with q | ⟨b, q1, q2⟩
            · exact z4 i q.2.2
            · have hrb := rk_lt (p := p) (m := m) q1.2.1 (ld_bi g q1)
              refine z7 b q1.2.1 q1.2.2 i ?_
              rw [y3 b q1.2.1 (by omega)]
              exact q2.2.2
          refine hK2 () Z ⟨⟨upN c m x, fun m' h => ?_, fun m' h => ?_, fun m' h1 h2 => ?_, fun m' h1 h2 h3 => ?_⟩, z8⟩
          · unfold upN
            by_cases e : m' = m
            · rw [if_pos e, e, z1]
            · rw [if_neg e]
              exact z3 m' h e
          · unfold upN
            by_cases e : m' = m
            · rw [if_pos e, e]
              exact ⟨z4, z6⟩
            · rw [if_neg e]
              exact y2 m' h
          · unfold upN
            by_cases e : m' = m
            · rw [if_pos e, e]
              rw [e] at h2
              exact full (by omega)
            · rw [if_neg e]
              exact y3 m' h1 h2
          · unfold upN
            by_cases e : m' = m
            · rw [if_pos e, e]
              rw [e] at h3
              exact full h3
            · rw [if_neg e]
              exact y4 m' (by omega) h2 h3
      · intro w2 _ Y hI2
        obtain ⟨⟨c, y1, y2, y3, y4⟩, y5⟩ := hI2
        show tot (gX10_laysCauses_b50 N (gX10_laysCauses_b42 N w) (w2 + 1) (nI k) (nI p.n) Y) _
        unfold gX10_laysCauses_b50
        rw [(kp y5).1]
        try simp (disch := omega) only [fa_lit, ne_le, ne_lt, ne_eq', nI_add, pk_mul, pk_sub, rdA_n, wrA_n, rdL_n, wrL_n, nI_one, nI_bit1, nI_bit0, fa_or, fa_and, nI_df, nat31, Option.bind_some, m1_le0, m1_lt0, m1_eq, eq_m1, ite_nI, sub_m, pk_m1', not_lt0]
        rw [if_pos (Nat.le_refl _)]
        exact hK () Y ⟨⟨c, y1, y2, fun m h1 h2 => y4 m h1 h1 h2, fun m h => by omega⟩, y5⟩
    · intro w _ X hI
      obtain ⟨⟨c, y1, y2, y3, y4⟩, y5⟩ := hI
      show tot (gX10_laysCauses_b42 N (w + 1) (nI 7) X) _
      unfold gX10_laysCauses_b42
      rw [if_pos (by decide)]
      refine tot_some ⟨fun m hm => ?_, y5⟩
      rw [y1 m hm, y3 m hm (by have := rk_n (p := p) hm; omega)]
end PLays
