/-! PURE: right, fruits, causes, roots, elders: class and model. -/
theorem or_tb (a j m : Nat) : (a ||| 2 ^ j).testBit m = true ↔ a.testBit m = true ∨ m = j := by
  rw [Nat.testBit_or, Nat.testBit_two_pow, Bool.or_eq_true, decide_eq_true_iff]
  exact or_congr Iff.rfl eq_comm
theorem or_tb2 (a b m : Nat) : (a ||| b).testBit m = true ↔ a.testBit m = true ∨ b.testBit m = true := by
  rw [Nat.testBit_or, Bool.or_eq_true]
theorem tot_self {α : Type} {o : Option α} {a : α} (h : tot o (fun r => r = a)) : o = some a := by
  obtain ⟨b, e, rfl⟩ := h
  exact e
section PRight
variable {V : VT} {T : Nat} {p : PP} {N x : Nat}
theorem tb_out {a n m : Nat} (ha : a < 2 ^ n) (h : a.testBit m = true) : m < n := by
  refine Classical.byContradiction (fun hn => ?_)
  have h1 : (2 : Nat) ^ n ≤ 2 ^ m := Nat.pow_le_pow_right (by decide) (by omega)
  rw [Nat.testBit_lt_two_pow (by omega)] at h
  cases h
theorem le_lt (g : GoodP p) {m : Nat} (hm : m < p.n) : p.le m < 2 ^ p.n := (g.2.1 m hm).2.2.2
theorem pw_lt (g : GoodP p) : (2 : Nat) ^ p.n ≤ 128 := lt_pw g.1
theorem rt_sound (g : GoodP p) {a j : Nat} (hj : j < p.n) (ha : ∀ m, a.testBit m = true → (rightN p x).testBit m = true) (h : p.le j &&& a ≠ 0) : (rightN p x).testBit j = true := by
  obtain ⟨o, ho, h1, h2⟩ := (and_ne0 (le_lt g hj)).mp h
  have h3 := (right_tb g x o).mp (ha o h2)
  refine (right_tb g x j).mpr ⟨hj, Or.inr ?_⟩
  rcases h3.2 with h3 | ⟨y, h4, h5⟩
  · exact ⟨o, (came g).mpr (Or.inl ⟨hj, ho, h1⟩), h3⟩
  · exact ⟨y, (came g).mpr (Or.inr ⟨o, ⟨hj, ho, h1⟩, h4⟩), h5⟩
theorem rt_compl (g : GoodP p) {a j k : Nat} (hj : j < p.n) (hx : ∀ m, x.testBit m = true → a.testBit m = true) (hr : ∀ m, m < p.n → rk p m < k → (rightN p x).testBit m = true → a.testBit m = true) (hk : rk p j < k + 1) (h : (rightN p x).testBit j = true) : a.testBit j = true ∨ p.le j &&& a ≠ 0 := by
  rcases ((right_tb g x j).mp h).2 with h | ⟨y, h1, h2⟩
  · exact Or.inl (hx j h)
  · refine Or.inr ((and_ne0 (le_lt g hj)).mpr ?_)
    rcases (came g).mp h1 with h3 | ⟨z, h3, h4⟩
    · exact ⟨y, h3.2.1, h3.2.2, hx y h2⟩
    · refine ⟨z, h3.2.1, h3.2.2, hr z h3.2.1 ?_ ((right_tb g x z).mpr ⟨h3.2.1, Or.inr ⟨y, h4, h2⟩⟩)⟩
      have := rk_lt (p := p) h3.2.1 (ld_bi g h3)
      omega
theorem c_right (h : PastC V T p) (hx : x < 2 ^ p.n) (hN : 1000 < N) : gX5_rightBy N T (nI x) V = some (nI (rightN p x), V) := by
  have g := h.1
  have hn := g.1
  have hp := pw_lt g
  have hF := h.2.1.1
  have hRl := right_lt p x
  apply tot_self
  unfold gX5_rightBy
  refine loop_T (F := fun w (a : Nat) k V => gX5_rightBy_b4 N w T (nI a) (nI k) V) p.n (fun k a W => W = V ∧ a < 2 ^ p.n ∧ (∀ m, x.testBit m = true → a.testBit m = true) ∧ (∀ m, a.testBit m = true → (rightN p x).testBit m = true) ∧ (∀ m, m < p.n → rk p m < k → (rightN p x).testBit m = true → a.testBit m = true)) ?_ ?_ N 0 x V (by omega) (by omega) ⟨rfl, hx, fun _ q => q, fun m q => (right_tb g x m).mpr ⟨tb_out hx q, Or.inl q⟩, fun m _ q => by omega⟩
  · intro w k a W hk hI hK
    obtain ⟨rfl, i1, i2, i3, i4⟩ := hI
    show tot (gX5_rightBy_b4 N (w + 1) T (nI a) (nI k) W) _
    unfold gX5_rightBy_b4
    simp (disch := omega) only [fa_lit, ne_le, ne_lt, ne_eq', nI_add, pk_mul, pk_sub, rdA_n, wrA_n, rdL_n, wrL_n, nI_one, nI_bit1, nI_bit0, fa_or, fa_and, nI_df, nat31, Option.bind_some, m1_le0, m1_lt0, m1_eq, eq_m1, ite_nI, sub_m, pk_m1', not_lt0, hF]
    rw [if_neg (by omega)]
    refine loop_T (F := fun w2 (a2 : Nat) j V => gX5_rightBy_b15 N (gX5_rightBy_b4 N w) w2 T (nI a2) (nI k) (nI j) V) p.n (fun j a2 W2 => W2 = W ∧ a2 < 2 ^ p.n ∧ (∀ m, x.testBit m = true → a2.testBit m = true) ∧ (∀ m, a2.testBit m = true → (rightN p x).testBit m = true) ∧ (∀ m, m < p.n → rk p m < k → (rightN p x).testBit m = true → a2.testBit m = true) ∧ (∀ m, m < p.n → m < j → rk p m < k + 1 → (rightN p x).testBit m = true → a2.testBit m = true)) ?_ ?_ N 0 a W (by omega) (by omega) ⟨rfl, i1, i2, i3, i4, fun m _ q => by omega⟩
    · intro w2 j a2 W2 hj hI2 hK2
      obtain ⟨rfl, j1, j2, j3, j4, j5⟩ := hI2
      have hle := le_lt g hj
      show tot (gX5_rightBy_b15 N (gX5_rightBy_b4 N w) (w2 + 1) T (nI a2) (nI k) (nI j) W2) _
      unfold gX5_rightBy_b15
      simp (disch := omega) only [fa_lit, ne_le, ne_lt, ne_eq', nI_add, pk_mul, pk_sub, rdA_n, wrA_n, rdL_n, wrL_n, nI_one, nI_bit1, nI_bit0, fa_or, fa_and, nI_df, nat31, Option.bind_some, m1_le0, m1_lt0, m1_eq, eq_m1, ite_nI, sub_m, pk_m1', not_lt0, hF, (h.2.2.1 j hj).2.2.2.1, and_eq]
      rw [if_neg (by omega)]
      by_cases hc : p.le j &&& a2 = 0
      · rw [if_pos hc]
        refine hK2 a2 _ ⟨rfl, j1, j2, j3, j4, fun m hm hmj hr hR => ?_⟩
        by_cases e : m = j
        · subst e
          rcases rt_compl g hm j2 j4 hr hR with q | q
          · exact q
          · exact absurd hc q
        · exact j5 m hm (by omega) hr hR
      · rw [if_neg hc]
        have h2j : (2 : Nat) ^ j < 2 ^ p.n := Nat.pow_lt_pow_right (by decide) hj
        refine hK2 (a2 ||| 2 ^ j) _ ⟨rfl, Nat.or_lt_two_pow j1 h2j, fun m q => (or_tb _ _ _).mpr (Or.inl (j2 m q)), fun m q => ?_, fun m hm hr hR => (or_tb _ _ _).mpr (Or.inl (j4 m hm hr hR)), fun m hm hmj hr hR => (or_tb _ _ _).mpr ?_⟩
        · rcases (or_tb _ _ _).mp q with q | q
          · exact j3 m q
          · subst q
            exact rt_sound g hj j3 hc
        · by_cases e : m = j
          · exact Or.inr e
          · exact Or.inl (j5 m hm (by omega) hr hR)
    · intro w2 a2 W2 hI2
      obtain ⟨rfl, j1, j2, j3, j4, j5⟩ := hI2
      show tot (gX5_rightBy_b15 N (gX5_rightBy_b4 N w) (w2 + 1) T (nI a2) (nI k) (nI p.n) W2) _
      unfold gX5_rightBy_b15
      simp (disch := omega) only [fa_lit, ne_le, ne_lt, ne_eq', nI_add, pk_mul, pk_sub, rdA_n, wrA_n, rdL_n, wrL_n, nI_one, nI_bit1, nI_bit0, fa_or, fa_and, nI_df, nat31, Option.bind_some, m1_le0, m1_lt0, m1_eq, eq_m1, ite_nI, sub_m, pk_m1', not_lt0, hF]
      rw [if_pos (Nat.le_refl _)]
      exact hK a2 _ ⟨rfl, j1, j2, j3, fun m hm hr hR => j5 m hm hm hr hR⟩
  · intro w a W hI
    obtain ⟨rfl, i1, i2, i3, i4⟩ := hI
    show tot (gX5_rightBy_b4 N (w + 1) T (nI a) (nI p.n) W) _
    unfold gX5_rightBy_b4
    simp (disch := omega) only [fa_lit, ne_le, ne_lt, ne_eq', nI_add, pk_mul, pk_sub, rdA_n, wrA_n, rdL_n, wrL_n, nI_one, nI_bit1, nI_bit0, fa_or, fa_and, nI_df, nat31, Option.bind_some, m1_le0, m1_lt0, m1_eq, eq_m1, ite_nI, sub_m, pk_m1', not_lt0, hF]
    rw [if_pos (Nat.le_refl _)]
    refine tot_some ?_
    have e : a = rightN p x := tb_ext i1 hRl (fun m hm => by
      rw [Bool.eq_iff_iff]
      exact ⟨i3 m, i4 m hm (rk_n hm)⟩)
    rw [e]
theorem m_right (h : PastM V p) (hx : x < 2 ^ p.n) (hN : 1000 < N) : gX10_rightBy N (nI x) V = some (nI (rightN p x), V) := by
  have g := h.1
  have hn := g.1
  have hp := pw_lt g
  have hF := h.2.1.1
  have key := loop_mk (F := fun w a k => gX10_rightBy_b4 N w (nI x) (nI (x ||| a)) (nI k) V) p.n (fun m => cmN p m &&& x != 0) (fun a => some (nI (x ||| a), V)) (by
    intro w k a R hk ha hR
    have hc := cm_lt p k
    show gX10_rightBy_b4 N (w + 1) (nI x) (nI (x ||| a)) (nI k) V = R
    unfold gX10_rightBy_b4
    simp (disch := omega) only [fa_lit, ne_le, ne_lt, ne_eq', nI_add, pk_mul, pk_sub, rdA_n, wrA_n, rdL_n, wrL_n, nI_one, nI_bit1, nI_bit0, fa_or, fa_and, nI_df, nat31, Option.bind_some, m1_le0, m1_lt0, m1_eq, eq_m1, ite_nI, sub_m, pk_m1', not_lt0, hF, (h.2.2.1 k hk).2.2.2.2.1, and_eq]
    rw [if_neg (by omega)]
    by_cases e : cmN p k &&& x = 0
    · rw [if_pos e]
      simpa [e] using hR
    · rw [if_neg e]
      simpa [e, Nat.or_assoc] using hR) (by
    intro w a ha
    show gX10_rightBy_b4 N (w + 1) (nI x) (nI (x ||| a)) (nI p.n) V = _
    unfold gX10_rightBy_b4
    simp (disch := omega) only [fa_lit, ne_le, ne_lt, ne_eq', nI_add, pk_mul, pk_sub, rdA_n, wrA_n, rdL_n, wrL_n, nI_one, nI_bit1, nI_bit0, fa_or, fa_and, nI_df, nat31, Option.bind_some, m1_le0, m1_lt0, m1_eq, eq_m1, ite_nI, sub_m, pk_m1', not_lt0, hF]
    rw [if_pos (Nat.le_refl _)]) N 0 (by omega) (by omega)
  have e0 : x ||| mk (fun m => cmN p m &&& x != 0) 0 = x := Nat.or_zero x
  rw [e0] at key
  unfold gX10_rightBy
  rw [show (0 : Int32) = nI 0 from rfl, key]
  have e : x ||| mk (fun m => cmN p m &&& x != 0) p.n = rightN p x := by
    refine tb_ext (Nat.or_lt_two_pow hx (mk_lt _ _)) (right_lt p x) (fun m hm => ?_)
    unfold rightN
    rw [Nat.testBit_or, mk_tb, mk_tb]
    simp [hm]
  rw [e]
theorem c_fruit (h : PastC V T p) {m : Nat} (hm : m < p.n) (hN : 1000 < N) : gX5_fruitBits N T (nI m) V = some (nI (cmN p m), V) := by
  have g := h.1
  have hn := g.1
  have hp := pw_lt g
  have hF := h.2.1.1
  have hlm := le_lt g hm
  apply tot_self
  unfold gX5_fruitBits
  simp (disch := omega) only [fa_lit, ne_le, ne_lt, ne_eq', nI_add, pk_mul, pk_sub, rdA_n, wrA_n, rdL_n, wrL_n, nI_one, nI_bit1, nI_bit0, fa_or, fa_and, nI_df, nat31, Option.bind_some, m1_le0, m1_lt0, m1_eq, eq_m1, ite_nI, sub_m, pk_m1', not_lt0, (h.2.2.1 m hm).2.2.2.1]
  refine loop_T (F := fun w (a : Nat) k V => gX5_fruitBits_b9 N w T (nI a) (nI k) V) p.n (fun k a W => W = V ∧ a < 2 ^ p.n ∧ (∀ o, ld p m o → a.testBit o = true) ∧ (∀ o, a.testBit o = true → cm p m o) ∧ (∀ o, cm p m o → qk p o ≤ k → a.testBit o = true)) ?_ ?_ N 0 (p.le m) V (by omega) (by omega) ⟨rfl, hlm, fun o q => q.2.2, fun o q => (came g).mpr (Or.inl ⟨hm, tb_out hlm q, q⟩), fun o q q2 => ?_⟩
  · intro w k a W hk hI hK
    obtain ⟨rfl, i1, i2, i3, i4⟩ := hI
    show tot (gX5_fruitBits_b9 N (w + 1) T (nI a) (nI k) W) _
    unfold gX5_fruitBits_b9
    simp (disch := omega) only [fa_lit, ne_le, ne_lt, ne_eq', nI_add, pk_mul, pk_sub, rdA_n, wrA_n, rdL_n, wrL_n, nI_one, nI_bit1, nI_bit0, fa_or, fa_and, nI_df, nat31, Option.bind_some, m1_le0, m1_lt0, m1_eq, eq_m1, ite_nI, sub_m, pk_m1', not_lt0, hF]
    rw [if_neg (by omega)]
    refine loop_T (F := fun w2 (a2 : Nat) j V => gX5_fruitBits_b20 N (gX5_fruitBits_b9 N w) w2 T (nI a2) (nI k) (nI j) V) p.n (fun j a2 W2 => W2 = W ∧ a2 < 2 ^ p.n ∧ (∀ o, ld p m o → a2.testBit o = true) ∧ (∀ o, a2.testBit o = true → cm p m o) ∧ (∀ o, cm p m o → qk p o ≤ k → a2.testBit o = true) ∧ (∀ z o, z < j → cm p m z → qk p z ≤ k → ld p z o → a2.testBit o = true)) ?_ ?_ N 0 a W (by omega) (by omega) ⟨rfl, i1, i2, i3, i4, fun z o q => by omega⟩
    · intro w2 j a2 W2 hj hI2 hK2
      obtain ⟨rfl, j1, j2, j3, j4, j5⟩ := hI2
      have hle := le_lt g hj
      show tot (gX5_fruitBits_b20 N (gX5_fruitBits_b9 N w) (w2 + 1) T (nI a2) (nI k) (nI j) W2) _
      unfold gX5_fruitBits_b20 gX9_bit
      simp (disch := omega) only [fa_lit, ne_le, ne_lt, ne_eq', nI_add, pk_mul, pk_sub, rdA_n, wrA_n, rdL_n, wrL_n, nI_one, nI_bit1, nI_bit0, fa_or, fa_and, nI_df, nat31, Option.bind_some, m1_le0, m1_lt0, m1_eq, eq_m1, ite_nI, sub_m, pk_m1', not_lt0, hF, (h.2.2.1 j hj).2.2.2.1]
      rw [if_neg (by omega)]
      by_cases hc : a2.testBit j = true
      · rw [if_pos hc]
        refine hK2 (a2 ||| p.le j) _ ⟨rfl, Nat.or_lt_two_pow j1 hle, fun o q => (or_tb2 _ _ _).mpr (Or.inl (j2 o q)), fun o q => ?_, fun o q q2 => (or_tb2 _ _ _).mpr (Or.inl (j4 o q q2)), fun z o q q1 q2 q3 => (or_tb2 _ _ _).mpr ?_⟩
        · rcases (or_tb2 _ _ _).mp q with q | q
          · exact j3 o q
          · exact cm_ld g (j3 j hc) ⟨hj, tb_out hle q, q⟩
        · by_cases e : z = j
          · subst e
            exact Or.inr q3.2.2
          · exact Or.inl (j5 z o (by omega) q1 q2 q3)
      · rw [if_neg hc]
        refine hK2 a2 _ ⟨rfl, j1, j2, j3, j4, fun z o q q1 q2 q3 => ?_⟩
        by_cases e : z = j
        · subst e
          exact absurd (j4 z q1 q2) hc
        · exact j5 z o (by omega) q1 q2 q3
    · intro w2 a2 W2 hI2
      obtain ⟨rfl, j1, j2, j3, j4, j5⟩ := hI2
      show tot (gX5_fruitBits_b20 N (gX5_fruitBits_b9 N w) (w2 + 1) T (nI a2) (nI k) (nI p.n) W2) _
      unfold gX5_fruitBits_b20
      simp (disch := omega) only [fa_lit, ne_le, ne_lt, ne_eq', nI_add, pk_mul, pk_sub, rdA_n, wrA_n, rdL_n, wrL_n, nI_one, nI_bit1, nI_bit0, fa_or, fa_and, nI_df, nat31, Option.bind_some, m1_le0, m1_lt0, m1_eq, eq_m1, ite_nI, sub_m, pk_m1', not_lt0, hF]
      rw [if_pos (Nat.le_refl _)]
      refine hK a2 _ ⟨rfl, j1, j2, j3, fun o q q2 => ?_⟩
      rcases (came_r g).mp q with q3 | ⟨z, q3, q4⟩
      · exact j2 o q3
      · have h5 := qk_lt (p := p) q4.1 (ld_bi g q4)
        exact j5 z o q4.1 q3 (by omega) q4
  · intro w a W hI
    obtain ⟨rfl, i1, i2, i3, i4⟩ := hI
    show tot (gX5_fruitBits_b9 N (w + 1) T (nI a) (nI p.n) W) _
    unfold gX5_fruitBits_b9
    simp (disch := omega) only [fa_lit, ne_le, ne_lt, ne_eq', nI_add, pk_mul, pk_sub, rdA_n, wrA_n, rdL_n, wrL_n, nI_one, nI_bit1, nI_bit0, fa_or, fa_and, nI_df, nat31, Option.bind_some, m1_le0, m1_lt0, m1_eq, eq_m1, ite_nI, sub_m, pk_m1', not_lt0, hF]
    rw [if_pos (Nat.le_refl _)]
    refine tot_some ?_
    have e : a = cmN p m := tb_ext i1 (cm_lt p m) (fun o ho => by
      rw [Bool.eq_iff_iff]
      refine ⟨fun q => (i3 o q).2.2, fun q => ?_⟩
      have h5 := qk_n (p := p) ho
      exact i4 o ⟨hm, ho, q⟩ (by omega))
    rw [e]
  · have h5 := qk_lt (p := p) hm (cm_bi g q)
    omega
def causeN (p : PP) (m : Nat) : Nat := mk (fun o => (cmN p o).testBit m) p.n
theorem c_cause (h : PastC V T p) {m : Nat} (hm : m < p.n) (hN : 1000 < N) : gX5_causeBits N T (nI m) V = some (nI (causeN p m), V) := by
  have g := h.1
  have hn := g.1
  have hp := pw_lt g
  have h2m : (2 : Nat) ^ m < 2 ^ p.n := Nat.pow_lt_pow_right (by decide) hm
  unfold gX5_causeBits
  simp (disch := omega) only [fa_lit, ne_le, ne_lt, ne_eq', nI_add, pk_mul, pk_sub, rdA_n, wrA_n, rdL_n, wrL_n, nI_one, nI_bit1, nI_bit0, fa_or, fa_and, nI_df, nat31, Option.bind_some, m1_le0, m1_lt0, m1_eq, eq_m1, ite_nI, sub_m, pk_m1', not_lt0]
  rw [c_right h h2m hN]
  rw [Option.bind_some]
  dsimp only
  rw [nI_df]
  have e : nDf (rightN p (2 ^ m)) (2 ^ m) = causeN p m := by
    refine tb_ext (nDf_le _ _ (right_lt p _)) (mk_lt _ _) (fun o ho => ?_)
    rw [nDf_tb, Bool.eq_iff_iff, Bool.and_eq_true, right_tb g]
    unfold causeN
    rw [mk_tb]
    simp only [Nat.testBit_two_pow, decide_eq_true_iff, Bool.and_eq_true, Bool.not_eq_true', decide_eq_false_iff_not]
    constructor
    · intro ⟨⟨_, q⟩, q2⟩
      rcases q with q | ⟨y, q, q3⟩
      · exact absurd q q2
      · subst q3
        exact ⟨ho, q.2.2⟩
    · intro ⟨_, q⟩
      refine ⟨⟨ho, Or.inr ⟨m, ⟨ho, hm, q⟩, rfl⟩⟩, fun q2 => ?_⟩
      subst q2
      have := cm_bi g ⟨ho, hm, q⟩
      omega
  rw [e]
def eldN (p : PP) (m : Nat) : Nat := mk (fun o => decide (p.bi o < p.bi m)) p.n
theorem c_elder (h : PastC V T p) {m : Nat} (hm : m < p.n) (hN : 1000 < N) : gX5_elderBits N T (nI m) V = some (nI (eldN p m), V) := by
  have g := h.1
  have hn := g.1
  have hF := h.2.1.1
  have gm := g.2.1 m hm
  unfold gX5_elderBits
  refine loop_mk (F := fun w a k => gX5_elderBits_b4 N w T (nI m) (nI a) (nI k) V) p.n (fun o => decide (p.bi o < p.bi m)) (fun a => some (nI a, V)) ?_ ?_ N 0 (by omega) (by omega)
  · intro w k a R hk ha hR
    have gk := g.2.1 k hk
    show gX5_elderBits_b4 N (w + 1) T (nI m) (nI a) (nI k) V = R
    unfold gX5_elderBits_b4
    simp (disch := omega) only [fa_lit, ne_le, ne_lt, ne_eq', nI_add, pk_mul, pk_sub, rdA_n, wrA_n, rdL_n, wrL_n, nI_one, nI_bit1, nI_bit0, fa_or, fa_and, nI_df, nat31, Option.bind_some, m1_le0, m1_lt0, m1_eq, eq_m1, ite_nI, sub_m, pk_m1', not_lt0, hF, (h.2.2.1 k hk).2.1, (h.2.2.1 m hm).2.1]
    rw [if_neg (by omega)]
    by_cases e : p.bi m ≤ p.bi k
    · rw [if_pos e]
      simpa [show ¬ p.bi k < p.bi m by omega] using hR
    · rw [if_neg e]
      simpa [show p.bi k < p.bi m by omega] using hR
  · intro w a ha
    show gX5_elderBits_b4 N (w + 1) T (nI m) (nI a) (nI p.n) V = _
    unfold gX5_elderBits_b4
    simp (disch := omega) only [fa_lit, ne_le, ne_lt, ne_eq', nI_add, pk_mul, pk_sub, rdA_n, wrA_n, rdL_n, wrL_n, nI_one, nI_bit1, nI_bit0, fa_or, fa_and, nI_df, nat31, Option.bind_some, m1_le0, m1_lt0, m1_eq, eq_m1, ite_nI, sub_m, pk_m1', not_lt0, hF]
    rw [if_pos (Nat.le_refl _)]
def orN (f : Nat → Nat) : Nat → Nat
  | 0 => 0
  | n + 1 => orN f n ||| f n
theorem orN_lt {f : Nat → Nat} {b : Nat} : ∀ {n : Nat}, (∀ i, i < n → f i < 2 ^ b) → orN f n < 2 ^ b
  | 0, _ => Nat.two_pow_pos _
  | n + 1, h => Nat.or_lt_two_pow (orN_lt (fun i hi => h i (by omega))) (h n (by omega))
theorem orN_tb (f : Nat → Nat) (i : Nat) : ∀ n : Nat, (orN f n).testBit i = true ↔ ∃ k, k < n ∧ (f k).testBit i = true
  | 0 => by simp [orN]
  | n + 1 => by
    rw [orN, or_tb2, orN_tb f i n]
    constructor
    · intro h
      rcases h with ⟨k, h1, h2⟩ | h
      · exact ⟨k, by omega, h2⟩
      · exact ⟨n, by omega, h⟩
    · intro ⟨k, h1, h2⟩
      by_cases e : k = n
      · subst e
        exact Or.inr h2
      · exact Or.inl ⟨k, by omega, h2⟩
def rootN (p : PP) : Nat := nDf (2 ^ p.n - 1) (orN p.le p.n)
theorem c_root (h : PastC V T p) (hN : 1000 < N) : gX5_rootBits N T V = some (nI (rootN p), V) := by
  have g := h.1
  have hn := g.1
  have hF := h.2.1.1
  have key : ∀ w k, k ≤ p.n → p.n - k < w → gX5_rootBits_b4 N w T (nI (orN p.le k)) (nI k) V = some (nI (rootN p), V) := by
    intro w
    induction w with
    | zero => intro k _ h; omega
    | succ w ih =>
      intro k hk hw
      unfold gX5_rootBits_b4
      by_cases hc : k = p.n
      · subst hc
        simp (disch := omega) only [fa_lit, ne_le, ne_lt, ne_eq', nI_add, pk_mul, pk_sub, rdA_n, wrA_n, rdL_n, wrL_n, nI_one, nI_bit1, nI_bit0, fa_or, fa_and, nI_df, nat31, Option.bind_some, m1_le0, m1_lt0, m1_eq, eq_m1, ite_nI, sub_m, pk_m1', not_lt0, hF]
        rw [if_pos (Nat.le_refl _), c_every h, Option.bind_some]
        dsimp only
        rw [nI_df]
        rfl
      · have e := ih (k + 1) (by omega) (by omega)
        simp (disch := omega) only [fa_lit, ne_le, ne_lt, ne_eq', nI_add, pk_mul, pk_sub, rdA_n, wrA_n, rdL_n, wrL_n, nI_one, nI_bit1, nI_bit0, fa_or, fa_and, nI_df, nat31, Option.bind_some, m1_le0, m1_lt0, m1_eq, eq_m1, ite_nI, sub_m, pk_m1', not_lt0, hF, (h.2.2.1 k (by omega)).2.2.2.1]
        rw [if_neg (by omega)]
        exact e
  unfold gX5_rootBits
  exact key N 0 (by omega) (by omega)
end PRight
