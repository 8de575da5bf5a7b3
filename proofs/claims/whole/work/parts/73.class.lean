/-! PURE: the past and the states of the class's own cells; its methods over them. -/
def LawC (V : VT) (T : Nat) (p : PP) : Prop := ∃ sl : List Int32, sl.length ≤ 1000 ∧ V.F (T + 6) 2 = nI sl.length ∧ (∀ i, i < sl.length → V.A (T + 7) i = sl.getD i 0) ∧ ∀ l c a, clN (evP sl (nI l) (nI c) (nI a) (nI p.kn)) = p.tk l c a
/-- a word of letters 1 .. 26, five bits each -/
def e32 (ls : List Nat) : Nat := ls.foldl (fun x d => x * 32 + d) 0
def PastC (V : VT) (T : Nat) (p : PP) : Prop := GoodP p ∧ (V.F T 6 = nI p.n ∧ V.F T 7 = nI p.kn ∧ V.F T 8 = nI p.fu ∧ V.F T 9 = nI p.ad) ∧ (∀ m, m < p.n → V.A (T + 2) m = nI (p.kd m) ∧ V.A (T + 3) m = nI (p.bi m) ∧ V.A (T + 4) m = nI (p.to m) ∧ V.A (T + 5) m = nI (p.le m) ∧ V.L (T + 1) m = lN (e32 (p.nm m))) ∧ LawC V T p
def StC (V : VT) (o n : Nat) (S : ST) : Prop := (∀ m, m < n → V.A (o + 1) m = nI (S.so m) ∧ V.A (o + 2) m = nI (S.co m)) ∧ V.F o 2 = nI S.po ∧ V.F o 3 = nI S.ye
theorem PastC.frL {V W : VT} {T : Nat} {p : PP} (h : PastC V T p) (f : frL (T + 6) V W) : PastC W T p := by
  obtain ⟨g, ⟨a, b, c, d⟩, e, sl, s1, s2, s3, s4⟩ := h
  obtain ⟨f1, f2, f3, f4⟩ := f
  refine ⟨g, ⟨by rw [f4 _ _ (by omega), a], by rw [f4 _ _ (by omega), b], by rw [f4 _ _ (by omega), c], by rw [f4 _ _ (by omega), d]⟩, fun m hm => ?_, sl, s1, by rw [f4 _ _ (by omega), s2], fun i hi => by rw [f3 _ (by omega), s3 i hi], s4⟩
  obtain ⟨x1, x2, x3, x4, x5⟩ := e m hm
  exact ⟨by rw [f3 _ (by omega), x1], by rw [f3 _ (by omega), x2], by rw [f3 _ (by omega), x3], by rw [f3 _ (by omega), x4], by rw [f1, x5]⟩
theorem StC.frL {V W : VT} {T o n : Nat} {S : ST} (hT : T = 6 ∨ T = 15) (ho : 23 < o) (h : StC V o n S) (f : frL (T + 6) V W) : StC W o n S := by
  obtain ⟨f1, f2, f3, f4⟩ := f
  exact ⟨fun m hm => by rw [f3 _ (by omega), f3 _ (by omega)]; exact h.1 m hm, by rw [f4 _ _ (by omega)]; exact h.2.1, by rw [f4 _ _ (by omega)]; exact h.2.2⟩
theorem clN_le (r : Int32) : clN r ≤ 20 := by
  unfold clN
  split
  · omega
  · rename_i h
    split
    · omega
    · rename_i h2
      rw [Int32.not_le, fa_lt] at h2
      have : (20 : Int32).toInt = 20 := by decide
      have := Int32.toNat_toInt r
      omega
theorem clN_c (r : Int32) : (if (nI 0) < (if r < nI 20 then r else nI 20) then (if r < nI 20 then r else nI 20) else nI 0) = nI (clN r) := by
  unfold clN
  by_cases h : r < 20
  · rw [if_pos (show r < nI 20 from h)]
    by_cases h2 : r ≤ 0
    · rw [if_pos h2, if_neg (show ¬ nI 0 < r from Int32.not_lt.mpr h2)]
    · rw [if_neg h2, if_neg (Int32.not_le.mpr h), if_pos (show nI 0 < r from Int32.not_le.mp h2)]
      obtain ⟨j, hj, rfl⟩ := nI_of (x := r) (fun h3 => h2 (Int32.le_of_lt h3))
      rw [nI_clamp hj]
  · rw [if_neg (show ¬ r < nI 20 from h), if_pos (by decide)]
    have h3 := Int32.not_lt.mp h
    have h2 : ¬ r ≤ 0 := fun h2 => absurd (Int32.le_trans h3 h2) (by decide)
    rw [if_neg h2, if_pos h3]
section PClass
variable {V : VT} {T : Nat} {p : PP} {m l c y n : Nat}
theorem c_n (h : PastC V T p) : V.F T 6 = nI p.n ∧ p.n ≤ 7 := ⟨h.2.1.1, h.1.1⟩
theorem c_price (h : PastC V T p) (hm : m < p.n) : gX5_price T (nI m) V = some (nI (priceN p m), V) := by
  obtain ⟨g, ⟨_, hk, _, _⟩, e, _⟩ := h
  have := g.1
  have := g.2.1 m hm
  unfold gX5_price priceN
  simp (disch := omega) only [fa_lit, ne_le, ne_lt, ne_eq', nI_add, pk_mul, pk_sub, rdA_n, wrA_n, rdL_n, wrL_n, nI_one, nI_bit1, nI_bit0, fa_or, fa_and, nI_df, nat31, Option.bind_some, m1_le0, m1_lt0, m1_eq, eq_m1, ite_nI, sub_m, pk_m1', not_lt0, (e m hm).1, hk]
  split <;> rfl
theorem c_sYear (h : PastC V T p) (hm : m < p.n) (hl : l ≤ 40) (hc : c < 2 ^ 31) : gX5_sourAfterYear T (nI m) (nI l) (nI c) V = some (nI (sYear p m l c), V) := by
  obtain ⟨g, _, e, _⟩ := h
  have := g.1
  have := g.2.1 m hm
  unfold gX5_sourAfterYear sYear
  simp (disch := omega) only [fa_lit, ne_le, ne_lt, ne_eq', nI_add, pk_mul, pk_sub, rdA_n, wrA_n, rdL_n, wrL_n, nI_one, nI_bit1, nI_bit0, fa_or, fa_and, nI_df, nat31, Option.bind_some, m1_le0, m1_lt0, m1_eq, eq_m1, ite_nI, sub_m, pk_m1', not_lt0, (e m hm).1, (e m hm).2.2.1]
  repeat' split
  all_goals rfl
theorem c_pYear (h : PastC V T p) {x : Nat} (hx : x ≤ 200) : gX5_potAfterYear T (nI x) V = some (nI (pYear p x), V) := by
  obtain ⟨g, ⟨_, _, _, hk⟩, _, _⟩ := h
  have := g.2.2.2.1
  unfold gX5_potAfterYear pYear
  simp (disch := omega) only [fa_lit, ne_le, ne_lt, ne_eq', nI_add, pk_mul, pk_sub, rdA_n, wrA_n, rdL_n, wrL_n, nI_one, nI_bit1, nI_bit0, fa_or, fa_and, nI_df, nat31, Option.bind_some, m1_le0, m1_lt0, m1_eq, eq_m1, ite_nI, sub_m, pk_m1', not_lt0, hk]
theorem c_cCoat (h : PastC V T p) (hm : m < p.n) : gX5_coatsAfterCoat T (nI m) (nI c) V = some (nI (cCoat p m c), V) := by
  obtain ⟨g, _, e, _⟩ := h
  have := g.1
  have := g.2.1 m hm
  unfold gX5_coatsAfterCoat cCoat
  simp (disch := omega) only [fa_lit, ne_le, ne_lt, ne_eq', nI_add, pk_mul, pk_sub, rdA_n, wrA_n, rdL_n, wrL_n, nI_one, nI_bit1, nI_bit0, fa_or, fa_and, nI_df, nat31, Option.bind_some, m1_le0, m1_lt0, m1_eq, eq_m1, ite_nI, sub_m, pk_m1', not_lt0, (e m hm).1]
  split <;> rfl
theorem c_every (h : PastC V T p) : gX5_everyone T V = some (nI (2 ^ p.n - 1), V) := by
  have := h.1.1
  have := Nat.two_pow_pos p.n
  unfold gX5_everyone
  simp (disch := omega) only [fa_lit, ne_le, ne_lt, ne_eq', nI_add, pk_mul, pk_sub, rdA_n, wrA_n, rdL_n, wrL_n, nI_one, nI_bit1, nI_bit0, fa_or, fa_and, nI_df, nat31, Option.bind_some, m1_le0, m1_lt0, m1_eq, eq_m1, ite_nI, sub_m, pk_m1', not_lt0, h.2.1.1]
theorem c_sCoat (h : PastC V T p) (hn : 1000 < n) (hm : m < p.n) (hl : l ≤ 40) : tot (gX5_sourAfterCoat n T (nI m) (nI l) (nI c) (nI y) V) (fun r => r.1 = nI (sCoat p m l c y) ∧ frL (T + 6) V r.2) := by
  obtain ⟨g, ⟨_, hk, _, _⟩, e, sl, s1, s2, s3, s4⟩ := h
  have := g.1
  have g2 := g.2.1 m hm
  unfold gX5_sourAfterCoat sCoat
  simp (disch := omega) only [fa_lit, ne_le, ne_lt, ne_eq', nI_add, pk_mul, pk_sub, rdA_n, wrA_n, rdL_n, wrL_n, nI_one, nI_bit1, nI_bit0, fa_or, fa_and, nI_df, nat31, Option.bind_some, m1_le0, m1_lt0, m1_eq, eq_m1, ite_nI, sub_m, pk_m1', not_lt0, (e m hm).1, (e m hm).2.1, hk]
  split
  · exact tot_some ⟨rfl, frL.rf⟩
  · refine tot_bd (x1_worth s1 _ _ _ _ hn s2 s3) (fun r hr => ?_)
    refine tot_some ⟨?_, hr.2⟩
    have h1 := clN_le r.1
    have h2 := clN_c r.1
    simp (disch := omega) only [fa_lit, ne_le, ne_lt, ne_eq', nI_add, pk_mul, pk_sub, rdA_n, wrA_n, rdL_n, wrL_n, nI_one, nI_bit1, nI_bit0, fa_or, fa_and, nI_df, nat31, Option.bind_some, m1_le0, m1_lt0, m1_eq, eq_m1, ite_nI, sub_m, pk_m1', not_lt0, h2]
    rw [hr.1, s4]
theorem c_can {o : Nat} {S : ST} (h : PastC V T p) (hs : V.F o 2 = nI S.po) (hp : S.po ≤ 200) (hm : m < p.n) : gX8_canSpread o T (nI m) V = some (nI (if S.po < priceN p m then 0 else 1), V) := by
  have := priceN_le h.1 m
  unfold gX8_canSpread
  rw [c_price h hm, hs]
  simp (disch := omega) only [fa_lit, ne_le, ne_lt, ne_eq', nI_add, pk_mul, pk_sub, rdA_n, wrA_n, rdL_n, wrL_n, nI_one, nI_bit1, nI_bit0, fa_or, fa_and, nI_df, nat31, Option.bind_some, m1_le0, m1_lt0, m1_eq, eq_m1, ite_nI, sub_m, pk_m1', not_lt0]
  split <;> rfl
end PClass
