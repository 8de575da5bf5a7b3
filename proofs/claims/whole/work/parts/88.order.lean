/-! PURE: matters by their years; ways, story, gap. -/
def bfB (p : PP) (o m : Nat) : Bool := decide (p.bi o < p.bi m) || (decide (p.bi o = p.bi m) && decide (o < m))
theorem bf_iff {p : PP} {o m : Nat} : bfB p o m = true ↔ p.bi o < p.bi m ∨ p.bi o = p.bi m ∧ o < m := by
  unfold bfB
  rw [Bool.or_eq_true, Bool.and_eq_true, decide_eq_true_iff, decide_eq_true_iff, decide_eq_true_iff]
def posN (p : PP) (m : Nat) : Nat := sm (fun o => if bfB p o m = true then 1 else 0) p.n
section POrder
variable {p : PP} {m o x : Nat}
theorem pos_lt (ho : o < p.n) (h : bfB p o m = true) : posN p o < posN p m := by
  unfold posN
  refine sm_lt (j := o) ?_ ho (fun i _ => ?_)
  · show (if bfB p o o = true then 1 else 0) < (if bfB p o m = true then 1 else 0)
    rw [if_pos h, if_neg (fun q => by have := bf_iff.mp q; omega)]
    omega
  · show (if bfB p i o = true then 1 else 0) ≤ (if bfB p i m = true then 1 else 0)
    by_cases q : bfB p i o = true
    · rw [if_pos q, if_pos (bf_iff.mpr (by have h1 := bf_iff.mp q; have h2 := bf_iff.mp h; omega))]
      omega
    · rw [if_neg q]
      omega
theorem pos_n (hm : m < p.n) : posN p m < p.n := by
  have h1 := sm_one p.n
  have h2 : posN p m < sm (fun _ => 1) p.n := by
    unfold posN
    refine sm_lt (j := m) ?_ hm (fun i _ => ?_)
    · show (if bfB p m m = true then 1 else 0) < 1
      rw [if_neg (fun q => by have := bf_iff.mp q; omega)]
      omega
    · show (if bfB p i m = true then 1 else 0) ≤ 1
      split <;> omega
  omega
theorem pos_inj (hm : m < p.n) (ho : o < p.n) (h : posN p m = posN p o) : m = o := by
  refine Classical.byContradiction (fun e => ?_)
  by_cases q : bfB p m o = true
  · have := pos_lt hm q
    omega
  · have hq : ¬ (p.bi m < p.bi o ∨ p.bi m = p.bi o ∧ m < o) := fun z => q (bf_iff.mpr z)
    have q2 : bfB p o m = true := bf_iff.mpr (by omega)
    have := pos_lt ho q2
    omega
theorem pos_bi (ho : o < p.n) (h : posN p m ≤ posN p o) : p.bi m ≤ p.bi o := by
  refine Classical.byContradiction (fun e => ?_)
  have := pos_lt (m := m) ho (bf_iff.mpr (Or.inl (by omega)))
  omega
theorem sm_uniq {f : Nat → Nat} {n : Nat} (h1 : ∀ i, i < n → f i ≤ 1) (h2 : ∀ a b, a < n → b < n → f a ≠ 0 → f b ≠ 0 → a = b) : sm f n ≤ 1 := by
  by_cases h : ∃ a, a < n ∧ f a ≠ 0
  · obtain ⟨a, ha, hf⟩ := h
    have h3 : sm f n ≤ sm (fun i => if i = a then 1 else 0) n := sm_mono (fun i hi => by
      by_cases e : i = a
      · rw [if_pos e]
        exact h1 i hi
      · rw [if_neg e]
        refine Nat.le_of_eq (Classical.byContradiction (fun q => e (h2 i a hi ha q hf))))
    rw [sm_del, if_pos ha] at h3
    exact h3
  · have h3 : sm f n = sm (fun _ => 0) n := sm_congr (fun i hi => Classical.byContradiction (fun q => h ⟨i, hi, q⟩))
    rw [h3, sm_zero]
    omega
theorem pos_surj {i : Nat} (hi : i < p.n) : ∃ m, m < p.n ∧ posN p m = i := by
  refine Classical.byContradiction (fun hn => ?_)
  have tot : sm (fun i => sm (fun m => if i = posN p m then 1 else 0) p.n) p.n = p.n := by
    rw [sm_swap]
    refine Eq.trans (sm_congr (g := fun _ => 1) (fun m hm => ?_)) (sm_one p.n)
    rw [sm_del, if_pos (pos_n hm)]
  have lt : sm (fun i => sm (fun m => if i = posN p m then 1 else 0) p.n) p.n < sm (fun _ => 1) p.n := by
    refine sm_lt (j := i) ?_ hi (fun k hk => ?_)
    · have e : sm (fun m => if i = posN p m then 1 else 0) p.n = 0 := (sm_congr (g := fun _ => 0) (fun m hm => if_neg (fun q => hn ⟨m, hm, q.symm⟩))).trans (sm_zero p.n)
      rw [e]
      omega
    · refine sm_uniq (fun m _ => by split <;> omega) (fun a b ha hb h1 h2 => ?_)
      have e1 : k = posN p a := Classical.byContradiction (fun q => h1 (if_neg q))
      have e2 : k = posN p b := Classical.byContradiction (fun q => h2 (if_neg q))
      exact pos_inj ha hb (by omega)
  rw [sm_one, tot] at lt
  omega
def byN (p : PP) (i : Nat) : Nat := fst0 (fun m => decide (posN p m = i)) p.n 0
theorem fst0_spec {f : Nat → Bool} : ∀ {j k m : Nat}, k ≤ m → m < k + j → f m = true → f (fst0 f j k) = true ∧ k ≤ fst0 f j k ∧ fst0 f j k < k + j
  | 0, k, m, h1, h2, _ => by omega
  | j + 1, k, m, h1, h2, h3 => by
    rw [fst0]
    by_cases e : f k = true
    · rw [if_pos e]
      exact ⟨e, Nat.le_refl _, by omega⟩
    · rw [if_neg e]
      have hk : k ≠ m := fun q => e (q ▸ h3)
      have := fst0_spec (j := j) (k := k + 1) (m := m) (by omega) (by omega) h3
      exact ⟨this.1, by omega, by omega⟩
theorem by_ok {i : Nat} (hi : i < p.n) : byN p i < p.n ∧ posN p (byN p i) = i := by
  obtain ⟨m, hm, e⟩ := pos_surj hi
  have := fst0_spec (f := fun m => decide (posN p m = i)) (j := p.n) (k := 0) (m := m) (by omega) (by omega) (by simp [e])
  unfold byN
  exact ⟨by omega, by simpa using this.1⟩
theorem by_pos (hm : m < p.n) : byN p (posN p m) = m := by
  have h := by_ok (pos_n hm)
  exact pos_inj h.1 hm h.2
end POrder
section POrderM
variable {V : VT} {p : PP} {N : Nat}
theorem m_by (h : PastM V p) {i : Nat} (hi : i < p.n) (hN : 1000 < N) : gX10_byYears N (nI i) V = some (nI (byN p i), V) := by
  have g := h.1
  have hn := g.1
  have hF := h.2.1.1
  obtain ⟨m, hm, em⟩ := pos_surj hi
  unfold gX10_byYears byN
  have key : ∀ w k, k ≤ m → p.n - k < w → gX10_byYears_b2 N w (nI i) (nI k) V = some (nI (fst0 (fun m => decide (posN p m = i)) (p.n - k) k), V) := by
    intro w
    induction w with
    | zero => intro k _ h; omega
    | succ w ih =>
      intro k hk hw
      have gk := g.2.1 k (by omega)
      have hpk := pos_n (p := p) (m := k) (by omega)
      unfold gX10_byYears_b2
      try simp (disch := omega) only [fa_lit, ne_le, ne_lt, ne_eq', nI_add, pk_mul, pk_sub, rdA_n, wrA_n, rdL_n, wrL_n, nI_one, nI_bit1, nI_bit0, fa_or, fa_and, nI_df, nat31, Option.bind_some, m1_le0, m1_lt0, m1_eq, eq_m1, ite_nI, sub_m, pk_m1', not_lt0, hF]
      rw [if_neg (by omega)]
      refine loop_sm (F := fun w2 a j => gX10_byYears_b17 N (gX10_byYears_b2 N w) w2 (nI i) (nI k) (nI a) (nI j) V) p.n (fun o => if bfB p o k = true then 1 else 0) (fun _ => some (nI (fst0 (fun m => decide (posN p m = i)) (p.n - k) k), V)) ?_ ?_ N 0 (by omega) (by omega)
      · intro w2 j R hj hR
        have gj := g.2.1 j hj
        show gX10_byYears_b17 N (gX10_byYears_b2 N w) (w2 + 1) (nI i) (nI k) (nI _) (nI j) V = R
        unfold gX10_byYears_b17 gX10_byYears_b67
        try simp (disch := omega) only [fa_lit, ne_le, ne_lt, ne_eq', nI_add, pk_mul, pk_sub, rdA_n, wrA_n, rdL_n, wrL_n, nI_one, nI_bit1, nI_bit0, fa_or, fa_and, nI_df, nat31, Option.bind_some, m1_le0, m1_lt0, m1_eq, eq_m1, ite_nI, sub_m, pk_m1', not_lt0, hF, (h.2.2.1 j hj).2.1, (h.2.2.1 k (by omega)).2.1]
        rw [if_neg (by omega)]
        by_cases e1 : p.bi j < p.bi k
        · rw [if_pos e1]
          rw [if_pos (bf_iff.mpr (Or.inl e1))] at hR
          exact hR
        · rw [if_neg e1]
          by_cases e2 : p.bi j = p.bi k
          · rw [if_pos e2]
            by_cases e3 : k ≤ j
            · rw [if_pos e3]
              rw [if_neg (fun q => by have := bf_iff.mp q; omega)] at hR
              exact hR
            · rw [if_neg e3]
              rw [if_pos (bf_iff.mpr (Or.inr ⟨e2, by omega⟩))] at hR
              exact hR
          · rw [if_neg e2]
            rw [if_neg (fun q => by have := bf_iff.mp q; omega)] at hR
            exact hR
      · intro w2
        show gX10_byYears_b17 N (gX10_byYears_b2 N w) (w2 + 1) (nI i) (nI k) (nI (posN p k)) (nI p.n) V = _
        unfold gX10_byYears_b17
        try simp (disch := omega) only [fa_lit, ne_le, ne_lt, ne_eq', nI_add, pk_mul, pk_sub, rdA_n, wrA_n, rdL_n, wrL_n, nI_one, nI_bit1, nI_bit0, fa_or, fa_and, nI_df, nat31, Option.bind_some, m1_le0, m1_lt0, m1_eq, eq_m1, ite_nI, sub_m, pk_m1', not_lt0, hF]
        rw [if_pos (Nat.le_refl _), show p.n - k = (p.n - (k + 1)) + 1 by omega, fst0]
        by_cases e : posN p k = i
        · rw [if_pos e, if_pos (by simp [e])]
        · rw [if_neg e, if_neg (by simp [e])]
          have : k ≠ m := fun q => e (by rw [q, em])
          exact ih (k + 1) (by omega) (by omega)
  exact key N 0 (by omega) (by omega)
end POrderM
/-- ways, by the first step -/
def wyN (p : PP) : Nat → Nat → Nat → Nat
  | 0, _, _ => 0
  | j + 1, a, b => if a = b then 1 else sm (fun m => if (p.le a).testBit m = true then wyN p j m b else 0) p.n
def WY (p : PP) (a b : Nat) : Nat := wyN p 10 a b
section PWays
variable {E : VE} {V : VT} {p : PP} {S : ST} {c N : Nat}
theorem wy_stab (g : GoodP p) (b : Nat) : ∀ (j a : Nat), a < p.n → rk p a < j → wyN p j a b = wyN p (j + 1) a b := by
  intro j
  induction j with
  | zero => intro a _ h; omega
  | succ j ih =>
    intro a ha hr
    rw [wyN, wyN]
    split
    · rfl
    · refine sm_congr (fun m hm => ?_)
      split
      · rename_i hl
        exact ih m hm (by have := rk_lt (p := p) hm (ld_bi g ⟨ha, hm, hl⟩); omega)
      · rfl
theorem WY_rec (g : GoodP p) {a b : Nat} (ha : a < p.n) : WY p a b = if a = b then 1 else sm (fun m => if (p.le a).testBit m = true then WY p m b else 0) p.n := by
  have h7 := g.1
  unfold WY
  rw [wyN]
  split
  · rfl
  · refine sm_congr (fun m hm => ?_)
    split
    · exact wy_stab g b 9 m hm (by have := rk_n (p := p) hm; omega)
    · rfl
theorem WY_back (g : GoodP p) {b : Nat} : ∀ a, a < p.n → p.bi b < p.bi a → WY p a b = 0 := by
  refine rk_ind (p := p) (P := fun a => p.bi b < p.bi a → WY p a b = 0) (fun a ha ih hb => ?_)
  rw [WY_rec g ha, if_neg (fun q => by rw [q] at hb; omega)]
  refine (sm_congr (g := fun _ => 0) (fun m hm => ?_)).trans (sm_zero p.n)
  split
  · rename_i hl
    have := ld_bi g ⟨ha, hm, hl⟩
    exact ih m hm this (by omega)
  · rfl
theorem WY_fst (g : GoodP p) {a b : Nat} (ha : a < p.n) : WY p a b = (if b = a then 1 else 0) + sm (fun m => (if (p.le a).testBit m = true then 1 else 0) * WY p m b) p.n := by
  have e : sm (fun m => (if (p.le a).testBit m = true then 1 else 0) * WY p m b) p.n = sm (fun m => if (p.le a).testBit m = true then WY p m b else 0) p.n := sm_congr (fun m _ => by split <;> simp)
  rw [e, WY_rec g ha]
  by_cases h : a = b
  · subst h
    rw [if_pos rfl, if_pos rfl]
    have e0 : sm (fun m => if (p.le a).testBit m = true then WY p m a else 0) p.n = 0 := (sm_congr (g := fun _ => 0) (fun m hm => by
      split
      · rename_i hl
        exact WY_back g m hm (ld_bi g ⟨ha, hm, hl⟩)
      · rfl)).trans (sm_zero p.n)
    rw [e0]
  · rw [if_neg h, if_neg (fun q => h q.symm), Nat.zero_add]
theorem WY_lst (g : GoodP p) {b : Nat} (hb : b < p.n) : ∀ a, a < p.n → WY p a b = (if b = a then 1 else 0) + sm (fun x => WY p a x * (if (p.le x).testBit b = true then 1 else 0)) p.n := by
  refine rk_ind (p := p) (P := fun a => WY p a b = (if b = a then 1 else 0) + sm (fun x => WY p a x * (if (p.le x).testBit b = true then 1 else 0)) p.n) (fun a ha ih => ?_)
  have h1 : sm (fun m => (if (p.le a).testBit m = true then 1 else 0) * WY p m b) p.n = sm (fun m => (if m = b then (if (p.le a).testBit b = true then 1 else 0) else 0) + sm (fun x => ((if (p.le a).testBit m = true then 1 else 0) * WY p m x) * (if (p.le x).testBit b = true then 1 else 0)) p.n) p.n := by
    refine sm_congr (fun m hm => ?_)
    by_cases hl : (p.le a).testBit m = true
    · rw [if_pos hl, Nat.one_mul, ih m hm (ld_bi g ⟨ha, hm, hl⟩)]
      congr 1
      · by_cases e : b = m
        · subst e
          rw [if_pos rfl, if_pos rfl, if_pos hl]
        · rw [if_neg e, if_neg (fun q => e q.symm)]
      · exact sm_congr (fun x _ => by rw [Nat.one_mul])
    · rw [if_neg hl, Nat.zero_mul]
      have e2 : sm (fun x => 0 * WY p m x * (if (p.le x).testBit b = true then 1 else 0)) p.n = 0 := (sm_congr (g := fun _ => 0) (fun x _ => by rw [Nat.zero_mul, Nat.zero_mul])).trans (sm_zero p.n)
      rw [e2]
      by_cases e : m = b
      · subst e
        rw [if_pos rfl, if_neg hl]
      · rw [if_neg e]
  rw [WY_fst g ha, h1, sm_add, sm_del, if_pos hb, sm_swap]
  congr 1
  have h2 : sm (fun x => WY p a x * (if (p.le x).testBit b = true then 1 else 0)) p.n = sm (fun x => (if x = a then (if (p.le a).testBit b = true then 1 else 0) else 0) + sm (fun m => (if (p.le a).testBit m = true then 1 else 0) * WY p m x * (if (p.le x).testBit b = true then 1 else 0)) p.n) p.n := by
    refine sm_congr (fun x hx => ?_)
    rw [WY_fst g ha, Nat.add_mul]
    congr 1
    · by_cases e : x = a
      · rw [if_pos e, if_pos e, Nat.one_mul, e]
      · rw [if_neg e, if_neg e, Nat.zero_mul]
    · by_cases hl : (p.le x).testBit b = true
      · simp only [if_pos hl, Nat.mul_one]
      · simp only [if_neg hl, Nat.mul_zero]
        rw [sm_zero]
  rw [h2, sm_add, sm_del, if_pos ha]
theorem c_ways_k (h : PastC V E.1 p) (hN : 1000 < N) {b : Nat} (hb : b < p.n) : ∀ (j a d : Nat), a < p.n → rk p a ≤ j → rk p a + d < 7 → gX5_waysTo_k N (j + 1) E.1 (nI a) (nI b) (nI d) V = some (nI (wyN p (j + 1) a b), V) := by
  have g := h.1
  have hn := g.1
  have hp := pw1 hn
  have hF := h.2.1.1
  intro j
  induction j with
  | zero =>
    intro a d ha hr hd
    have hle := le_lt g ha
    rw [gX5_waysTo_k, gX5_waysTo_g, wyN]
    try simp (disch := omega) only [fa_lit, ne_le, ne_lt, ne_eq', nI_add, pk_mul, pk_sub, rdA_n, wrA_n, rdL_n, wrL_n, nI_one, nI_bit1, nI_bit0, fa_or, fa_and, nI_df, nat31, Option.bind_some, m1_le0, m1_lt0, m1_eq, eq_m1, ite_nI, sub_m, pk_m1', not_lt0]
    by_cases e : a = b
    · rw [if_pos e, if_pos e]
    · rw [if_neg e, if_neg e]
      refine loop_sm (F := fun w s k => gX5_waysTo_b13 (gX5_waysTo_k N 0) N w E.1 (nI a) (nI b) (nI d) (nI s) (nI k) V) p.n (fun m => if (p.le a).testBit m = true then wyN p 0 m b else 0) (fun s => some (nI s, V)) ?_ ?_ N 0 (by omega) (by omega)
      · intro w k R hk hR
        have hnl : ¬ (p.le a).testBit k = true := fun q => by
          have := rk_lt (p := p) hk (ld_bi g ⟨ha, hk, q⟩)
          omega
        show gX5_waysTo_b13 (gX5_waysTo_k N 0) N (w + 1) E.1 (nI a) (nI b) (nI d) (nI _) (nI k) V = R
        unfold gX5_waysTo_b13 gX9_bit
        try simp (disch := omega) only [fa_lit, ne_le, ne_lt, ne_eq', nI_add, pk_mul, pk_sub, rdA_n, wrA_n, rdL_n, wrL_n, nI_one, nI_bit1, nI_bit0, fa_or, fa_and, nI_df, nat31, Option.bind_some, m1_le0, m1_lt0, m1_eq, eq_m1, ite_nI, sub_m, pk_m1', not_lt0, hF, (h.2.2.1 a ha).2.2.2.1]
        rw [if_neg (by omega), if_neg (by omega), if_neg hnl]
        rw [if_neg hnl] at hR
        exact hR
      · intro w
        show gX5_waysTo_b13 (gX5_waysTo_k N 0) N (w + 1) E.1 (nI a) (nI b) (nI d) (nI _) (nI p.n) V = _
        unfold gX5_waysTo_b13
        try simp (disch := omega) only [fa_lit, ne_le, ne_lt, ne_eq', nI_add, pk_mul, pk_sub, rdA_n, wrA_n, rdL_n, wrL_n, nI_one, nI_bit1, nI_bit0, fa_or, fa_and, nI_df, nat31, Option.bind_some, m1_le0, m1_lt0, m1_eq, eq_m1, ite_nI, sub_m, pk_m1', not_lt0, hF]
        rw [if_pos (Nat.le_refl _)]
  | succ j ih =>
    intro a d ha hr hd
    have hle := le_lt g ha
    rw [gX5_waysTo_k, gX5_waysTo_g, wyN]
    try simp (disch := omega) only [fa_lit, ne_le, ne_lt, ne_eq', nI_add, pk_mul, pk_sub, rdA_n, wrA_n, rdL_n, wrL_n, nI_one, nI_bit1, nI_bit0, fa_or, fa_and, nI_df, nat31, Option.bind_some, m1_le0, m1_lt0, m1_eq, eq_m1, ite_nI, sub_m, pk_m1', not_lt0]
    by_cases e : a = b
    · rw [if_pos e, if_pos e]
    · rw [if_neg e, if_neg e]
      refine loop_sm (F := fun w s k => gX5_waysTo_b13 (gX5_waysTo_k N (j + 1)) N w E.1 (nI a) (nI b) (nI d) (nI s) (nI k) V) p.n (fun m => if (p.le a).testBit m = true then wyN p (j + 1) m b else 0) (fun s => some (nI s, V)) ?_ ?_ N 0 (by omega) (by omega)
      · intro w k R hk hR
        show gX5_waysTo_b13 (gX5_waysTo_k N (j + 1)) N (w + 1) E.1 (nI a) (nI b) (nI d) (nI _) (nI k) V = R
        unfold gX5_waysTo_b13 gX9_bit
        try simp (disch := omega) only [fa_lit, ne_le, ne_lt, ne_eq', nI_add, pk_mul, pk_sub, rdA_n, wrA_n, rdL_n, wrL_n, nI_one, nI_bit1, nI_bit0, fa_or, fa_and, nI_df, nat31, Option.bind_some, m1_le0, m1_lt0, m1_eq, eq_m1, ite_nI, sub_m, pk_m1', not_lt0, hF, (h.2.2.1 a ha).2.2.2.1]
        rw [if_neg (by omega), if_neg (by omega)]
        by_cases hl : (p.le a).testBit k = true
        · have := rk_lt (p := p) hk (ld_bi g ⟨ha, hk, hl⟩)
          rw [if_pos hl, ih k (d + 1) hk (by omega) (by omega), Option.bind_some]
          rw [if_pos hl] at hR
          dsimp only
          rw [nI_add]
          exact hR
        · rw [if_neg hl]
          rw [if_neg hl] at hR
          exact hR
      · intro w
        show gX5_waysTo_b13 (gX5_waysTo_k N (j + 1)) N (w + 1) E.1 (nI a) (nI b) (nI d) (nI _) (nI p.n) V = _
        unfold gX5_waysTo_b13
        try simp (disch := omega) only [fa_lit, ne_le, ne_lt, ne_eq', nI_add, pk_mul, pk_sub, rdA_n, wrA_n, rdL_n, wrL_n, nI_one, nI_bit1, nI_bit0, fa_or, fa_and, nI_df, nat31, Option.bind_some, m1_le0, m1_lt0, m1_eq, eq_m1, ite_nI, sub_m, pk_m1', not_lt0, hF]
        rw [if_pos (Nat.le_refl _)]
/-- the ways that the first i in order give -/
def wyA (p : PP) (a i o : Nat) : Nat := (if o = a then 1 else 0) + sm (fun x => if posN p x < i then WY p a x * (if (p.le x).testBit o = true then 1 else 0) else 0) p.n
theorem wyA_s {a i o : Nat} (hi : i < p.n) : wyA p a (i + 1) o = wyA p a i o + WY p a (byN p i) * (if (p.le (byN p i)).testBit o = true then 1 else 0) := by
  have hb := by_ok (p := p) hi
  unfold wyA
  rw [Nat.add_assoc]
  congr 1
  have e : sm (fun x => if x = byN p i then WY p a (byN p i) * (if (p.le (byN p i)).testBit o = true then 1 else 0) else 0) p.n = WY p a (byN p i) * (if (p.le (byN p i)).testBit o = true then 1 else 0) := by
    rw [sm_del, if_pos hb.1]
  rw [← e, ← sm_add]
  refine sm_congr (fun x hx => ?_)
  by_cases h1 : posN p x < i
  · have h4 : ¬ x = byN p i := fun q => by
      rw [q, hb.2] at h1
      omega
    rw [if_pos h1, if_pos (show posN p x < i + 1 by omega), if_neg h4, Nat.add_zero]
  · rw [if_neg h1]
    by_cases h2 : posN p x = i
    · have h3 : x = byN p i := pos_inj hx hb.1 (by rw [h2, hb.2])
      rw [if_pos (show posN p x < i + 1 by omega), if_pos h3, h3, Nat.zero_add]
    · have h4 : ¬ x = byN p i := fun q => h2 (by rw [q, hb.2])
      rw [if_neg (show ¬ posN p x < i + 1 by omega), if_neg h4]
theorem wyA_m (g : GoodP p) {a i : Nat} (ha : a < p.n) (hi : i < p.n) : wyA p a i (byN p i) = WY p a (byN p i) := by
  have hb := by_ok (p := p) hi
  rw [WY_lst g hb.1 a ha]
  unfold wyA
  congr 1
  refine sm_congr (fun x hx => ?_)
  by_cases hl : (p.le x).testBit (byN p i) = true
  · have h1 := pos_lt (p := p) (m := byN p i) hx (bf_iff.mpr (Or.inl (ld_bi g ⟨hx, hb.1, hl⟩)))
    rw [if_pos (by omega)]
  · rw [if_neg hl, Nat.mul_zero]
    split <;> rfl
theorem wyA_n (g : GoodP p) {a o : Nat} (ha : a < p.n) (ho : o < p.n) : wyA p a p.n o = WY p a o := by
  rw [WY_lst g ho a ha]
  unfold wyA
  congr 1
  exact sm_congr (fun x hx => if_pos (pos_n hx))
theorem q_ways (g : GoodP p) (hN : 1000 < N) (x y : Int32) : ∃ v, Qc E p S c (fun V => gX9_ways E N x y V) v ∧ Qm p S c (fun V => gX10_ways N x y V) v := by
  unfold gX9_ways gX10_ways
  have hn := g.1
  have hp := pw1 hn
  refine qT (qM hn (fun a ha e => ?_))
  subst e
  refine qM hn (fun b hb e => ?_)
  subst e
  refine ⟨nI (WY p a b), fun V h => ?_, fun V h => ?_⟩
  · have h1 := rk_n (p := p) ha
    dsimp only
    unfold gX5_waysTo
    rw [show (0 : Int32) = nI 0 from rfl, c_ways_k h.2.1 hN hb 9 a 0 ha (by omega) (by omega)]
    exact tot_some ⟨rfl, fr.rf⟩
  · have f5 : ∀ {X : VT} (k : Nat) (z : Int32), mf X (wA X 175 k z) := fun k z => mf_A _ _ (by unfold mxA; omega)
    have r5 : ∀ {X : VT} (k : Nat) (z : Int32), (wA X 175 k z).A 167 = X.A 167 := fun k z => wA_n _ _ _ (by omega)
    refine loop_T (F := fun w (_ : Unit) k V => gX10_ways_b25 N w (nI a) (nI b) (nI k) V) 7 (fun k _ W => (∀ o, o < k → W.A 175 o = nI (if o = a then 1 else 0)) ∧ MSt W p.n S ∧ mf V W) ?_ ?_ N 0 () V (by omega) (by omega) ⟨fun o ho => by omega, h.2.1, mf.rf⟩
    · intro w k _ W hk hI hK
      show tot (gX10_ways_b25 N (w + 1) (nI a) (nI b) (nI k) W) _
      unfold gX10_ways_b25 gX10_ways_b46
      try simp (disch := omega) only [fa_lit, ne_le, ne_lt, ne_eq', nI_add, pk_mul, pk_sub, rdA_n, wrA_n, rdL_n, wrL_n, nI_one, nI_bit1, nI_bit0, fa_or, fa_and, nI_df, nat31, Option.bind_some, m1_le0, m1_lt0, m1_eq, eq_m1, ite_nI, sub_m, pk_m1', not_lt0]
      rw [if_neg (by omega)]
      have go : tot (gX10_ways_b25 N w (nI a) (nI b) (nI (k + 1)) (wA W 175 k (nI (if k = a then 1 else 0)))) (fun r => r.1 = nI (WY p a b) ∧ MSt r.2 p.n S ∧ mf V r.2) := by
        refine hK () _ ⟨fun o ho => ?_, hI.2.1.at (r5 _ _), hI.2.2.trans (f5 _ _)⟩
        by_cases e : o = k
        · subst e
          try simp (disch := omega) only [wA_A, wF_F, wA_F, wF_A, wA_L, wF_L, wA_G, wF_G, true_and, and_true, and_self, if_true, if_false, if_pos, if_neg]
        · try simp (disch := omega) only [wA_A, wF_F, wA_F, wF_A, wA_L, wF_L, wA_G, wF_G, true_and, and_true, and_self, if_true, if_false, if_pos, if_neg]
          exact hI.1 o (by omega)
      by_cases e : k = a
      · rw [if_pos e] at go ⊢
        exact go
      · rw [if_neg e] at go ⊢
        exact go
    · intro w _ W hI
      show tot (gX10_ways_b25 N (w + 1) (nI a) (nI b) (nI 7) W) _
      unfold gX10_ways_b25
      try simp (disch := omega) only [fa_lit, ne_le, ne_lt, ne_eq', nI_add, pk_mul, pk_sub, rdA_n, wrA_n, rdL_n, wrL_n, nI_one, nI_bit1, nI_bit0, fa_or, fa_and, nI_df, nat31, Option.bind_some, m1_le0, m1_lt0, m1_eq, eq_m1, ite_nI, sub_m, pk_m1', not_lt0]
      rw [if_pos (Nat.le_refl _)]
      refine loop_T (F := fun w (_ : Unit) k V => gX10_ways_b55 N w (nI b) (nI k) V) p.n (fun i _ W => (∀ o, o < p.n → W.A 175 o = nI (wyA p a i o)) ∧ MSt W p.n S ∧ mf V W) ?_ ?_ N 0 () W (by omega) (by omega) ⟨fun o ho => ?_, hI.2⟩
      · intro w i _ W hi hI hK
        have h1 := h.mk hI.2.2 hI.2.1
        have hbo := by_ok (p := p) hi
        have hle := le_lt g hbo.1
        show tot (gX10_ways_b55 N (w + 1) (nI b) (nI i) W) _
        unfold gX10_ways_b55
        rw [m_by h1.1 hi hN]
        try simp (disch := omega) only [fa_lit, ne_le, ne_lt, ne_eq', nI_add, pk_mul, pk_sub, rdA_n, wrA_n, rdL_n, wrL_n, nI_one, nI_bit1, nI_bit0, fa_or, fa_and, nI_df, nat31, Option.bind_some, m1_le0, m1_lt0, m1_eq, eq_m1, ite_nI, sub_m, pk_m1', not_lt0, h1.1.2.1.1]
        rw [if_neg (by omega)]
        refine loop_T (F := fun w2 (_ : Unit) k V => gX10_ways_b75 N (gX10_ways_b55 N w) w2 (nI b) (nI i) (nI (byN p i)) (nI k) V) p.n (fun k _ X => (∀ o, o < p.n → X.A 175 o = nI (if o < k then wyA p a (i + 1) o else wyA p a i o)) ∧ MSt X p.n S ∧ mf V X) ?_ ?_ N 0 () W (by omega) (by omega) ⟨fun o ho => ?_, hI.2⟩
        · intro w2 k _ X hk hJ hK2
          have h2 := h.mk hJ.2.2 hJ.2.1
          show tot (gX10_ways_b75 N (gX10_ways_b55 N w) (w2 + 1) (nI b) (nI i) (nI (byN p i)) (nI k) X) _
          unfold gX10_ways_b75 gX10_ways_b121
          try simp (disch := omega) only [fa_lit, ne_le, ne_lt, ne_eq', nI_add, pk_mul, pk_sub, rdA_n, wrA_n, rdL_n, wrL_n, nI_one, nI_bit1, nI_bit0, fa_or, fa_and, nI_df, nat31, Option.bind_some, m1_le0, m1_lt0, m1_eq, eq_m1, ite_nI, sub_m, pk_m1', not_lt0, h2.1.2.1.1, (h2.1.2.2.1 _ hbo.1).2.2.2.1]
          rw [if_neg (by omega), hJ.1 k hk, if_neg (Nat.lt_irrefl k)]
          have em : X.A 175 (byN p i) = nI (WY p a (byN p i)) := by
            rw [hJ.1 _ hbo.1, ← wyA_m g ha hi]
            split
            · rw [wyA_s hi]
              have : ¬ (p.le (byN p i)).testBit (byN p i) = true := fun q => by
                have := ld_bi g ⟨hbo.1, hbo.1, q⟩
                omega
              rw [if_neg this, Nat.mul_zero, Nat.add_zero]
            · rfl
          have go : ∀ z, wyA p a (i + 1) k = z → tot (gX10_ways_b75 N (gX10_ways_b55 N w) w2 (nI b) (nI i) (nI (byN p i)) (nI (k + 1)) (wA X 175 k (nI z))) (fun r => r.1 = nI (WY p a b) ∧ MSt r.2 p.n S ∧ mf V r.2) := by
            intro z hz
            refine hK2 () _ ⟨fun o ho => ?_, hJ.2.1.at (r5 _ _), hJ.2.2.trans (f5 _ _)⟩
            by_cases e : o = k
            · subst e
              try simp (disch := omega) only [wA_A, wF_F, wA_F, wF_A, wA_L, wF_L, wA_G, wF_G, true_and, and_true, and_self, if_true, if_false, if_pos, if_neg, hz]
            · have e3 := hJ.1 o ho
              by_cases e2 : o < k
              · rw [if_pos e2] at e3
                try simp (disch := omega) only [wA_A, wF_F, wA_F, wF_A, wA_L, wF_L, wA_G, wF_G, true_and, and_true, and_self, if_true, if_false, if_pos, if_neg, e3]
              · rw [if_neg e2] at e3
                try simp (disch := omega) only [wA_A, wF_F, wA_F, wF_A, wA_L, wF_L, wA_G, wF_G, true_and, and_true, and_self, if_true, if_false, if_pos, if_neg, e3]
          rw [wyA_s hi] at go
          by_cases hl : (p.le (byN p i)).testBit k = true
          · rw [if_pos hl, em]
            rw [if_pos hl, Nat.mul_one] at go
            try simp (disch := omega) only [fa_lit, ne_le, ne_lt, ne_eq', nI_add, pk_mul, pk_sub, rdA_n, wrA_n, rdL_n, wrL_n, nI_one, nI_bit1, nI_bit0, fa_or, fa_and, nI_df, nat31, Option.bind_some, m1_le0, m1_lt0, m1_eq, eq_m1, ite_nI, sub_m, pk_m1', not_lt0]
            exact go _ rfl
          · rw [if_neg hl]
            rw [if_neg hl, Nat.mul_zero] at go
            try simp (disch := omega) only [fa_lit, ne_le, ne_lt, ne_eq', nI_add, pk_mul, pk_sub, rdA_n, wrA_n, rdL_n, wrL_n, nI_one, nI_bit1, nI_bit0, fa_or, fa_and, nI_df, nat31, Option.bind_some, m1_le0, m1_lt0, m1_eq, eq_m1, ite_nI, sub_m, pk_m1', not_lt0]
            exact go _ rfl
        · intro w2 _ X hJ
          have h2 := h.mk hJ.2.2 hJ.2.1
          show tot (gX10_ways_b75 N (gX10_ways_b55 N w) (w2 + 1) (nI b) (nI i) (nI (byN p i)) (nI p.n) X) _
          unfold gX10_ways_b75
          try simp (disch := omega) only [fa_lit, ne_le, ne_lt, ne_eq', nI_add, pk_mul, pk_sub, rdA_n, wrA_n, rdL_n, wrL_n, nI_one, nI_bit1, nI_bit0, fa_or, fa_and, nI_df, nat31, Option.bind_some, m1_le0, m1_lt0, m1_eq, eq_m1, ite_nI, sub_m, pk_m1', not_lt0, h2.1.2.1.1]
          rw [if_pos (Nat.le_refl _)]
          exact hK () _ ⟨fun o ho => by rw [hJ.1 o ho, if_pos ho], hJ.2⟩
        · rw [if_neg (by omega)]
          exact hI.1 o ho
      · intro w _ W hI
        have h1 := h.mk hI.2.2 hI.2.1
        show tot (gX10_ways_b55 N (w + 1) (nI b) (nI p.n) W) _
        unfold gX10_ways_b55
        try simp (disch := omega) only [fa_lit, ne_le, ne_lt, ne_eq', nI_add, pk_mul, pk_sub, rdA_n, wrA_n, rdL_n, wrL_n, nI_one, nI_bit1, nI_bit0, fa_or, fa_and, nI_df, nat31, Option.bind_some, m1_le0, m1_lt0, m1_eq, eq_m1, ite_nI, sub_m, pk_m1', not_lt0, h1.1.2.1.1]
        rw [if_pos (Nat.le_refl _)]
        exact tot_some ⟨by rw [hI.1 b hb, wyA_n g ha hb], hI.2⟩
      · rw [hI.1 o (by omega)]
        have e : sm (fun x => if posN p x < 0 then WY p a x * (if (p.le x).testBit o = true then 1 else 0) else 0) p.n = 0 := (sm_congr (g := fun _ => 0) (fun x _ => if_neg (by omega))).trans (sm_zero p.n)
        unfold wyA
        rw [e, Nat.add_zero]
end PWays
