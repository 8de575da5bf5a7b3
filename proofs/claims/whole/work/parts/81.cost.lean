/-! PURE: coats wanted and what they cost. -/
def lvN (p : PP) (S : ST) (m : Nat) : Nat → Nat
  | 0 => S.so m
  | k + 1 => sCoat p m (lvN p S m k) (S.co m + k) S.ye
theorem lvN_le {p : PP} {S : ST} {m c : Nat} (g : GoodS p c S) (hm : m < p.n) : ∀ k, lvN p S m k ≤ 40
  | 0 => (g.1 m hm).1
  | k + 1 => sCoat_le p _ _ (lvN_le g hm k)
def fst0 (f : Nat → Bool) : Nat → Nat → Nat
  | 0, k => k
  | j + 1, k => if f k = true then k else fst0 f j (k + 1)
theorem fst0_le (f : Nat → Bool) : ∀ j k, fst0 f j k ≤ k + j
  | 0, k => Nat.le_refl _
  | j + 1, k => by
    have := fst0_le f j (k + 1)
    rw [fst0]
    split <;> omega
theorem fst0_none {f : Nat → Bool} : ∀ {j k}, (∀ i, k ≤ i → f i = false) → fst0 f j k = k + j
  | 0, k, _ => rfl
  | j + 1, k, h => by
    rw [fst0, h k (Nat.le_refl k), fst0_none (fun i hi => h i (by omega))]
    simp
    omega
def wN (p : PP) (S : ST) (m : Nat) : Nat := fst0 (fun k => decide (lvN p S m k = 0)) 41 0
def wI (k : Nat) : Int32 := if k = 41 then -nI 1 else nI k
def costN (p : PP) (S : ST) (m : Nat) : Nat := if wN p S m = 41 then 1000000 else wN p S m * priceN p m
def cI (x : Nat) : Int32 := if x = 1000000 then -nI 1 else nI x
theorem wN_le (p : PP) (S : ST) (m : Nat) : wN p S m ≤ 41 := by
  have := fst0_le (fun k => decide (lvN p S m k = 0)) 41 0
  unfold wN
  omega
theorem costN_le {p : PP} (g : GoodP p) (S : ST) (m : Nat) : costN p S m ≤ 720 ∨ costN p S m = 1000000 := by
  have h1 := wN_le p S m
  have h2 := priceN_le g m
  unfold costN
  split
  · exact Or.inr rfl
  · refine Or.inl (Nat.le_trans (Nat.mul_le_mul (show wN p S m ≤ 40 by omega) h2) (by decide))
section PCost
variable {E : VE} {V : VT} {p : PP} {S : ST} {m c N : Nat}
theorem c_want (h : CQ E V p S c) (hN : 1000 < N) (hm : m < p.n) : tot (gX9_coatsWanted E N (nI m) V) (fun r => r.1 = wI (wN p S m) ∧ fr lwA lwF V r.2) := by
  have hn := h.2.1.1.1
  have g := h.2.2.2.1
  have hc := h.2.2.2.2
  have gm := g.1 m hm
  have g2 := g.2.2
  unfold gX9_coatsWanted
  try simp (disch := omega) only [fa_lit, ne_le, ne_lt, ne_eq', nI_add, pk_mul, pk_sub, rdA_n, wrA_n, rdL_n, wrL_n, nI_one, nI_bit1, nI_bit0, fa_or, fa_and, nI_df, nat31, Option.bind_some, m1_le0, m1_lt0, m1_eq, eq_m1, ite_nI, sub_m, pk_m1', not_lt0, (h.2.2.1.1 m hm).1]
  have key : ∀ w k V1, k ≤ 41 → 41 - k < w → CQ E V1 p S c → tot (gX9_coatsWanted_b12 E N w (nI m) (nI (lvN p S m k)) (nI k) V1) (fun r => r.1 = wI (fst0 (fun k => decide (lvN p S m k = 0)) (41 - k) k) ∧ fr lwA lwF V1 r.2) := by
    intro w
    induction w with
    | zero => intro k V1 _ h; omega
    | succ w ih =>
      intro k V1 hk hw h1
      have hl := lvN_le g hm k
      unfold gX9_coatsWanted_b12
      try simp (disch := omega) only [fa_lit, ne_le, ne_lt, ne_eq', nI_add, pk_mul, pk_sub, rdA_n, wrA_n, rdL_n, wrL_n, nI_one, nI_bit1, nI_bit0, fa_or, fa_and, nI_df, nat31, Option.bind_some, m1_le0, m1_lt0, m1_eq, eq_m1, ite_nI, sub_m, pk_m1', not_lt0, (h1.2.2.1.1 m hm).2, h1.2.2.1.2.2]
      by_cases h41 : 40 < k
      · rw [if_pos h41, show k = 41 by omega]
        exact tot_some ⟨rfl, fr.rf⟩
      · rw [if_neg h41, show 41 - k = (41 - (k + 1)) + 1 by omega, fst0]
        by_cases h0 : lvN p S m k = 0
        · rw [if_pos h0]
          simp only [h0, decide_true, if_true]
          refine tot_some ⟨?_, fr.rf⟩
          unfold wI
          rw [if_neg (by omega)]
        · rw [if_neg h0]
          simp only [h0, decide_false, if_false, Bool.false_eq_true]
          refine tot_bd (c_sCoat h1.2.1 hN hm hl) (fun r hr => ?_)
          have f1 := frL_lw h1.1 hr.2
          rw [hr.1]
          exact tot_mo (ih (k + 1) r.2 (by omega) (by omega) (h1.fr (lw_sc f1))) (fun r2 hr2 => ⟨hr2.1, f1.trans hr2.2⟩)
  exact key N 0 V (by omega) (by omega) h
theorem lvN_win (h3 : p.kd m = 3) : ∀ k, lvN p S m k = S.so m
  | 0 => rfl
  | k + 1 => by
    rw [lvN, sCoat, if_pos h3]
    exact lvN_win h3 k
theorem m_want (h : MQn V p S c) (hN : 1000 < N) (hm : m < p.n) : tot (gX10_wantsOf N (nI m) V) (fun r => r.1 = wI (wN p S m) ∧ fr wkB nof V r.2) := by
  have hn := h.1.1.1
  have g := h.2.2.1
  have hc := h.2.2.2
  have gm := g.1 m hm
  have g2 := g.2.2
  have gp := h.1.1.2.1 m hm
  unfold gX10_wantsOf
  try simp (disch := omega) only [fa_lit, ne_le, ne_lt, ne_eq', nI_add, pk_mul, pk_sub, rdA_n, wrA_n, rdL_n, wrL_n, nI_one, nI_bit1, nI_bit0, fa_or, fa_and, nI_df, nat31, Option.bind_some, m1_le0, m1_lt0, m1_eq, eq_m1, ite_nI, sub_m, pk_m1', not_lt0, (h.2.1.so hn hm).1]
  have key : ∀ w k V1, k ≤ 41 → 41 - k < w → MQn V1 p S c → tot (gX10_wantsOf_b11 N w (nI m) (nI (lvN p S m k)) (nI k) V1) (fun r => r.1 = wI (fst0 (fun k => decide (lvN p S m k = 0)) (41 - k) k) ∧ fr wkB nof V1 r.2) := by
    intro w
    induction w with
    | zero => intro k V1 _ h; omega
    | succ w ih =>
      intro k V1 hk hw h1
      have hl := lvN_le g hm k
      have tk := h.1.1.2.2.2.2 (lvN p S m k) (S.co m + k) (100 - p.bi m + S.ye)
      unfold gX10_wantsOf_b11 gX10_wantsOf_b61
      try simp (disch := omega) only [fa_lit, ne_le, ne_lt, ne_eq', nI_add, pk_mul, pk_sub, rdA_n, wrA_n, rdL_n, wrL_n, nI_one, nI_bit1, nI_bit0, fa_or, fa_and, nI_df, nat31, Option.bind_some, m1_le0, m1_lt0, m1_eq, eq_m1, ite_nI, sub_m, pk_m1', not_lt0, (h1.2.1.so hn hm).2, (h1.1.2.2.1 m hm).1]
      by_cases h41 : 40 < k
      · have e : k = 41 := by omega
        subst e
        by_cases h0 : lvN p S m 41 = 0
        · rw [if_pos (by omega), if_neg (by omega), if_neg (by omega)]
          exact tot_some ⟨rfl, fr.rf⟩
        · rw [if_neg (by omega), if_pos (by omega), if_pos (by omega)]
          exact tot_some ⟨rfl, fr.rf⟩
      · rw [show 41 - k = (41 - (k + 1)) + 1 by omega, fst0]
        by_cases h0 : lvN p S m k = 0
        · rw [if_pos (by omega), if_neg (by omega), if_pos (by omega)]
          simp only [h0, decide_true, if_true]
          refine tot_some ⟨?_, fr.rf⟩
          unfold wI
          rw [if_neg (by omega)]
        · rw [if_neg (by omega), if_neg (by omega)]
          simp only [h0, decide_false, if_false, Bool.false_eq_true]
          by_cases h3 : p.kd m = 3
          · rw [if_pos h3, if_pos (by omega)]
            refine tot_some ⟨?_, fr.rf⟩
            rw [fst0_none (fun i _ => ?_)]
            · unfold wI
              rw [if_pos (by omega)]
            · rw [lvN_win h3] at h0 ⊢
              simp [h0]
          · rw [if_neg h3]
            refine tot_bd (m_taken h1.1 hN hm h1.2.1.1) (fun r hr => ?_)
            have e : lvN p S m (k + 1) = lvN p S m k - p.tk (lvN p S m k) (S.co m + k) (100 - p.bi m + S.ye) := by
              rw [lvN, sCoat, if_neg h3]
            rw [hr.1]
            try simp (disch := omega) only [fa_lit, ne_le, ne_lt, ne_eq', nI_add, pk_mul, pk_sub, rdA_n, wrA_n, rdL_n, wrL_n, nI_one, nI_bit1, nI_bit0, fa_or, fa_and, nI_df, nat31, Option.bind_some, m1_le0, m1_lt0, m1_eq, eq_m1, ite_nI, sub_m, pk_m1', not_lt0]
            rw [← e]
            exact tot_mo (ih (k + 1) r.2 (by omega) (by omega) (h1.mk (wkB_mf hr.2) (wkB_st h1.2.1 hr.2))) (fun r2 hr2 => ⟨hr2.1, hr.2.trans hr2.2⟩)
  exact key N 0 V (by omega) (by omega) h
theorem c_must (h : CQ E V p S c) (hm : m < p.n) : gX9_mustardFor E (nI m) (wI (wN p S m)) V = some (cI (costN p S m), V) := by
  have h1 := wN_le p S m
  have h2 := priceN_le h.2.1.1 m
  unfold gX9_mustardFor costN wI cI
  by_cases e : wN p S m = 41
  · rw [if_pos e, if_pos (by decide), if_pos e, if_pos rfl]
    rfl
  · have h3 : wN p S m * priceN p m ≤ 720 := Nat.le_trans (Nat.mul_le_mul (show wN p S m ≤ 40 by omega) h2) (by decide)
    rw [if_neg e, if_neg e, show (-1 : Int32) = -nI 1 from rfl]
    try simp (disch := omega) only [fa_lit, ne_le, ne_lt, ne_eq', nI_add, pk_mul, pk_sub, rdA_n, wrA_n, rdL_n, wrL_n, nI_one, nI_bit1, nI_bit0, fa_or, fa_and, nI_df, nat31, Option.bind_some, m1_le0, m1_lt0, m1_eq, eq_m1, ite_nI, sub_m, pk_m1', not_lt0]
    rw [c_price h.2.1 hm, if_neg (show ¬ wN p S m * priceN p m = 1000000 by omega)]
    simp only [Option.bind_some, pk_mul, if_false]
theorem m_cost (h : MQn V p S c) (hN : 1000 < N) (hm : m < p.n) : tot (gX10_costOf N (nI m) V) (fun r => r.1 = nI (costN p S m) ∧ fr wkB nof V r.2) := by
  have h1 := wN_le p S m
  unfold gX10_costOf costN
  refine tot_bd (m_want h hN hm) (fun r hr => ?_)
  rw [hr.1]
  have h2 := h.mk (wkB_mf hr.2) (wkB_st h.2.1 hr.2)
  unfold wI
  by_cases e : wN p S m = 41
  · rw [if_pos e, if_pos e, if_neg (by decide)]
    exact tot_some ⟨rfl, hr.2⟩
  · rw [if_neg e, if_neg e, show (0 : Int32) = nI 0 from rfl, if_pos (nI_le (by omega) (by omega)), m_price h2.1 hm]
    refine tot_some ⟨?_, hr.2⟩
    dsimp only
    rw [pk_mul]
theorem c_reckon (h : CQ E V p S c) (hN : 1000 < N) : tot (gX9_reckonCosts E N V) (fun W => (∀ m, m < p.n → W.A 91 m = cI (costN p S m)) ∧ fr scA scF V W) := by
  have hn := h.2.1.1.1
  unfold gX9_reckonCosts
  refine loop_T (F := fun w (_ : Unit) k V => gX9_reckonCosts_b2 E N w (nI k) V) p.n (fun k _ W => fr scA scF V W ∧ ∀ m, m < k → W.A 91 m = cI (costN p S m)) ?_ ?_ N 0 () V (by omega) (by omega) ⟨fr.rf, fun m hm => by omega⟩
  · intro w k _ W hk hI hK
    have h1 := h.fr hI.1
    show tot (gX9_reckonCosts_b2 E N (w + 1) (nI k) W) _
    unfold gX9_reckonCosts_b2
    try simp (disch := omega) only [fa_lit, ne_le, ne_lt, ne_eq', nI_add, pk_mul, pk_sub, rdA_n, wrA_n, rdL_n, wrL_n, nI_one, nI_bit1, nI_bit0, fa_or, fa_and, nI_df, nat31, Option.bind_some, m1_le0, m1_lt0, m1_eq, eq_m1, ite_nI, sub_m, pk_m1', not_lt0, h1.2.1.2.1.1]
    rw [if_neg (by omega)]
    refine tot_bd (c_want h1 hN hk) (fun r hr => ?_)
    have h2 := h1.fr (lw_sc hr.2)
    rw [hr.1, c_must h2 hk]
    try simp (disch := omega) only [fa_lit, ne_le, ne_lt, ne_eq', nI_add, pk_mul, pk_sub, rdA_n, wrA_n, rdL_n, wrL_n, nI_one, nI_bit1, nI_bit0, fa_or, fa_and, nI_df, nat31, Option.bind_some, m1_le0, m1_lt0, m1_eq, eq_m1, ite_nI, sub_m, pk_m1', not_lt0]
    refine hK () _ ⟨(hI.1.trans (lw_sc hr.2)).trans (fr_A _ _ (by unfold scA; omega)), fun m hm => ?_⟩
    have e1 := hr.2.2.2.1 91 (by unfold lwA; omega)
    by_cases e : m = k
    · subst e
      try simp (disch := omega) only [wA_A, wF_F, wA_F, wF_A, wA_L, wF_L, wA_G, wF_G, true_and, and_true, and_self, if_true, if_false, if_pos, if_neg]
    · try simp (disch := omega) only [wA_A, wF_F, wA_F, wF_A, wA_L, wF_L, wA_G, wF_G, true_and, and_true, and_self, if_true, if_false, if_pos, if_neg, e1]
      exact hI.2 m (by omega)
  · intro w _ W hI
    have h1 := h.fr hI.1
    show tot (gX9_reckonCosts_b2 E N (w + 1) (nI p.n) W) _
    unfold gX9_reckonCosts_b2
    try simp (disch := omega) only [fa_lit, ne_le, ne_lt, ne_eq', nI_add, pk_mul, pk_sub, rdA_n, wrA_n, rdL_n, wrL_n, nI_one, nI_bit1, nI_bit0, fa_or, fa_and, nI_df, nat31, Option.bind_some, m1_le0, m1_lt0, m1_eq, eq_m1, ite_nI, sub_m, pk_m1', not_lt0, h1.2.1.2.1.1]
    rw [if_pos (Nat.le_refl _)]
    exact tot_some ⟨hI.2, hI.1⟩
theorem m_lays (h : MQn V p S c) (hN : 1000 < N) : tot (gX10_laysCosts N V) (fun W => (∀ m, m < p.n → W.A 174 m = nI (costN p S m)) ∧ MSt W p.n S ∧ mf V W) := by
  have hn := h.1.1.1
  unfold gX10_laysCosts
  refine loop_T (F := fun w (_ : Unit) k V => gX10_laysCosts_b2 N w (nI k) V) p.n (fun k _ W => mf V W ∧ MSt W p.n S ∧ ∀ m, m < k → W.A 174 m = nI (costN p S m)) ?_ ?_ N 0 () V (by omega) (by omega) ⟨mf.rf, h.2.1, fun m hm => by omega⟩
  · intro w k _ W hk hI hK
    have h1 := h.mk hI.1 hI.2.1
    show tot (gX10_laysCosts_b2 N (w + 1) (nI k) W) _
    unfold gX10_laysCosts_b2
    try simp (disch := omega) only [fa_lit, ne_le, ne_lt, ne_eq', nI_add, pk_mul, pk_sub, rdA_n, wrA_n, rdL_n, wrL_n, nI_one, nI_bit1, nI_bit0, fa_or, fa_and, nI_df, nat31, Option.bind_some, m1_le0, m1_lt0, m1_eq, eq_m1, ite_nI, sub_m, pk_m1', not_lt0, h1.1.2.1.1]
    rw [if_neg (by omega)]
    refine tot_bd (m_cost h1 hN hk) (fun r hr => ?_)
    rw [hr.1]
    try simp (disch := omega) only [fa_lit, ne_le, ne_lt, ne_eq', nI_add, pk_mul, pk_sub, rdA_n, wrA_n, rdL_n, wrL_n, nI_one, nI_bit1, nI_bit0, fa_or, fa_and, nI_df, nat31, Option.bind_some, m1_le0, m1_lt0, m1_eq, eq_m1, ite_nI, sub_m, pk_m1', not_lt0]
    have e2 := wkB_st hI.2.1 hr.2
    refine hK () _ ⟨(hI.1.trans (wkB_mf hr.2)).trans (mf_A _ _ (by unfold mxA; omega)), e2.at (wA_n _ _ _ (by omega)), fun m hm => ?_⟩
    have e1 := hr.2.2.2.1 174 (by unfold wkB; omega)
    by_cases e : m = k
    · subst e
      try simp (disch := omega) only [wA_A, wF_F, wA_F, wF_A, wA_L, wF_L, wA_G, wF_G, true_and, and_true, and_self, if_true, if_false, if_pos, if_neg]
    · try simp (disch := omega) only [wA_A, wF_F, wA_F, wF_A, wA_L, wF_L, wA_G, wF_G, true_and, and_true, and_self, if_true, if_false, if_pos, if_neg, e1]
      exact hI.2.2 m (by omega)
  · intro w _ W hI
    have h1 := h.mk hI.1 hI.2.1
    show tot (gX10_laysCosts_b2 N (w + 1) (nI p.n) W) _
    unfold gX10_laysCosts_b2
    try simp (disch := omega) only [fa_lit, ne_le, ne_lt, ne_eq', nI_add, pk_mul, pk_sub, rdA_n, wrA_n, rdL_n, wrL_n, nI_one, nI_bit1, nI_bit0, fa_or, fa_and, nI_df, nat31, Option.bind_some, m1_le0, m1_lt0, m1_eq, eq_m1, ite_nI, sub_m, pk_m1', not_lt0, h1.1.2.1.1]
    rw [if_pos (Nat.le_refl _)]
    exact tot_some ⟨hI.2.2, hI.2.1, hI.1⟩
/-- what a set costs -/
def csN (p : PP) (S : ST) (x : Nat) (k : Nat) : Nat := sm (fun m => if x.testBit m = true then costN p S m else 0) k
def ctN (p : PP) (S : ST) (x : Nat) : Nat := if csN p S x p.n < 1000000 then csN p S x p.n else 1000000
theorem csN_mono (p : PP) (S : ST) (x : Nat) {j k : Nat} (h : j ≤ k) : csN p S x j ≤ csN p S x k := by
  induction k with
  | zero => rw [show j = 0 by omega]; exact Nat.le_refl _
  | succ k ih =>
    by_cases e : j = k + 1
    · rw [e]
      exact Nat.le_refl _
    · have := ih (by omega)
      unfold csN at *
      rw [sm]
      omega
theorem csN_le (p : PP) (g : GoodP p) (S : ST) (x k : Nat) : csN p S x k ≤ 1000000 * k := by
  unfold csN
  refine sm_le (fun i _ => ?_)
  split
  · have := costN_le g S i
    omega
  · omega
theorem c_cset (h : CQ E V p S c) (hA : ∀ m, m < p.n → V.A 91 m = cI (costN p S m)) (hN : 1000 < N) {x : Nat} (hx : x < 2 ^ 31) : gX9_costOfSet E N (nI x) V = some (cI (ctN p S x), V) := by
  have hn := h.2.1.1.1
  have g := h.2.1.1
  unfold gX9_costOfSet
  have key : ∀ w k, k ≤ p.n → p.n - k < w → csN p S x k ≤ 720 * k → gX9_costOfSet_b4 E N w (nI x) (nI (csN p S x k)) (nI k) V = some (cI (ctN p S x), V) := by
    intro w
    induction w with
    | zero => intro k _ h; omega
    | succ w ih =>
      intro k hk hw hb
      unfold gX9_costOfSet_b4 gX9_bit
      by_cases hc : k = p.n
      · subst hc
        try simp (disch := omega) only [fa_lit, ne_le, ne_lt, ne_eq', nI_add, pk_mul, pk_sub, rdA_n, wrA_n, rdL_n, wrL_n, nI_one, nI_bit1, nI_bit0, fa_or, fa_and, nI_df, nat31, Option.bind_some, m1_le0, m1_lt0, m1_eq, eq_m1, ite_nI, sub_m, pk_m1', not_lt0, h.2.1.2.1.1]
        rw [if_pos (Nat.le_refl _)]
        have e : ctN p S x = csN p S x p.n := if_pos (by omega)
        rw [e]
        unfold cI
        rw [if_neg (by omega)]
      · have hk2 : k < p.n := by omega
        try simp (disch := omega) only [fa_lit, ne_le, ne_lt, ne_eq', nI_add, pk_mul, pk_sub, rdA_n, wrA_n, rdL_n, wrL_n, nI_one, nI_bit1, nI_bit0, fa_or, fa_and, nI_df, nat31, Option.bind_some, m1_le0, m1_lt0, m1_eq, eq_m1, ite_nI, sub_m, pk_m1', not_lt0, h.2.1.2.1.1]
        rw [if_neg (by omega)]
        have e : csN p S x (k + 1) = csN p S x k + (if x.testBit k = true then costN p S k else 0) := rfl
        have h2 := ih (k + 1) (by omega) (by omega)
        have h3 := costN_le g S k
        by_cases hb2 : x.testBit k = true
        · rw [if_pos hb2] at e ⊢
          rw [hA k hk2]
          unfold cI
          by_cases h4 : costN p S k = 1000000
          · rw [if_pos h4, if_pos (by decide)]
            have h5 := csN_mono p S x (show k + 1 ≤ p.n by omega)
            unfold ctN
            rw [if_neg (show ¬ csN p S x p.n < 1000000 by omega), if_pos rfl]
          · rw [if_neg h4]
            try simp (disch := omega) only [fa_lit, ne_le, ne_lt, ne_eq', nI_add, pk_mul, pk_sub, rdA_n, wrA_n, rdL_n, wrL_n, nI_one, nI_bit1, nI_bit0, fa_or, fa_and, nI_df, nat31, Option.bind_some, m1_le0, m1_lt0, m1_eq, eq_m1, ite_nI, sub_m, pk_m1', not_lt0]
            rw [if_false, ← e]
            exact h2 (by omega)
        · rw [if_neg hb2] at e ⊢
          rw [e] at h2
          exact h2 (by omega)
  exact key N 0 (by omega) (by omega) (by unfold csN sm; omega)
theorem m_cset (h : MQn V p S c) (hA : ∀ m, m < p.n → V.A 174 m = nI (costN p S m)) (hN : 1000 < N) {x : Nat} (hx : x < 2 ^ 31) : gX10_costsOf N (nI x) V = some (nI (ctN p S x), V) := by
  have hn := h.1.1.1
  have g := h.1.1
  unfold gX10_costsOf
  have hl := csN_le p g S x p.n
  refine loop_sm (F := fun w a k => gX10_costsOf_b4 N w (nI x) (nI a) (nI k) V) p.n (fun m => if x.testBit m = true then costN p S m else 0) (fun _ => some (nI (ctN p S x), V)) ?_ ?_ N 0 (by omega) (by omega)
  · intro w k R hk hR
    show gX10_costsOf_b4 N (w + 1) (nI x) (nI _) (nI k) V = R
    unfold gX10_costsOf_b4
    try simp (disch := omega) only [fa_lit, ne_le, ne_lt, ne_eq', nI_add, pk_mul, pk_sub, rdA_n, wrA_n, rdL_n, wrL_n, nI_one, nI_bit1, nI_bit0, fa_or, fa_and, nI_df, nat31, Option.bind_some, m1_le0, m1_lt0, m1_eq, eq_m1, ite_nI, sub_m, pk_m1', not_lt0, h.1.2.1.1]
    rw [if_neg (by omega), hA k hk]
    by_cases hb2 : x.testBit k = true
    · simp only [if_pos hb2] at hR
      rw [if_pos hb2]
      simp only [Option.bind_some, nI_add]
      exact hR
    · simp only [if_neg hb2] at hR
      rw [if_neg hb2]
      exact hR
  · intro w
    have hl2 : sm (fun m => if x.testBit m = true then costN p S m else 0) p.n ≤ 1000000 * p.n := hl
    show gX10_costsOf_b4 N (w + 1) (nI x) (nI _) (nI p.n) V = _
    unfold gX10_costsOf_b4
    try simp (disch := omega) only [fa_lit, ne_le, ne_lt, ne_eq', nI_add, pk_mul, pk_sub, rdA_n, wrA_n, rdL_n, wrL_n, nI_one, nI_bit1, nI_bit0, fa_or, fa_and, nI_df, nat31, Option.bind_some, m1_le0, m1_lt0, m1_eq, eq_m1, ite_nI, sub_m, pk_m1', not_lt0, h.1.2.1.1]
    rw [if_pos (Nat.le_refl _)]
    rfl
end PCost
