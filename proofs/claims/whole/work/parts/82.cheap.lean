/-! PURE: the cheapest; all; the most. -/
def oI (b : Option Nat) : Int32 := match b with
  | none => -nI 1
  | some j => nI j
def lcO (cst : Nat → Nat) (b : Option Nat) : Nat := match b with
  | none => 1000000
  | some j => cst j
/-- the first of the cheapest of those below k -/
def chN (cst : Nat → Nat) (q : Nat → Bool) : Nat → Option Nat
  | 0 => none
  | k + 1 => if q k = true ∧ cst k ≠ 1000000 then (match chN cst q k with
    | none => some k
    | some j => if cst k < cst j then some k else some j) else chN cst q k
theorem chN_lt {cst : Nat → Nat} {q : Nat → Bool} : ∀ {k j : Nat}, chN cst q k = some j → j < k ∧ cst j ≠ 1000000
  | 0, j, h => by cases h
  | k + 1, j, h => by
    rw [chN] at h
    split at h
    · rename_i hq
      cases hc : chN cst q k with
      | none =>
        rw [hc] at h
        cases h
        exact ⟨by omega, hq.2⟩
      | some i =>
        rw [hc] at h
        have h1 := chN_lt hc
        dsimp only at h
        split at h
        · cases h
          exact ⟨by omega, hq.2⟩
        · cases h
          exact ⟨by omega, h1.2⟩
    · have := chN_lt h
      exact ⟨by omega, this.2⟩
section PCheap
variable {E : VE} {V : VT} {p : PP} {S : ST} {m c N : Nat}
theorem c_chOf (h : CQ E V p S c) (hA : ∀ m, m < p.n → V.A 91 m = cI (costN p S m)) (hN : 1000 < N) {x : Nat} (hx : x < 2 ^ 31) : gX9_cheapestOf E N (nI x) V = some (oI (chN (costN p S) (fun m => x.testBit m) p.n), V) := by
  have hn := h.2.1.1.1
  have g := h.2.1.1
  unfold gX9_cheapestOf
  have key : ∀ w k, k ≤ p.n → p.n - k < w → gX9_cheapestOf_b4 E N w (nI x) (oI (chN (costN p S) (fun m => x.testBit m) k)) (nI k) V = some (oI (chN (costN p S) (fun m => x.testBit m) p.n), V) := by
    intro w
    induction w with
    | zero => intro k _ h; omega
    | succ w ih =>
      intro k hk hw
      unfold gX9_cheapestOf_b4 gX9_bit
      by_cases hc : k = p.n
      · subst hc
        try simp (disch := omega) only [fa_lit, ne_le, ne_lt, ne_eq', nI_add, pk_mul, pk_sub, rdA_n, wrA_n, rdL_n, wrL_n, nI_one, nI_bit1, nI_bit0, fa_or, fa_and, nI_df, nat31, Option.bind_some, m1_le0, m1_lt0, m1_eq, eq_m1, ite_nI, sub_m, pk_m1', not_lt0, h.2.1.2.1.1]
        rw [if_pos (Nat.le_refl _)]
      · have hk2 : k < p.n := by omega
        try simp (disch := omega) only [fa_lit, ne_le, ne_lt, ne_eq', nI_add, pk_mul, pk_sub, rdA_n, wrA_n, rdL_n, wrL_n, nI_one, nI_bit1, nI_bit0, fa_or, fa_and, nI_df, nat31, Option.bind_some, m1_le0, m1_lt0, m1_eq, eq_m1, ite_nI, sub_m, pk_m1', not_lt0, h.2.1.2.1.1]
        rw [if_neg (by omega)]
        have h2 := ih (k + 1) (by omega) (by omega)
        have h3 := costN_le g S k
        rw [chN] at h2
        by_cases hb2 : x.testBit k = true
        · rw [if_pos hb2]
          by_cases h4 : costN p S k = 1000000
          · rw [hA k hk2]
            unfold cI
            rw [if_pos h4, if_pos (by decide)]
            rw [if_neg (fun q => q.2 h4)] at h2
            exact h2
          · rw [if_pos ⟨hb2, h4⟩] at h2
            rw [hA k hk2]
            have e1 : cI (costN p S k) = nI (costN p S k) := if_neg h4
            rw [e1]
            try simp (disch := omega) only [fa_lit, ne_le, ne_lt, ne_eq', nI_add, pk_mul, pk_sub, rdA_n, wrA_n, rdL_n, wrL_n, nI_one, nI_bit1, nI_bit0, fa_or, fa_and, nI_df, nat31, Option.bind_some, m1_le0, m1_lt0, m1_eq, eq_m1, ite_nI, sub_m, pk_m1', not_lt0]
            rw [if_false]
            cases hch : chN (costN p S) (fun m => x.testBit m) k with
            | none =>
              rw [hch] at h2
              rw [show oI none = -nI 1 from rfl, if_pos rfl]
              exact h2
            | some j =>
              rw [hch] at h2
              have h5 := chN_lt hch
              have h6 := costN_le g S j
              have e2 : cI (costN p S j) = nI (costN p S j) := if_neg h5.2
              rw [show oI (some j) = nI j from rfl]
              try simp (disch := omega) only [fa_lit, ne_le, ne_lt, ne_eq', nI_add, pk_mul, pk_sub, rdA_n, wrA_n, rdL_n, wrL_n, nI_one, nI_bit1, nI_bit0, fa_or, fa_and, nI_df, nat31, Option.bind_some, m1_le0, m1_lt0, m1_eq, eq_m1, ite_nI, sub_m, pk_m1', not_lt0]
              rw [if_false, hA j (by omega), e2]
              try simp (disch := omega) only [fa_lit, ne_le, ne_lt, ne_eq', nI_add, pk_mul, pk_sub, rdA_n, wrA_n, rdL_n, wrL_n, nI_one, nI_bit1, nI_bit0, fa_or, fa_and, nI_df, nat31, Option.bind_some, m1_le0, m1_lt0, m1_eq, eq_m1, ite_nI, sub_m, pk_m1', not_lt0]
              dsimp only at h2
              by_cases h7 : costN p S k < costN p S j
              · rw [if_pos h7] at h2
                rw [if_neg (by omega)]
                exact h2
              · rw [if_neg h7] at h2
                rw [if_pos (by omega)]
                exact h2
        · rw [if_neg hb2]
          rw [if_neg (fun q => hb2 q.1)] at h2
          exact h2
  exact key N 0 (by omega) (by omega)
/-- by which it is made right -/
def chFor (p : PP) (S : ST) (m : Nat) : Option Nat := if (rightN p (meantN p S)).testBit m = true then some m else chN (costN p S) (fun o => (cmN p m ||| 2 ^ m).testBit o) p.n
theorem c_chFor (h : CQ E V p S c) (hA : ∀ m, m < p.n → V.A 91 m = cI (costN p S m)) (hN : 1000 < N) (hm : m < p.n) : gX9_cheapestFor E N (nI m) V = some (oI (chFor p S m), V) := by
  have hn := h.2.1.1.1
  have hp := pw_lt h.2.1.1
  have hr := right_lt p (meantN p S)
  have hl := cm_lt p m
  have h2m : (2 : Nat) ^ m < 2 ^ p.n := Nat.pow_lt_pow_right (by decide) hm
  have ho := Nat.or_lt_two_pow hl h2m
  unfold gX9_cheapestFor gX9_bit chFor
  rw [c_rgt h hN]
  try simp (disch := omega) only [fa_lit, ne_le, ne_lt, ne_eq', nI_add, pk_mul, pk_sub, rdA_n, wrA_n, rdL_n, wrL_n, nI_one, nI_bit1, nI_bit0, fa_or, fa_and, nI_df, nat31, Option.bind_some, m1_le0, m1_lt0, m1_eq, eq_m1, ite_nI, sub_m, pk_m1', not_lt0]
  by_cases hb : (rightN p (meantN p S)).testBit m = true
  · rw [if_pos hb, if_pos hb]
    rfl
  · rw [if_neg hb, if_neg hb, c_fruit h.2.1 hm hN]
    try simp (disch := omega) only [fa_lit, ne_le, ne_lt, ne_eq', nI_add, pk_mul, pk_sub, rdA_n, wrA_n, rdL_n, wrL_n, nI_one, nI_bit1, nI_bit0, fa_or, fa_and, nI_df, nat31, Option.bind_some, m1_le0, m1_lt0, m1_eq, eq_m1, ite_nI, sub_m, pk_m1', not_lt0]
    rw [c_chOf h hA hN (by omega)]
    rfl
theorem m_chFor (h : MQn V p S c) (hN : 1000 < N) (hm : m < p.n) : tot (gX10_cheapBy N (nI m) V) (fun r => r.1 = oI (chFor p S m) ∧ fr wkB nof V r.2) := by
  have hn := h.1.1.1
  have g := h.1.1
  have hp := pw_lt h.1.1
  have hr := right_lt p (meantN p S)
  have hl := cm_lt p m
  unfold gX10_cheapBy chFor
  rw [m_mnt h hN]
  simp only [Option.bind_some]
  rw [m_right h.1 (mnt_lt p S) hN]
  try simp (disch := omega) only [fa_lit, ne_le, ne_lt, ne_eq', nI_add, pk_mul, pk_sub, rdA_n, wrA_n, rdL_n, wrL_n, nI_one, nI_bit1, nI_bit0, fa_or, fa_and, nI_df, nat31, Option.bind_some, m1_le0, m1_lt0, m1_eq, eq_m1, ite_nI, sub_m, pk_m1', not_lt0]
  by_cases hb : (rightN p (meantN p S)).testBit m = true
  · rw [if_pos hb, if_pos hb]
    exact tot_some ⟨rfl, fr.rf⟩
  · rw [if_neg hb, if_neg hb]
    refine loop_T (F := fun w (b : Option Nat) k V => gX10_cheapBy_b27 N w (nI m) (oI b) (nI (lcO (costN p S) b)) (nI k) V) p.n (fun k b W => b = chN (costN p S) (fun o => (cmN p m ||| 2 ^ m).testBit o) k ∧ fr wkB nof V W) ?_ ?_ N 0 none V (by omega) (by omega) ⟨rfl, fr.rf⟩
    · intro w k b W hk hI hK
      obtain ⟨hb1, f1⟩ := hI
      have h1 := h.mk (wkB_mf f1) (wkB_st h.2.1 f1)
      have h3 := costN_le g S k
      have step : (cmN p m ||| 2 ^ m).testBit k = true → tot (gX10_cheapBy_b61 N (gX10_cheapBy_b27 N w) (nI m) (oI b) (nI (lcO (costN p S) b)) (nI k) W) (fun r => r.1 = oI (chN (costN p S) (fun o => (cmN p m ||| 2 ^ m).testBit o) p.n) ∧ fr wkB nof V r.2) := by
        intro hq
        unfold gX10_cheapBy_b61
        refine tot_bd (m_cost h1 hN hk) (fun r hr => ?_)
        rw [hr.1]
        have k1 := hK (some k) r.2
        have k2 := hK b r.2
        rw [chN] at k1 k2
        cases hch : b with
        | none =>
          subst hch
          rw [← hb1] at k1 k2
          rw [show lcO (costN p S) none = 1000000 from rfl]
          try simp (disch := omega) only [fa_lit, ne_le, ne_lt, ne_eq', nI_add, pk_mul, pk_sub, rdA_n, wrA_n, rdL_n, wrL_n, nI_one, nI_bit1, nI_bit0, fa_or, fa_and, nI_df, nat31, Option.bind_some, m1_le0, m1_lt0, m1_eq, eq_m1, ite_nI, sub_m, pk_m1', not_lt0]
          by_cases h4 : costN p S k = 1000000
          · rw [if_neg (fun q => q.2 h4)] at k2
            rw [if_neg (by omega)]
            exact k2 ⟨rfl, f1.trans hr.2⟩
          · rw [if_pos ⟨hq, h4⟩] at k1
            rw [if_pos (by omega)]
            exact k1 ⟨rfl, f1.trans hr.2⟩
        | some j =>
          subst hch
          have h5 := chN_lt hb1.symm
          have h6 := costN_le g S j
          rw [← hb1] at k1 k2
          rw [show lcO (costN p S) (some j) = costN p S j from rfl]
          try simp (disch := omega) only [fa_lit, ne_le, ne_lt, ne_eq', nI_add, pk_mul, pk_sub, rdA_n, wrA_n, rdL_n, wrL_n, nI_one, nI_bit1, nI_bit0, fa_or, fa_and, nI_df, nat31, Option.bind_some, m1_le0, m1_lt0, m1_eq, eq_m1, ite_nI, sub_m, pk_m1', not_lt0]
          by_cases h4 : costN p S k = 1000000
          · rw [if_neg (fun q => q.2 h4)] at k2
            rw [if_neg (by omega)]
            exact k2 ⟨rfl, f1.trans hr.2⟩
          · rw [if_pos ⟨hq, h4⟩] at k1 k2
            dsimp only at k1 k2
            by_cases h7 : costN p S k < costN p S j
            · rw [if_pos h7] at k1
              rw [if_pos h7]
              exact k1 ⟨rfl, f1.trans hr.2⟩
            · rw [if_neg h7] at k2
              rw [if_neg h7]
              exact k2 ⟨rfl, f1.trans hr.2⟩
      show tot (gX10_cheapBy_b27 N (w + 1) (nI m) (oI b) _ (nI k) W) _
      unfold gX10_cheapBy_b27
      try simp (disch := omega) only [fa_lit, ne_le, ne_lt, ne_eq', nI_add, pk_mul, pk_sub, rdA_n, wrA_n, rdL_n, wrL_n, nI_one, nI_bit1, nI_bit0, fa_or, fa_and, nI_df, nat31, Option.bind_some, m1_le0, m1_lt0, m1_eq, eq_m1, ite_nI, sub_m, pk_m1', not_lt0, h1.1.2.1.1, (h1.1.2.2.1 m hm).2.2.2.2.1]
      rw [if_neg (by omega)]
      by_cases hkm : k = m
      · rw [if_pos hkm]
        exact step ((or_tb _ _ _).mpr (Or.inr hkm))
      · rw [if_neg hkm]
        by_cases hq : (cmN p m).testBit k = true
        · rw [if_neg (by rw [hq]; decide)]
          exact step ((or_tb _ _ _).mpr (Or.inl hq))
        · rw [if_pos (by simpa using hq)]
          refine hK b W ⟨?_, f1⟩
          rw [chN, if_neg (fun q => ?_)]
          · exact hb1
          · rcases (or_tb _ _ _).mp q.1 with q | q
            · exact hq q
            · exact hkm q
    · intro w b W hI
      have h1 := h.mk (wkB_mf hI.2) (wkB_st h.2.1 hI.2)
      show tot (gX10_cheapBy_b27 N (w + 1) (nI m) (oI b) _ (nI p.n) W) _
      unfold gX10_cheapBy_b27
      try simp (disch := omega) only [fa_lit, ne_le, ne_lt, ne_eq', nI_add, pk_mul, pk_sub, rdA_n, wrA_n, rdL_n, wrL_n, nI_one, nI_bit1, nI_bit0, fa_or, fa_and, nI_df, nat31, Option.bind_some, m1_le0, m1_lt0, m1_eq, eq_m1, ite_nI, sub_m, pk_m1', not_lt0, h1.1.2.1.1]
      rw [if_pos (Nat.le_refl _)]
      exact tot_some ⟨by rw [hI.1], hI.2⟩
theorem oI_m1 {b : Option Nat} (h : ∀ j, b = some j → j < 2 ^ 31) : (oI b = -1) = (b = none) := by
  cases b with
  | none => exact eq_true rfl |>.trans (by simp)
  | some j =>
    have := eq_m1 (h j rfl)
    rw [show oI (some j) = nI j from rfl, show (-1 : Int32) = -nI 1 from rfl, this]
    simp
theorem oI_0 {b : Option Nat} (h : ∀ j, b = some j → j < 2 ^ 31) : (0 ≤ oI b) = ¬ (b = none) := by
  cases b with
  | none => exact propext ⟨fun q => absurd q (by decide), fun q => absurd rfl q⟩
  | some j =>
    rw [show oI (some j) = nI j from rfl, show (0 : Int32) = nI 0 from rfl, ne_le (by omega) (h j rfl)]
    simp
theorem chFor_lt (hn : p.n ≤ 7) (hm : m < p.n) : ∀ j, chFor p S m = some j → j < p.n := by
  intro j hj
  unfold chFor at hj
  split at hj
  · cases hj
    exact hm
  · exact (chN_lt hj).1
theorem q_cheap (hn : p.n ≤ 7) (hN : 1000 < N) (x y : Int32) : ∃ v, Qc E p S c (fun V => gX9_cheap E N x y V) v ∧ Qm p S c (fun V => gX10_cheap N x y V) v := by
  unfold gX9_cheap gX10_cheap
  refine qT (qM hn (fun m hm e => ?_))
  subst e
  refine qW 0 1 rfl rfl (by omega) (by omega) (fun k _ hk e => ?_)
  subst e
  have lt : ∀ j, chFor p S m = some j → j < 2 ^ 31 := fun j hj => by have := chFor_lt hn hm j hj; omega
  have rl := right_lt p (meantN p S)
  have pl := lt_pw hn
  refine ⟨match chFor p S m with | none => -2 | some j => if k = 1 then nI j else if (rightN p (meantN p S)).testBit m = true then nI 0 else nI (costN p S j), fun V h => ?_, fun V h => ?_⟩
  · dsimp only
    refine tot_bd (c_reckon h hN) (fun W hW => ?_)
    have h1 := h.fr hW.2
    rw [c_chFor h1 hW.1 hN hm]
    simp only [Option.bind_some, oI_m1 lt]
    cases hch : chFor p S m with
    | none =>
      rw [if_pos rfl]
      exact tot_some ⟨rfl, hW.2⟩
    | some j =>
      have hj := chFor_lt hn hm j hch
      rw [if_neg (by simp)]
      dsimp only
      unfold gX9_bit
      rw [c_rgt h1 hN]
      try simp (disch := omega) only [fa_lit, ne_le, ne_lt, ne_eq', nI_add, pk_mul, pk_sub, rdA_n, wrA_n, rdL_n, wrL_n, nI_one, nI_bit1, nI_bit0, fa_or, fa_and, nI_df, nat31, Option.bind_some, m1_le0, m1_lt0, m1_eq, eq_m1, ite_nI, sub_m, pk_m1', not_lt0, oI]
      by_cases k1 : k = 1
      · rw [if_pos k1, if_pos k1]
        exact tot_some ⟨rfl, hW.2⟩
      · rw [if_neg k1, if_neg k1]
        by_cases hb : (rightN p (meantN p S)).testBit m = true
        · rw [if_pos hb, if_pos hb]
          exact tot_some ⟨rfl, hW.2⟩
        · rw [if_neg hb, if_neg hb]
          refine tot_some ⟨?_, hW.2⟩
          dsimp only
          unfold chFor at hch
          rw [if_neg hb] at hch
          rw [hW.1 j hj]
          exact if_neg (chN_lt hch).2
  · dsimp only
    refine tot_bd (m_chFor h hN hm) (fun r hr => ?_)
    have f := wkB_mf hr.2
    have h1 := h.mk f (wkB_st h.2.1 hr.2)
    rw [hr.1]
    simp only [oI_0 lt]
    cases hch : chFor p S m with
    | none =>
      rw [if_neg (by simp)]
      exact tot_some ⟨rfl, h1.2.1, f⟩
    | some j =>
      have hj := chFor_lt hn hm j hch
      rw [if_pos (by simp), m_mnt h1 hN]
      simp only [Option.bind_some]
      rw [m_right h1.1 (mnt_lt p S) hN]
      try simp (disch := omega) only [fa_lit, ne_le, ne_lt, ne_eq', nI_add, pk_mul, pk_sub, rdA_n, wrA_n, rdL_n, wrL_n, nI_one, nI_bit1, nI_bit0, fa_or, fa_and, nI_df, nat31, Option.bind_some, m1_le0, m1_lt0, m1_eq, eq_m1, ite_nI, sub_m, pk_m1', not_lt0, oI]
      by_cases k1 : k = 1
      · rw [if_pos k1, if_pos k1]
        exact tot_some ⟨rfl, h1.2.1, f⟩
      · rw [if_neg k1, if_neg k1]
        by_cases hb : (rightN p (meantN p S)).testBit m = true
        · rw [if_pos hb, if_pos hb]
          exact tot_some ⟨rfl, h1.2.1, f⟩
        · rw [if_neg hb, if_neg hb]
          refine tot_bd (m_cost h1 hN hj) (fun r2 hr2 => ?_)
          exact tot_some ⟨hr2.1, wkB_st h1.2.1 hr2.2, f.trans (wkB_mf hr2.2)⟩
theorem q_wants (hn : p.n ≤ 7) (hN : 1000 < N) (x : Int32) : ∃ v, Qc E p S c (fun V => gX9_wants E N x V) v ∧ Qm p S c (fun V => gX10_wants N x V) v := by
  unfold gX9_wants gX10_wants
  refine qT (qM hn (fun m hm e => ?_))
  subst e
  refine ⟨wI (wN p S m), fun V h => ?_, fun V h => ?_⟩
  · refine tot_bd (c_want h hN hm) (fun r hr => ?_)
    exact tot_some ⟨hr.1, lw_sc hr.2⟩
  · refine tot_bd (m_want h hN hm) (fun r hr => ?_)
    exact tot_some ⟨hr.1, wkB_st h.2.1 hr.2, wkB_mf hr.2⟩
theorem q_cost (hn : p.n ≤ 7) (hN : 1000 < N) (g : GoodP p) (x : Int32) : ∃ v, Qc E p S c (fun V => gX9_cost E N x V) v ∧ Qm p S c (fun V => gX10_cost N x V) v := by
  unfold gX9_cost gX10_cost
  refine qT (qM hn (fun m hm e => ?_))
  subst e
  refine ⟨cI (costN p S m), fun V h => ?_, fun V h => ?_⟩
  · refine tot_bd (c_want h hN hm) (fun r hr => ?_)
    rw [hr.1, c_must (h.fr (lw_sc hr.2)) hm]
    exact tot_some ⟨rfl, lw_sc hr.2⟩
  · refine tot_bd (m_cost h hN hm) (fun r hr => ?_)
    have h3 := costN_le g S m
    rw [hr.1]
    unfold cI
    try simp (disch := omega) only [fa_lit, ne_le, ne_lt, ne_eq', nI_add, pk_mul, pk_sub, rdA_n, wrA_n, rdL_n, wrL_n, nI_one, nI_bit1, nI_bit0, fa_or, fa_and, nI_df, nat31, Option.bind_some, m1_le0, m1_lt0, m1_eq, eq_m1, ite_nI, sub_m, pk_m1', not_lt0]
    by_cases e : costN p S m = 1000000
    · rw [if_pos e, if_pos e]
      exact tot_some ⟨rfl, wkB_st h.2.1 hr.2, wkB_mf hr.2⟩
    · rw [if_neg e, if_neg e]
      exact tot_some ⟨rfl, wkB_st h.2.1 hr.2, wkB_mf hr.2⟩
theorem q_lost (hn : p.n ≤ 7) (hN : 1000 < N) : ∃ v, Qc E p S c (fun V => gX9_lost E N V) v ∧ Qm p S c (fun V => gX10_lost N V) v := by
  unfold gX9_lost gX10_lost
  have lt : ∀ m, m < p.n → ∀ j, chFor p S m = some j → j < 2 ^ 31 := fun m hm j hj => by have := chFor_lt hn hm j hj; omega
  refine qT ⟨nI (mk (fun m => (chFor p S m).isNone) p.n), fun V h => ?_, fun V h => ?_⟩
  · refine tot_bd (c_reckon h hN) (fun W hW => ?_)
    have h1 := h.fr hW.2
    have e : gX9_lost_b8 E N N 0 0 W = some (nI (mk (fun m => (chFor p S m).isNone) p.n), W) := by
      refine loop_mk (F := fun w a k => gX9_lost_b8 E N w (nI a) (nI k) W) p.n (fun m => (chFor p S m).isNone) (fun a => some (nI a, W)) ?_ ?_ N 0 (by omega) (by omega)
      · intro w k a R hk ha hR
        show gX9_lost_b8 E N (w + 1) (nI a) (nI k) W = R
        unfold gX9_lost_b8
        rw [c_chFor h1 hW.1 hN hk]
        simp only [Option.bind_some, oI_m1 (lt k hk)]
        try simp (disch := omega) only [fa_lit, ne_le, ne_lt, ne_eq', nI_add, pk_mul, pk_sub, rdA_n, wrA_n, rdL_n, wrL_n, nI_one, nI_bit1, nI_bit0, fa_or, fa_and, nI_df, nat31, Option.bind_some, m1_le0, m1_lt0, m1_eq, eq_m1, ite_nI, sub_m, pk_m1', not_lt0, h1.2.1.2.1.1]
        rw [if_neg (by omega)]
        cases hch : chFor p S k with
        | none =>
          simp only [hch] at hR
          exact hR
        | some j =>
          simp only [hch] at hR
          rw [if_neg (by simp)]
          simpa using hR
      · intro w a ha
        show gX9_lost_b8 E N (w + 1) (nI a) (nI p.n) W = _
        unfold gX9_lost_b8
        try simp (disch := omega) only [fa_lit, ne_le, ne_lt, ne_eq', nI_add, pk_mul, pk_sub, rdA_n, wrA_n, rdL_n, wrL_n, nI_one, nI_bit1, nI_bit0, fa_or, fa_and, nI_df, nat31, Option.bind_some, m1_le0, m1_lt0, m1_eq, eq_m1, ite_nI, sub_m, pk_m1', not_lt0, h1.2.1.2.1.1]
        rw [if_pos (Nat.le_refl _)]
    rw [e]
    exact tot_some ⟨rfl, hW.2⟩
  · refine loop_T (F := fun w (a : Nat) k V => gX10_lost_b9 N w (nI a) (nI k) V) p.n (fun k a W => a = mk (fun m => (chFor p S m).isNone) k ∧ MSt W p.n S ∧ mf V W) ?_ ?_ N 0 0 V (by omega) (by omega) ⟨rfl, h.2.1, mf.rf⟩
    · intro w k a W hk hI hK
      have h1 := h.mk hI.2.2 hI.2.1
      show tot (gX10_lost_b9 N (w + 1) (nI a) (nI k) W) _
      unfold gX10_lost_b9
      try simp (disch := omega) only [fa_lit, ne_le, ne_lt, ne_eq', nI_add, pk_mul, pk_sub, rdA_n, wrA_n, rdL_n, wrL_n, nI_one, nI_bit1, nI_bit0, fa_or, fa_and, nI_df, nat31, Option.bind_some, m1_le0, m1_lt0, m1_eq, eq_m1, ite_nI, sub_m, pk_m1', not_lt0, h1.1.2.1.1]
      rw [if_neg (by omega)]
      refine tot_bd (m_chFor h1 hN hk) (fun r hr => ?_)
      rw [hr.1]
      simp only [show nI 0 = (0 : Int32) from rfl, oI_0 (lt k hk)]
      have k1 := hK (a ||| 0) r.2
      have k2 := hK (a ||| 2 ^ k) r.2
      rw [mk, ← hI.1] at k1 k2
      cases hch : chFor p S k with
      | none =>
        rw [hch] at k2
        rw [if_neg (by simp)]
        exact k2 ⟨rfl, wkB_st hI.2.1 hr.2, hI.2.2.trans (wkB_mf hr.2)⟩
      | some j =>
        rw [hch] at k1
        rw [if_pos (by simp)]
        exact k1 ⟨rfl, wkB_st hI.2.1 hr.2, hI.2.2.trans (wkB_mf hr.2)⟩
    · intro w a W hI
      have h1 := h.mk hI.2.2 hI.2.1
      show tot (gX10_lost_b9 N (w + 1) (nI a) (nI p.n) W) _
      unfold gX10_lost_b9
      try simp (disch := omega) only [fa_lit, ne_le, ne_lt, ne_eq', nI_add, pk_mul, pk_sub, rdA_n, wrA_n, rdL_n, wrL_n, nI_one, nI_bit1, nI_bit0, fa_or, fa_and, nI_df, nat31, Option.bind_some, m1_le0, m1_lt0, m1_eq, eq_m1, ite_nI, sub_m, pk_m1', not_lt0, h1.1.2.1.1]
      rw [if_pos (Nat.le_refl _)]
      exact tot_some ⟨by rw [hI.1], hI.2.1, hI.2.2⟩
end PCheap
