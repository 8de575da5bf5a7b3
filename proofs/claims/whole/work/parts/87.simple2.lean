/-! PURE: bare, sourest, elders, causes, fruits, roots, redeems. -/
section PSimple2
variable {E : VE} {V : VT} {p : PP} {S : ST} {m c N : Nat}
theorem q_bare (g : GoodP p) (hN : 1000 < N) : ∃ v, Qc E p S c (fun V => gX9_bare E N V) v ∧ Qm p S c (fun V => gX10_bare N V) v := by
  unfold gX9_bare gX10_bare
  have hn := g.1
  refine qT ⟨nI (mk (fun m => decide (p.kd m = 3) && decide (S.so m ≠ 0)) p.n), fun V h => ?_, fun V h => ?_⟩
  · refine tot_eq (a := (nI (mk (fun m => decide (p.kd m = 3) && decide (S.so m ≠ 0)) p.n), V)) ?_ ⟨rfl, fr.rf⟩
    refine loop_mk (F := fun w a k => gX9_bare_b4 E N w (nI a) (nI k) V) p.n (fun m => decide (p.kd m = 3) && decide (S.so m ≠ 0)) (fun a => some (nI a, V)) ?_ ?_ N 0 (by omega) (by omega)
    · intro w k a R hk ha hR
      have gs := h.2.2.2.1.1 k hk
      have gp := g.2.1 k hk
      show gX9_bare_b4 E N (w + 1) (nI a) (nI k) V = R
      unfold gX9_bare_b4
      try simp (disch := omega) only [fa_lit, ne_le, ne_lt, ne_eq', nI_add, pk_mul, pk_sub, rdA_n, wrA_n, rdL_n, wrL_n, nI_one, nI_bit1, nI_bit0, fa_or, fa_and, nI_df, nat31, Option.bind_some, m1_le0, m1_lt0, m1_eq, eq_m1, ite_nI, sub_m, pk_m1', not_lt0, h.2.1.2.1.1, (h.2.1.2.2.1 k hk).1, (h.2.2.1.1 k hk).1]
      rw [if_neg (by omega)]
      by_cases e1 : p.kd k = 3
      · rw [if_pos e1]
        by_cases e2 : S.so k = 0
        · rw [if_pos e2]
          simpa [e1, e2] using hR
        · rw [if_neg e2]
          simpa [e1, e2] using hR
      · rw [if_neg e1]
        simpa [e1] using hR
    · intro w a ha
      show gX9_bare_b4 E N (w + 1) (nI a) (nI p.n) V = _
      unfold gX9_bare_b4
      try simp (disch := omega) only [fa_lit, ne_le, ne_lt, ne_eq', nI_add, pk_mul, pk_sub, rdA_n, wrA_n, rdL_n, wrL_n, nI_one, nI_bit1, nI_bit0, fa_or, fa_and, nI_df, nat31, Option.bind_some, m1_le0, m1_lt0, m1_eq, eq_m1, ite_nI, sub_m, pk_m1', not_lt0, h.2.1.2.1.1]
      rw [if_pos (Nat.le_refl _)]
  · refine tot_eq (a := (nI (mk (fun m => decide (p.kd m = 3) && decide (S.so m ≠ 0)) p.n), V)) ?_ ⟨rfl, h.2.1, mf.rf⟩
    refine loop_mk (F := fun w a k => gX10_bare_b9 N w (nI a) (nI k) V) p.n (fun m => decide (p.kd m = 3) && decide (S.so m ≠ 0)) (fun a => some (nI a, V)) ?_ ?_ N 0 (by omega) (by omega)
    · intro w k a R hk ha hR
      have gs := h.2.2.1.1 k hk
      have gp := g.2.1 k hk
      show gX10_bare_b9 N (w + 1) (nI a) (nI k) V = R
      unfold gX10_bare_b9
      try simp (disch := omega) only [fa_lit, ne_le, ne_lt, ne_eq', nI_add, pk_mul, pk_sub, rdA_n, wrA_n, rdL_n, wrL_n, nI_one, nI_bit1, nI_bit0, fa_or, fa_and, nI_df, nat31, Option.bind_some, m1_le0, m1_lt0, m1_eq, eq_m1, ite_nI, sub_m, pk_m1', not_lt0, h.1.2.1.1, (h.1.2.2.1 k hk).1, (h.2.1.so hn hk).1]
      rw [if_neg (by omega)]
      by_cases e1 : p.kd k = 3
      · rw [if_pos e1]
        by_cases e2 : S.so k = 0
        · rw [if_pos (by omega)]
          simpa [e1, e2] using hR
        · rw [if_neg (by omega)]
          simpa [e1, e2] using hR
      · rw [if_neg e1]
        simpa [e1] using hR
    · intro w a ha
      show gX10_bare_b9 N (w + 1) (nI a) (nI p.n) V = _
      unfold gX10_bare_b9
      try simp (disch := omega) only [fa_lit, ne_le, ne_lt, ne_eq', nI_add, pk_mul, pk_sub, rdA_n, wrA_n, rdL_n, wrL_n, nI_one, nI_bit1, nI_bit0, fa_or, fa_and, nI_df, nat31, Option.bind_some, m1_le0, m1_lt0, m1_eq, eq_m1, ite_nI, sub_m, pk_m1', not_lt0, h.1.2.1.1]
      rw [if_pos (Nat.le_refl _)]
/-- the sourest of those below k -/
def srN (S : ST) : Nat → Option Nat
  | 0 => none
  | k + 1 => if (match srN S k with | none => 0 | some j => S.so j) < S.so k then some k else srN S k
def srV (S : ST) (b : Option Nat) : Nat := match b with
  | none => 0
  | some j => S.so j
theorem srN_s (S : ST) (k : Nat) : srN S (k + 1) = if srV S (srN S k) < S.so k then some k else srN S k := rfl
theorem srN_lt {S : ST} : ∀ {k j : Nat}, srN S k = some j → j < k
  | 0, j, h => by cases h
  | k + 1, j, h => by
    rw [srN_s] at h
    split at h
    · cases h
      omega
    · have := srN_lt h
      omega
theorem q_sourest (g : GoodP p) (hN : 1000 < N) : ∃ v, Qc E p S c (fun V => gX9_sourest E N V) v ∧ Qm p S c (fun V => gX10_sourest N V) v := by
  unfold gX9_sourest gX10_sourest
  have hn := g.1
  refine qT ⟨oI (srN S p.n), fun V h => ?_, fun V h => ?_⟩
  · have gs := h.2.2.2.1
    have key : ∀ w k, k ≤ p.n → p.n - k < w → gX9_sourest_b6 E N w (oI (srN S k)) (nI (srV S (srN S k))) (nI k) V = some (oI (srN S p.n), V) := by
      intro w
      induction w with
      | zero => intro k _ h; omega
      | succ w ih =>
        intro k hk hw
        have hv : srV S (srN S k) ≤ 40 := by
          cases hb : srN S k with
          | none => exact Nat.zero_le _
          | some j => exact (gs.1 j (by have := srN_lt hb; omega)).1
        unfold gX9_sourest_b6
        by_cases hc : k = p.n
        · rw [hc]
          try simp (disch := omega) only [fa_lit, ne_le, ne_lt, ne_eq', nI_add, pk_mul, pk_sub, rdA_n, wrA_n, rdL_n, wrL_n, nI_one, nI_bit1, nI_bit0, fa_or, fa_and, nI_df, nat31, Option.bind_some, m1_le0, m1_lt0, m1_eq, eq_m1, ite_nI, sub_m, pk_m1', not_lt0, h.2.1.2.1.1]
          rw [if_pos (Nat.le_refl _)]
        · have h2 := ih (k + 1) (by omega) (by omega)
          have hs := (gs.1 k (by omega)).1
          rw [srN_s] at h2
          try simp (disch := omega) only [fa_lit, ne_le, ne_lt, ne_eq', nI_add, pk_mul, pk_sub, rdA_n, wrA_n, rdL_n, wrL_n, nI_one, nI_bit1, nI_bit0, fa_or, fa_and, nI_df, nat31, Option.bind_some, m1_le0, m1_lt0, m1_eq, eq_m1, ite_nI, sub_m, pk_m1', not_lt0, h.2.1.2.1.1, (h.2.2.1.1 k (by omega)).1]
          rw [if_neg (by omega)]
          by_cases e : srV S (srN S k) < S.so k
          · rw [if_pos e] at h2
            rw [if_neg (by omega)]
            exact h2
          · rw [if_neg e] at h2
            rw [if_pos (by omega)]
            exact h2
    exact tot_eq (key N 0 (by omega) (by omega)) ⟨rfl, fr.rf⟩
  · have gs := h.2.2.1
    have key : ∀ w k, k ≤ p.n → p.n - k < w → gX10_sourest_b9 N w (oI (srN S k)) (nI k) V = some (oI (srN S p.n), V) := by
      intro w
      induction w with
      | zero => intro k _ h; omega
      | succ w ih =>
        intro k hk hw
        unfold gX10_sourest_b9 gX10_sourest_b43
        by_cases hc : k = p.n
        · rw [hc]
          try simp (disch := omega) only [fa_lit, ne_le, ne_lt, ne_eq', nI_add, pk_mul, pk_sub, rdA_n, wrA_n, rdL_n, wrL_n, nI_one, nI_bit1, nI_bit0, fa_or, fa_and, nI_df, nat31, Option.bind_some, m1_le0, m1_lt0, m1_eq, eq_m1, ite_nI, sub_m, pk_m1', not_lt0, h.1.2.1.1]
          rw [if_pos (Nat.le_refl _)]
        · have h2 := ih (k + 1) (by omega) (by omega)
          have hs := (gs.1 k (by omega)).1
          rw [srN_s] at h2
          try simp (disch := omega) only [fa_lit, ne_le, ne_lt, ne_eq', nI_add, pk_mul, pk_sub, rdA_n, wrA_n, rdL_n, wrL_n, nI_one, nI_bit1, nI_bit0, fa_or, fa_and, nI_df, nat31, Option.bind_some, m1_le0, m1_lt0, m1_eq, eq_m1, ite_nI, sub_m, pk_m1', not_lt0, h.1.2.1.1, (h.2.1.so hn (show k < p.n by omega)).1]
          rw [if_neg (by omega)]
          cases hb : srN S k with
          | none =>
            rw [hb] at h2
            rw [if_neg (by decide)]
            by_cases e : srV S none < S.so k
            · rw [if_pos e] at h2
              rw [if_neg (by simp only [srV] at e; omega)]
              exact h2
            · rw [if_neg e] at h2
              rw [if_pos (by simp only [srV] at e; omega)]
              exact h2
          | some j =>
            have hj := srN_lt hb
            have hsj := (gs.1 j (by omega)).1
            rw [hb] at h2
            rw [show oI (some j) = nI j from rfl]
            try simp (disch := omega) only [fa_lit, ne_le, ne_lt, ne_eq', nI_add, pk_mul, pk_sub, rdA_n, wrA_n, rdL_n, wrL_n, nI_one, nI_bit1, nI_bit0, fa_or, fa_and, nI_df, nat31, Option.bind_some, m1_le0, m1_lt0, m1_eq, eq_m1, ite_nI, sub_m, pk_m1', not_lt0, (h.2.1.so hn (show j < p.n by omega)).1]
            rw [if_pos (by omega)]
            by_cases e : srV S (some j) < S.so k
            · rw [if_pos e] at h2
              rw [if_neg (by simp only [srV] at e; omega)]
              exact h2
            · rw [if_neg e] at h2
              rw [if_pos (by simp only [srV] at e; omega)]
              exact h2
    exact tot_eq (key N 0 (by omega) (by omega)) ⟨rfl, h.2.1, mf.rf⟩
theorem q_elders (g : GoodP p) (hN : 1000 < N) (x : Int32) : ∃ v, Qc E p S c (fun V => gX9_elders E N x V) v ∧ Qm p S c (fun V => gX10_elders N x V) v := by
  unfold gX9_elders gX10_elders
  have hn := g.1
  refine qT (qM hn (fun m hm e => ?_))
  subst e
  refine ⟨nI (eldN p m), fun V h => ?_, fun V h => ?_⟩
  · dsimp only
    rw [c_elder h.2.1 hm hN]
    exact tot_some ⟨rfl, fr.rf⟩
  · refine tot_eq (a := (nI (eldN p m), V)) ?_ ⟨rfl, h.2.1, mf.rf⟩
    refine loop_mk (F := fun w a k => gX10_elders_b19 N w (nI m) (nI a) (nI k) V) p.n (fun o => decide (p.bi o < p.bi m)) (fun a => some (nI a, V)) ?_ ?_ N 0 (by omega) (by omega)
    · intro w k a R hk ha hR
      have gk := g.2.1 k hk
      have gm := g.2.1 m hm
      show gX10_elders_b19 N (w + 1) (nI m) (nI a) (nI k) V = R
      unfold gX10_elders_b19
      try simp (disch := omega) only [fa_lit, ne_le, ne_lt, ne_eq', nI_add, pk_mul, pk_sub, rdA_n, wrA_n, rdL_n, wrL_n, nI_one, nI_bit1, nI_bit0, fa_or, fa_and, nI_df, nat31, Option.bind_some, m1_le0, m1_lt0, m1_eq, eq_m1, ite_nI, sub_m, pk_m1', not_lt0, h.1.2.1.1, (h.1.2.2.1 k hk).2.1, (h.1.2.2.1 m hm).2.1]
      rw [if_neg (by omega)]
      by_cases e : p.bi k < p.bi m
      · rw [if_pos e]
        simpa [e] using hR
      · rw [if_neg e]
        simpa [e] using hR
    · intro w a ha
      show gX10_elders_b19 N (w + 1) (nI m) (nI a) (nI p.n) V = _
      unfold gX10_elders_b19
      try simp (disch := omega) only [fa_lit, ne_le, ne_lt, ne_eq', nI_add, pk_mul, pk_sub, rdA_n, wrA_n, rdL_n, wrL_n, nI_one, nI_bit1, nI_bit0, fa_or, fa_and, nI_df, nat31, Option.bind_some, m1_le0, m1_lt0, m1_eq, eq_m1, ite_nI, sub_m, pk_m1', not_lt0, h.1.2.1.1]
      rw [if_pos (Nat.le_refl _)]
theorem shl01 (b : Bool) {k : Nat} (hk : k < 31) : nI (if b = true then 1 else 0) <<< nI k = nI (if b = true then 2 ^ k else 0) := by
  cases b with
  | true => exact nI_one k hk
  | false =>
    have key : ∀ k, k < 31 → nI 0 <<< nI k = nI 0 := by decide +kernel
    exact key k hk
theorem q_causes (g : GoodP p) (hN : 1000 < N) (x : Int32) : ∃ v, Qc E p S c (fun V => gX9_causes E N x V) v ∧ Qm p S c (fun V => gX10_causes N x V) v := by
  unfold gX9_causes gX10_causes
  have hn := g.1
  have hp := pw1 hn
  refine qT (qM hn (fun m hm e => ?_))
  subst e
  refine ⟨nI (causeN p m), fun V h => ?_, fun V h => ?_⟩
  · dsimp only
    rw [c_cause h.2.1 hm hN]
    exact tot_some ⟨rfl, fr.rf⟩
  · refine tot_eq (a := (nI (causeN p m), V)) ?_ ⟨rfl, h.2.1, mf.rf⟩
    refine loop_mk (F := fun w a k => gX10_causes_b19 N w (nI m) (nI a) (nI k) V) p.n (fun o => (cmN p o).testBit m) (fun a => some (nI a, V)) ?_ ?_ N 0 (by omega) (by omega)
    · intro w k a R hk ha hR
      have hl := cm_lt p k
      show gX10_causes_b19 N (w + 1) (nI m) (nI a) (nI k) V = R
      unfold gX10_causes_b19
      try simp (disch := omega) only [fa_lit, ne_le, ne_lt, ne_eq', nI_add, pk_mul, pk_sub, rdA_n, wrA_n, rdL_n, wrL_n, nI_one, nI_bit1, nI_bit0, fa_or, fa_and, nI_df, nat31, Option.bind_some, m1_le0, m1_lt0, m1_eq, eq_m1, ite_nI, sub_m, pk_m1', not_lt0, h.1.2.1.1, (h.1.2.2.1 k hk).2.2.2.2.1, nI_bit, shl01]
      rw [if_neg (by omega)]
      exact hR
    · intro w a ha
      show gX10_causes_b19 N (w + 1) (nI m) (nI a) (nI p.n) V = _
      unfold gX10_causes_b19
      try simp (disch := omega) only [fa_lit, ne_le, ne_lt, ne_eq', nI_add, pk_mul, pk_sub, rdA_n, wrA_n, rdL_n, wrL_n, nI_one, nI_bit1, nI_bit0, fa_or, fa_and, nI_df, nat31, Option.bind_some, m1_le0, m1_lt0, m1_eq, eq_m1, ite_nI, sub_m, pk_m1', not_lt0, h.1.2.1.1]
      rw [if_pos (Nat.le_refl _)]
theorem q_fruits (g : GoodP p) (hN : 1000 < N) (x : Int32) : ∃ v, Qc E p S c (fun V => gX9_fruits E N x V) v ∧ Qm p S c (fun V => gX10_fruits x V) v := by
  unfold gX9_fruits gX10_fruits
  have hn := g.1
  refine qT (qM hn (fun m hm e => ?_))
  subst e
  refine ⟨nI (cmN p m), fun V h => ?_, fun V h => ?_⟩
  · dsimp only
    rw [c_fruit h.2.1 hm hN]
    exact tot_some ⟨rfl, fr.rf⟩
  · dsimp only
    try simp (disch := omega) only [fa_lit, ne_le, ne_lt, ne_eq', nI_add, pk_mul, pk_sub, rdA_n, wrA_n, rdL_n, wrL_n, nI_one, nI_bit1, nI_bit0, fa_or, fa_and, nI_df, nat31, Option.bind_some, m1_le0, m1_lt0, m1_eq, eq_m1, ite_nI, sub_m, pk_m1', not_lt0, (h.1.2.2.1 m hm).2.2.2.2.1]
    exact tot_some ⟨rfl, h.2.1, mf.rf⟩
theorem q_roots (g : GoodP p) (hN : 1000 < N) : ∃ v, Qc E p S c (fun V => gX9_roots E N V) v ∧ Qm p S c (fun V => gX10_roots N V) v := by
  unfold gX9_roots gX10_roots
  have hn := g.1
  refine qT ⟨nI (rootN p), fun V h => ?_, fun V h => ?_⟩
  · dsimp only
    rw [c_root h.2.1 hN]
    exact tot_some ⟨rfl, fr.rf⟩
  · have key : ∀ w k, k ≤ p.n → p.n - k < w → gX10_roots_b12 N w (nI (nDf (2 ^ p.n - 1) (orN p.le k))) (nI k) V = some (nI (rootN p), V) := by
      intro w
      induction w with
      | zero => intro k _ h; omega
      | succ w ih =>
        intro k hk hw
        unfold gX10_roots_b12
        by_cases hc : k = p.n
        · rw [hc]
          try simp (disch := omega) only [fa_lit, ne_le, ne_lt, ne_eq', nI_add, pk_mul, pk_sub, rdA_n, wrA_n, rdL_n, wrL_n, nI_one, nI_bit1, nI_bit0, fa_or, fa_and, nI_df, nat31, Option.bind_some, m1_le0, m1_lt0, m1_eq, eq_m1, ite_nI, sub_m, pk_m1', not_lt0, h.1.2.1.1]
          rw [if_pos (Nat.le_refl _)]
          rfl
        · have h2 := ih (k + 1) (by omega) (by omega)
          try simp (disch := omega) only [fa_lit, ne_le, ne_lt, ne_eq', nI_add, pk_mul, pk_sub, rdA_n, wrA_n, rdL_n, wrL_n, nI_one, nI_bit1, nI_bit0, fa_or, fa_and, nI_df, nat31, Option.bind_some, m1_le0, m1_lt0, m1_eq, eq_m1, ite_nI, sub_m, pk_m1', not_lt0, h.1.2.1.1, (h.1.2.2.1 k (by omega)).2.2.2.1]
          rw [if_neg (by omega)]
          have e : nDf (nDf (2 ^ p.n - 1) (orN p.le k)) (p.le k) = nDf (2 ^ p.n - 1) (orN p.le (k + 1)) := by
            refine Nat.eq_of_testBit_eq (fun i => ?_)
            rw [nDf_tb, nDf_tb, nDf_tb, orN, Nat.testBit_or]
            cases (2 ^ p.n - 1).testBit i <;> cases (orN p.le k).testBit i <;> cases (p.le k).testBit i <;> rfl
          rw [e]
          exact h2
    dsimp only
    rw [m_every h.1, Option.bind_some]
    have e := key N 0 (by omega) (by omega)
    rw [show nDf (2 ^ p.n - 1) (orN p.le 0) = 2 ^ p.n - 1 by unfold orN nDf; simp] at e
    exact tot_eq e ⟨rfl, h.2.1, mf.rf⟩
/-- how many more are right by it -/
def rdC (p : PP) (S : ST) (m : Nat) : Nat := pcN (causeN p m &&& nDf (2 ^ p.n - 1) (rightN p (meantN p S)))
def rdN (p : PP) (S : ST) : Nat → Nat × Option Nat
  | 0 => (0, none)
  | k + 1 => if S.so k ≠ 0 ∧ (rdN p S k).1 < rdC p S k then (rdC p S k, some k) else rdN p S k
theorem rdN_le (p : PP) (S : ST) : ∀ k, (rdN p S k).1 ≤ 7
  | 0 => Nat.zero_le _
  | k + 1 => by
    have h1 := rdN_le p S k
    rw [rdN]
    split
    · exact pcN_le _
    · exact h1
theorem rd_eq (g : GoodP p) (hm : m < p.n) : nDf (nDf (rightN p (meantN p S ||| 2 ^ m)) (rightN p (meantN p S))) (2 ^ m) = causeN p m &&& nDf (2 ^ p.n - 1) (rightN p (meantN p S)) := by
  refine Nat.eq_of_testBit_eq (fun i => ?_)
  rw [nDf_tb, nDf_tb, Nat.testBit_and, nDf_tb, Bool.eq_iff_iff]
  simp only [Bool.and_eq_true, Bool.not_eq_true', Nat.testBit_two_pow_sub_one, decide_eq_true_iff]
  unfold causeN
  rw [mk_tb, Bool.and_eq_true, decide_eq_true_iff, right_tb g, Nat.testBit_two_pow, decide_eq_false_iff_not]
  constructor
  · intro ⟨⟨⟨hi, h1⟩, h2⟩, h3⟩
    refine ⟨⟨hi, ?_⟩, hi, h2⟩
    rcases h1 with h1 | ⟨o, h1, h4⟩
    · rcases (or_tb _ _ _).mp h1 with h1 | h1
      · have := (right_tb g (meantN p S) i).mpr ⟨hi, Or.inl h1⟩
        rw [h2] at this
        cases this
      · exact absurd h1.symm h3
    · rcases (or_tb _ _ _).mp h4 with h4 | h4
      · have := (right_tb g (meantN p S) i).mpr ⟨hi, Or.inr ⟨o, h1, h4⟩⟩
        rw [h2] at this
        cases this
      · rw [← h4]
        exact h1.2.2
  · intro ⟨⟨hi, h1⟩, _, h2⟩
    refine ⟨⟨⟨hi, Or.inr ⟨m, ⟨hi, hm, h1⟩, (or_tb _ _ _).mpr (Or.inr rfl)⟩⟩, h2⟩, fun e => ?_⟩
    rw [← e] at h1
    have := cm_bi g (m := m) (o := m) ⟨hm, hm, h1⟩
    omega
theorem q_redeems (g : GoodP p) (hN : 1000 < N) : ∃ v, Qc E p S c (fun V => gX9_redeems E N V) v ∧ Qm p S c (fun V => gX10_redeems N V) v := by
  unfold gX9_redeems gX10_redeems
  have hn := g.1
  have hp := pw1 hn
  have hml := mnt_lt p S
  have hrl := right_lt p (meantN p S)
  refine qT ⟨oI (rdN p S p.n).2, fun V h => ?_, fun V h => ?_⟩
  · have gs := h.2.2.2.1
    have key : ∀ w k, k ≤ p.n → p.n - k < w → gX9_redeems_b22 E N w (nI (nDf (2 ^ p.n - 1) (rightN p (meantN p S)))) (oI (rdN p S k).2) (nI (rdN p S k).1) (nI k) V = some (oI (rdN p S p.n).2, V) := by
      intro w
      induction w with
      | zero => intro k _ h; omega
      | succ w ih =>
        intro k hk hw
        unfold gX9_redeems_b22
        by_cases hc : k = p.n
        · rw [hc]
          try simp (disch := omega) only [fa_lit, ne_le, ne_lt, ne_eq', nI_add, pk_mul, pk_sub, rdA_n, wrA_n, rdL_n, wrL_n, nI_one, nI_bit1, nI_bit0, fa_or, fa_and, nI_df, nat31, Option.bind_some, m1_le0, m1_lt0, m1_eq, eq_m1, ite_nI, sub_m, pk_m1', not_lt0, h.2.1.2.1.1]
          rw [if_pos (Nat.le_refl _)]
        · have hk2 : k < p.n := by omega
          have h2 := ih (k + 1) (by omega) (by omega)
          have hs := (gs.1 k hk2).1
          have hcl : causeN p k < 2 ^ p.n := mk_lt _ _
          have hand : causeN p k &&& nDf (2 ^ p.n - 1) (rightN p (meantN p S)) < 128 := Nat.lt_of_le_of_lt Nat.and_le_left (by omega)
          rw [c_cause h.2.1 hk2 hN, Option.bind_some, fa_and, c_bc hand, Option.bind_some, show pcN (causeN p k &&& nDf (2 ^ p.n - 1) (rightN p (meantN p S))) = rdC p S k from rfl]
          have h3 := rdN_le p S k
          have h4 : rdC p S k ≤ 7 := pcN_le _
          rw [rdN] at h2
          try simp (disch := omega) only [fa_lit, ne_le, ne_lt, ne_eq', nI_add, pk_mul, pk_sub, rdA_n, wrA_n, rdL_n, wrL_n, nI_one, nI_bit1, nI_bit0, fa_or, fa_and, nI_df, nat31, Option.bind_some, m1_le0, m1_lt0, m1_eq, eq_m1, ite_nI, sub_m, pk_m1', not_lt0, h.2.1.2.1.1, (h.2.2.1.1 k hk2).1]
          rw [if_neg (by omega)]
          by_cases e0 : S.so k = 0
          · rw [if_pos e0]
            rw [if_neg (fun q => q.1 e0)] at h2
            exact h2
          · rw [if_neg e0]
            by_cases e1 : (rdN p S k).1 < rdC p S k
            · rw [if_pos ⟨e0, e1⟩] at h2
              rw [if_neg (by omega)]
              exact h2
            · rw [if_neg (fun q => e1 q.2)] at h2
              rw [if_pos (by omega)]
              exact h2
    dsimp only
    rw [c_every h.2.1, Option.bind_some, c_rgt h hN, Option.bind_some]
    dsimp only
    rw [show (-1 : Int32) = -nI 1 from rfl, nI_df, show (0 : Int32) = nI 0 from rfl]
    have e := key N 0 (by omega) (by omega)
    rw [show rdN p S 0 = (0, none) from rfl] at e
    exact tot_eq e ⟨rfl, fr.rf⟩
  · have gs := h.2.2.1
    have key : ∀ w k, k ≤ p.n → p.n - k < w → gX10_redeems_b24 N w (nI (meantN p S)) (nI (rightN p (meantN p S))) (oI (rdN p S k).2) (nI (rdN p S k).1) (nI k) V = some (oI (rdN p S p.n).2, V) := by
      intro w
      induction w with
      | zero => intro k _ h; omega
      | succ w ih =>
        intro k hk hw
        unfold gX10_redeems_b24
        by_cases hc : k = p.n
        · rw [hc]
          try simp (disch := omega) only [fa_lit, ne_le, ne_lt, ne_eq', nI_add, pk_mul, pk_sub, rdA_n, wrA_n, rdL_n, wrL_n, nI_one, nI_bit1, nI_bit0, fa_or, fa_and, nI_df, nat31, Option.bind_some, m1_le0, m1_lt0, m1_eq, eq_m1, ite_nI, sub_m, pk_m1', not_lt0, h.1.2.1.1]
          rw [if_pos (Nat.le_refl _)]
        · have hk2 : k < p.n := by omega
          have h2k : (2 : Nat) ^ k < 2 ^ p.n := Nat.pow_lt_pow_right (by decide) hk2
          have hor := Nat.or_lt_two_pow hml h2k
          have h2 := ih (k + 1) (by omega) (by omega)
          have hcl : causeN p k < 2 ^ p.n := mk_lt _ _
          have hand : causeN p k &&& nDf (2 ^ p.n - 1) (rightN p (meantN p S)) < 128 := Nat.lt_of_le_of_lt Nat.and_le_left (by omega)
          have h3 := rdN_le p S k
          have h4 : rdC p S k ≤ 7 := pcN_le _
          rw [rdN] at h2
          try simp (disch := omega) only [fa_lit, ne_le, ne_lt, ne_eq', nI_add, pk_mul, pk_sub, rdA_n, wrA_n, rdL_n, wrL_n, nI_one, nI_bit1, nI_bit0, fa_or, fa_and, nI_df, nat31, Option.bind_some, m1_le0, m1_lt0, m1_eq, eq_m1, ite_nI, sub_m, pk_m1', not_lt0, h.1.2.1.1]
          rw [if_neg (by omega), m_right h.1 hor hN, Option.bind_some]
          dsimp only
          rw [nI_df, nI_df, rd_eq g hk2, m_bits hand hN, Option.bind_some, show pcN (causeN p k &&& nDf (2 ^ p.n - 1) (rightN p (meantN p S))) = rdC p S k from rfl]
          try simp (disch := omega) only [fa_lit, ne_le, ne_lt, ne_eq', nI_add, pk_mul, pk_sub, rdA_n, wrA_n, rdL_n, wrL_n, nI_one, nI_bit1, nI_bit0, fa_or, fa_and, nI_df, nat31, Option.bind_some, m1_le0, m1_lt0, m1_eq, eq_m1, ite_nI, sub_m, pk_m1', not_lt0]
          have tbm : (meantN p S).testBit k = true ↔ S.so k = 0 := by
            unfold meantN
            rw [mk_tb]
            simp [hk2]
          by_cases e0 : S.so k = 0
          · rw [if_pos (tbm.mpr e0)]
            rw [if_neg (fun q => q.1 e0)] at h2
            exact h2
          · rw [if_neg (fun q => e0 (tbm.mp q))]
            by_cases e1 : (rdN p S k).1 < rdC p S k
            · rw [if_pos ⟨e0, e1⟩] at h2
              rw [if_pos e1]
              exact h2
            · rw [if_neg (fun q => e1 q.2)] at h2
              rw [if_neg e1]
              exact h2
    dsimp only
    rw [m_mnt h hN, Option.bind_some]
    dsimp only
    rw [m_right h.1 hml hN, Option.bind_some, show (0 : Int32) = nI 0 from rfl]
    have e := key N 0 (by omega) (by omega)
    rw [show rdN p S 0 = (0, none) from rfl] at e
    exact tot_eq e ⟨rfl, h.2.1, mf.rf⟩
end PSimple2
