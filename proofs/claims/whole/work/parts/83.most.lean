/-! PURE: all made right by the least; the most; the easiest. -/
def alN (p : PP) (S : ST) : Nat → Nat
  | 0 => 1000000
  | k + 1 => if rightN p (k ||| meantN p S) = 2 ^ p.n - 1 ∧ ctN p S k < alN p S k then ctN p S k else alN p S k
theorem ctN_le (p : PP) (S : ST) (x : Nat) : ctN p S x ≤ 1000000 := by
  unfold ctN
  split <;> omega
theorem alN_le (p : PP) (S : ST) : ∀ k, alN p S k ≤ 1000000
  | 0 => Nat.le_refl _
  | k + 1 => by
    have h1 := alN_le p S k
    have h2 := ctN_le p S k
    rw [alN]
    split <;> omega
theorem cI_m1 {x : Nat} (hx : x ≤ 1000000) : (cI x = -nI 1) = (x = 1000000) := by
  unfold cI
  by_cases h : x = 1000000
  · rw [if_pos h]
    exact eq_true rfl |>.trans (eq_true h).symm
  · rw [if_neg h, eq_m1 (by omega)]
    exact (eq_false h).symm
theorem cI_n {x : Nat} (h : x ≠ 1000000) : cI x = nI x := if_neg h
section PMost
variable {E : VE} {V : VT} {p : PP} {S : ST} {m c N : Nat}
theorem pw1 (hn : p.n ≤ 7) : 2 ^ p.n - 1 + 1 = 2 ^ p.n ∧ 2 ^ p.n ≤ 128 := by
  have h1 := Nat.two_pow_pos p.n
  have h2 := lt_pw hn
  omega
theorem c_all (h : CQ E V p S c) (hN : 1000 < N) : tot (gX9_all E N V) (fun r => r.1 = cI (alN p S (2 ^ p.n)) ∧ fr scA scF V r.2) := by
  have hn := h.2.1.1.1
  have hp := pw1 hn
  have hml := mnt_lt p S
  unfold gX9_all
  refine tot_bd (c_reckon h hN) (fun W hW => ?_)
  have h1 := h.fr hW.2
  rw [c_mnt h1 hN]
  simp only [Option.bind_some]
  have key : ∀ w k, k ≤ 2 ^ p.n → 2 ^ p.n - k < w → gX9_all_b13 E N w (nI (meantN p S)) (cI (alN p S k)) (nI k) W = some (cI (alN p S (2 ^ p.n)), W) := by
    intro w
    induction w with
    | zero => intro k _ h; omega
    | succ w ih =>
      intro k hk hw
      have hal := alN_le p S k
      have hct := ctN_le p S k
      unfold gX9_all_b13 gX9_all_b48
      rw [c_every h1.2.1]
      simp only [Option.bind_some]
      try simp (disch := omega) only [fa_lit, ne_le, ne_lt, ne_eq', nI_add, pk_mul, pk_sub, rdA_n, wrA_n, rdL_n, wrL_n, nI_one, nI_bit1, nI_bit0, fa_or, fa_and, nI_df, nat31, Option.bind_some, m1_le0, m1_lt0, m1_eq, eq_m1, ite_nI, sub_m, pk_m1', not_lt0]
      by_cases hc : k = 2 ^ p.n
      · rw [if_pos (by omega), hc]
      · rw [if_neg (by omega), c_cset h1 hW.1 hN (by omega)]
        have hk2 : k < 2 ^ p.n := by omega
        have hor := Nat.or_lt_two_pow hk2 hml
        have h2 := ih (k + 1) (by omega) (by omega)
        rw [alN] at h2
        simp only [Option.bind_some]
        simp only [cI_m1 hct, cI_m1 hal]
        by_cases c1 : ctN p S k = 1000000
        · rw [if_pos c1]
          rw [if_neg (by omega)] at h2
          exact h2
        · rw [if_neg c1, c_right h1.2.1 hor hN]
          simp only [Option.bind_some]
          rw [c_every h1.2.1]
          simp only [Option.bind_some, cI_n c1]
          have hr := right_lt p (k ||| meantN p S)
          try simp (disch := omega) only [fa_lit, ne_le, ne_lt, ne_eq', nI_add, pk_mul, pk_sub, rdA_n, wrA_n, rdL_n, wrL_n, nI_one, nI_bit1, nI_bit0, fa_or, fa_and, nI_df, nat31, Option.bind_some, m1_le0, m1_lt0, m1_eq, eq_m1, ite_nI, sub_m, pk_m1', not_lt0]
          by_cases c2 : alN p S k = 1000000
          · rw [if_pos c2]
            by_cases c3 : rightN p (k ||| meantN p S) = 2 ^ p.n - 1
            · rw [if_pos ⟨c3, by omega⟩, cI_n c1] at h2
              rw [if_pos c3]
              exact h2
            · rw [if_neg (fun q => c3 q.1)] at h2
              rw [if_neg c3]
              exact h2
          · rw [if_neg c2]
            rw [cI_n c2]
            try simp (disch := omega) only [fa_lit, ne_le, ne_lt, ne_eq', nI_add, pk_mul, pk_sub, rdA_n, wrA_n, rdL_n, wrL_n, nI_one, nI_bit1, nI_bit0, fa_or, fa_and, nI_df, nat31, Option.bind_some, m1_le0, m1_lt0, m1_eq, eq_m1, ite_nI, sub_m, pk_m1', not_lt0]
            by_cases c4 : alN p S k ≤ ctN p S k
            · rw [if_pos c4]
              rw [if_neg (by omega), cI_n c2] at h2
              exact h2
            · rw [if_neg c4]
              by_cases c3 : rightN p (k ||| meantN p S) = 2 ^ p.n - 1
              · rw [if_pos ⟨c3, by omega⟩, cI_n c1] at h2
                rw [if_pos c3]
                exact h2
              · rw [if_neg (fun q => c3 q.1), cI_n c2] at h2
                rw [if_neg c3]
                exact h2
  have e := key N 0 (by omega) (by omega)
  rw [show cI (alN p S 0) = (-1 : Int32) from rfl] at e
  rw [show (0 : Int32) = nI 0 from rfl, e]
  exact tot_some ⟨rfl, hW.2⟩
theorem m_all (h : MQn V p S c) (hN : 1000 < N) : tot (gX10_rightAll N V) (fun r => r.1 = cI (alN p S (2 ^ p.n)) ∧ MSt r.2 p.n S ∧ mf V r.2) := by
  have hn := h.1.1.1
  have hp := pw1 hn
  have hml := mnt_lt p S
  unfold gX10_rightAll
  refine tot_bd (m_lays h hN) (fun W hW => ?_)
  have h1 := h.mk hW.2.2 hW.2.1
  rw [m_mnt h1 hN]
  simp only [Option.bind_some]
  have key : ∀ w k, k ≤ 2 ^ p.n → 2 ^ p.n - k < w → gX10_rightAll_b15 N w (nI (meantN p S)) (nI (alN p S k)) (nI k) W = some (cI (alN p S (2 ^ p.n)), W) := by
    intro w
    induction w with
    | zero => intro k _ h; omega
    | succ w ih =>
      intro k hk hw
      have hal := alN_le p S k
      have hct := ctN_le p S k
      unfold gX10_rightAll_b15
      rw [m_every h1.1]
      simp only [Option.bind_some]
      try simp (disch := omega) only [fa_lit, ne_le, ne_lt, ne_eq', nI_add, pk_mul, pk_sub, rdA_n, wrA_n, rdL_n, wrL_n, nI_one, nI_bit1, nI_bit0, fa_or, fa_and, nI_df, nat31, Option.bind_some, m1_le0, m1_lt0, m1_eq, eq_m1, ite_nI, sub_m, pk_m1', not_lt0]
      by_cases hc : k = 2 ^ p.n
      · rw [if_pos (by omega), hc]
        unfold cI
        subst hc
        split <;> rfl
      · have hk2 : k < 2 ^ p.n := by omega
        have hor := Nat.or_lt_two_pow hk2 hml
        have h2 := ih (k + 1) (by omega) (by omega)
        rw [alN] at h2
        rw [if_neg (by omega), m_right h1.1 hor hN]
        simp only [Option.bind_some]
        rw [m_every h1.1]
        have hr := right_lt p (k ||| meantN p S)
        simp only [Option.bind_some]
        rw [m_cset h1 hW.1 hN (by omega)]
        try simp (disch := omega) only [fa_lit, ne_le, ne_lt, ne_eq', nI_add, pk_mul, pk_sub, rdA_n, wrA_n, rdL_n, wrL_n, nI_one, nI_bit1, nI_bit0, fa_or, fa_and, nI_df, nat31, Option.bind_some, m1_le0, m1_lt0, m1_eq, eq_m1, ite_nI, sub_m, pk_m1', not_lt0]
        by_cases c3 : rightN p (k ||| meantN p S) = 2 ^ p.n - 1
        · rw [if_pos c3]
          by_cases c4 : ctN p S k < alN p S k
          · rw [if_pos ⟨c3, c4⟩] at h2
            rw [if_pos c4]
            exact h2
          · rw [if_neg (fun q => c4 q.2)] at h2
            rw [if_neg c4]
            exact h2
        · rw [if_neg c3]
          rw [if_neg (fun q => c3 q.1)] at h2
          exact h2
  have e := key N 0 (by omega) (by omega)
  rw [show (1000000 : Int32) = nI (alN p S 0) from rfl, show (0 : Int32) = nI 0 from rfl, e]
  exact tot_some ⟨rfl, hW.2⟩
theorem q_all (hN : 1000 < N) : ∃ v, Qc E p S c (fun V => gX9_all E N V) v ∧ Qm p S c (fun V => gX10_all N V) v := by
  unfold gX10_all
  refine qT ⟨cI (alN p S (2 ^ p.n)), fun V h => c_all h hN, fun V h => ?_⟩
  refine tot_bd (m_all h hN) (fun r hr => ?_)
  exact tot_some hr
theorem q_lacks (hN : 1000 < N) : ∃ v, Qc E p S c (fun V => gX9_lacks E N V) v ∧ Qm p S c (fun V => gX10_lacks N V) v := by
  unfold gX9_lacks gX10_lacks
  have hal := alN_le p S (2 ^ p.n)
  refine qT ⟨if alN p S (2 ^ p.n) = 1000000 then -nI 1 else nI (alN p S (2 ^ p.n) - S.po), fun V h => ?_, fun V h => ?_⟩
  · have hpo := h.2.2.2.1.2.1
    refine tot_bd (c_all h hN) (fun r hr => ?_)
    have h1 := h.fr hr.2
    rw [hr.1, h1.2.2.1.2.1]
    simp only [fa_lit, cI_m1 hal]
    by_cases c1 : alN p S (2 ^ p.n) = 1000000
    · rw [if_pos c1, if_pos c1]
      exact tot_some ⟨rfl, hr.2⟩
    · rw [if_neg c1, if_neg c1, cI_n c1]
      try simp (disch := omega) only [fa_lit, ne_le, ne_lt, ne_eq', nI_add, pk_mul, pk_sub, rdA_n, wrA_n, rdL_n, wrL_n, nI_one, nI_bit1, nI_bit0, fa_or, fa_and, nI_df, nat31, Option.bind_some, m1_le0, m1_lt0, m1_eq, eq_m1, ite_nI, sub_m, pk_m1', not_lt0]
      exact tot_some ⟨rfl, hr.2⟩
  · have hpo := h.2.2.1.2.1
    refine tot_bd (m_all h hN) (fun r hr => ?_)
    rw [hr.1, hr.2.1.2.1]
    by_cases c1 : alN p S (2 ^ p.n) = 1000000
    · rw [if_pos c1]
      unfold cI
      rw [if_pos c1, if_neg (by decide)]
      exact tot_some ⟨rfl, hr.2⟩
    · rw [if_neg c1, cI_n c1]
      try simp (disch := omega) only [fa_lit, ne_le, ne_lt, ne_eq', nI_add, pk_mul, pk_sub, rdA_n, wrA_n, rdL_n, wrL_n, nI_one, nI_bit1, nI_bit0, fa_or, fa_and, nI_df, nat31, Option.bind_some, m1_le0, m1_lt0, m1_eq, eq_m1, ite_nI, sub_m, pk_m1', not_lt0]
      rw [if_pos (Nat.zero_le _)]
      exact tot_some ⟨rfl, hr.2⟩
theorem q_easiest (g : GoodP p) (hN : 1000 < N) : ∃ v, Qc E p S c (fun V => gX9_easiest E N V) v ∧ Qm p S c (fun V => gX10_easiest N V) v := by
  unfold gX9_easiest gX10_easiest
  have hn := g.1
  have hp := pw1 hn
  have hml := mnt_lt p S
  have hdl : nDf (2 ^ p.n - 1) (meantN p S) < 2 ^ p.n := nDf_le _ _ (by omega)
  refine qT ⟨oI (chN (costN p S) (fun m => (nDf (2 ^ p.n - 1) (meantN p S)).testBit m) p.n), fun V h => ?_, fun V h => ?_⟩
  · refine tot_bd (c_reckon h hN) (fun W hW => ?_)
    have h1 := h.fr hW.2
    rw [c_every h1.2.1]
    simp only [Option.bind_some]
    rw [c_mnt h1 hN]
    simp only [Option.bind_some]
    rw [show (-1 : Int32) = -nI 1 from rfl, nI_df, c_chOf h1 hW.1 hN (by omega)]
    exact tot_some ⟨rfl, hW.2⟩
  · refine tot_bd (m_lays h hN) (fun W hW => ?_)
    have h1 := h.mk hW.2.2 hW.2.1
    have tbq : ∀ k, k < p.n → ((nDf (2 ^ p.n - 1) (meantN p S)).testBit k = true ↔ S.so k ≠ 0) := by
      intro k hk
      rw [nDf_tb, Nat.testBit_two_pow_sub_one]
      unfold meantN
      rw [mk_tb]
      simp [hk]
    have key : ∀ w k, k ≤ p.n → p.n - k < w → gX10_easiest_b13 N w (oI (chN (costN p S) (fun m => (nDf (2 ^ p.n - 1) (meantN p S)).testBit m) k)) (nI k) W = some (oI (chN (costN p S) (fun m => (nDf (2 ^ p.n - 1) (meantN p S)).testBit m) p.n), W) := by
      intro w
      induction w with
      | zero => intro k _ h; omega
      | succ w ih =>
        intro k hk hw
        unfold gX10_easiest_b13
        by_cases hc : k = p.n
        · subst hc
          try simp (disch := omega) only [fa_lit, ne_le, ne_lt, ne_eq', nI_add, pk_mul, pk_sub, rdA_n, wrA_n, rdL_n, wrL_n, nI_one, nI_bit1, nI_bit0, fa_or, fa_and, nI_df, nat31, Option.bind_some, m1_le0, m1_lt0, m1_eq, eq_m1, ite_nI, sub_m, pk_m1', not_lt0, h1.1.2.1.1]
          rw [if_pos (Nat.le_refl _)]
        · have hk2 : k < p.n := by omega
          have hso := (h1.2.1.so hn hk2).1
          have hgs := (h1.2.2.1.1 k hk2).1
          have h3 := costN_le g S k
          have h2 := ih (k + 1) (by omega) (by omega)
          rw [chN] at h2
          try simp (disch := omega) only [fa_lit, ne_le, ne_lt, ne_eq', nI_add, pk_mul, pk_sub, rdA_n, wrA_n, rdL_n, wrL_n, nI_one, nI_bit1, nI_bit0, fa_or, fa_and, nI_df, nat31, Option.bind_some, m1_le0, m1_lt0, m1_eq, eq_m1, ite_nI, sub_m, pk_m1', not_lt0, h1.1.2.1.1, hso, hW.1 k hk2]
          rw [if_neg (by omega)]
          by_cases c0 : S.so k = 0
          · rw [if_pos c0]
            rw [if_neg (fun q => (tbq k hk2).mp q.1 c0)] at h2
            exact h2
          · rw [if_neg c0]
            by_cases c1 : costN p S k = 1000000
            · rw [if_pos c1]
              rw [if_neg (fun q => q.2 c1)] at h2
              exact h2
            · rw [if_neg c1]
              rw [if_pos ⟨(tbq k hk2).mpr c0, c1⟩] at h2
              cases hch : chN (costN p S) (fun m => (nDf (2 ^ p.n - 1) (meantN p S)).testBit m) k with
              | none =>
                rw [hch] at h2
                rw [if_pos (by decide)]
                exact h2
              | some j =>
                rw [hch] at h2
                have h5 := chN_lt hch
                have h6 := costN_le g S j
                rw [show oI (some j) = nI j from rfl]
                try simp (disch := omega) only [fa_lit, ne_le, ne_lt, ne_eq', nI_add, pk_mul, pk_sub, rdA_n, wrA_n, rdL_n, wrL_n, nI_one, nI_bit1, nI_bit0, fa_or, fa_and, nI_df, nat31, Option.bind_some, m1_le0, m1_lt0, m1_eq, eq_m1, ite_nI, sub_m, pk_m1', not_lt0]
                rw [if_neg (by omega), hW.1 j (by omega)]
                try simp (disch := omega) only [fa_lit, ne_le, ne_lt, ne_eq', nI_add, pk_mul, pk_sub, rdA_n, wrA_n, rdL_n, wrL_n, nI_one, nI_bit1, nI_bit0, fa_or, fa_and, nI_df, nat31, Option.bind_some, m1_le0, m1_lt0, m1_eq, eq_m1, ite_nI, sub_m, pk_m1', not_lt0]
                dsimp only at h2
                by_cases h7 : costN p S k < costN p S j
                · rw [if_pos h7] at h2
                  rw [if_neg (by omega)]
                  exact h2
                · rw [if_neg h7] at h2
                  rw [if_pos (by omega)]
                  exact h2
    have e := key N 0 (by omega) (by omega)
    rw [show (-1 : Int32) = oI (chN (costN p S) (fun m => (nDf (2 ^ p.n - 1) (meantN p S)).testBit m) 0) from rfl, show (0 : Int32) = nI 0 from rfl, e]
    exact tot_some ⟨rfl, hW.2⟩
/-- the best of the sets below k -/
def msN (p : PP) (S : ST) (u : Nat) : Nat → Nat
  | 0 => meantN p S
  | k + 1 => if k &&& meantN p S = meantN p S ∧ ctN p S k ≤ u ∧ (pcN (msN p S u k) < pcN k ∨ pcN (msN p S u k) = pcN k ∧ ctN p S k < ctN p S (msN p S u k)) then k else msN p S u k
theorem ct_mnt (p : PP) (S : ST) : ctN p S (meantN p S) = 0 := by
  have e : csN p S (meantN p S) p.n = 0 := by
    unfold csN
    refine (sm_congr (g := fun _ => 0) (fun i hi => ?_)).trans (sm_zero p.n)
    split
    · rename_i hb
      unfold meantN at hb
      rw [mk_tb] at hb
      have h0 : S.so i = 0 := by
        rw [Bool.and_eq_true, decide_eq_true_iff, decide_eq_true_iff] at hb
        exact hb.2
      have hw : wN p S i = 0 := by
        unfold wN
        rw [fst0]
        simp [lvN, h0]
      unfold costN
      rw [hw]
      simp
    · rfl
  unfold ctN
  rw [e]
  rfl
theorem msN_ok (p : PP) (S : ST) {u : Nat} : ∀ k, k ≤ 2 ^ p.n → msN p S u k < 2 ^ p.n ∧ ctN p S (msN p S u k) ≤ u
  | 0, _ => ⟨mnt_lt p S, by rw [msN, ct_mnt]; omega⟩
  | k + 1, h => by
    have h1 := msN_ok p S (u := u) k (by omega)
    rw [msN]
    split
    · rename_i q
      exact ⟨by omega, q.2.1⟩
    · exact h1
theorem q_most (g : GoodP p) (hN : 1000 < N) (x y : Int32) : ∃ v, Qc E p S c (fun V => gX9_most E N x y V) v ∧ Qm p S c (fun V => gX10_most N x y V) v := by
  unfold gX9_most gX10_most
  have hn := g.1
  have hp := pw1 hn
  have hml := mnt_lt p S
  refine qT (qW 0 200 rfl rfl (by omega) (by omega) (fun u _ hu e => ?_))
  subst e
  refine qW 0 2 rfl rfl (by omega) (by omega) (fun t _ ht e => ?_)
  subst e
  have hok := msN_ok p S (u := u) (2 ^ p.n) (Nat.le_refl _)
  refine ⟨nI (if t = 0 then pcN (msN p S u (2 ^ p.n)) else if t = 1 then ctN p S (msN p S u (2 ^ p.n)) else msN p S u (2 ^ p.n)), fun V h => ?_, fun V h => ?_⟩
  · refine tot_bd (c_reckon h hN) (fun W hW => ?_)
    have h1 := h.fr hW.2
    rw [c_mnt h1 hN]
    simp only [Option.bind_some]
    have key : ∀ w k, k ≤ 2 ^ p.n → 2 ^ p.n - k < w → gX9_most_b40 E N w (nI u) (nI t) (nI (meantN p S)) (nI (msN p S u k)) (nI (ctN p S (msN p S u k))) (nI k) W = some (nI (if t = 0 then pcN (msN p S u (2 ^ p.n)) else if t = 1 then ctN p S (msN p S u (2 ^ p.n)) else msN p S u (2 ^ p.n)), W) := by
      intro w
      induction w with
      | zero => intro k _ h; omega
      | succ w ih =>
        intro k hk hw
        have ok := msN_ok p S (u := u) k hk
        have hct := ctN_le p S k
        unfold gX9_most_b40 gX9_most_b113
        rw [c_every h1.2.1]
        simp only [Option.bind_some, c_bc (show msN p S u k < 128 by omega)]
        try simp (disch := omega) only [fa_lit, ne_le, ne_lt, ne_eq', nI_add, pk_mul, pk_sub, rdA_n, wrA_n, rdL_n, wrL_n, nI_one, nI_bit1, nI_bit0, fa_or, fa_and, nI_df, nat31, Option.bind_some, m1_le0, m1_lt0, m1_eq, eq_m1, ite_nI, sub_m, pk_m1', not_lt0]
        by_cases hc : k = 2 ^ p.n
        · rw [if_pos (by omega), hc]
          by_cases t0 : t = 0
          · rw [if_pos t0, if_pos t0]
          · rw [if_neg t0, if_neg t0]
            by_cases t1 : t = 1
            · rw [if_pos t1, if_pos t1]
            · rw [if_neg t1, if_neg t1]
        · have hk2 : k < 2 ^ p.n := by omega
          have h2 := ih (k + 1) (by omega) (by omega)
          rw [msN] at h2
          rw [if_neg (by omega), c_cset h1 hW.1 hN (by omega)]
          have p1 := pcN_le k
          have p2 := pcN_le (msN p S u k)
          simp only [Option.bind_some, c_bc (show msN p S u k < 128 by omega), c_bc (show k < 128 by omega)]
          try simp (disch := omega) only [fa_lit, ne_le, ne_lt, ne_eq', nI_add, pk_mul, pk_sub, rdA_n, wrA_n, rdL_n, wrL_n, nI_one, nI_bit1, nI_bit0, fa_or, fa_and, nI_df, nat31, Option.bind_some, m1_le0, m1_lt0, m1_eq, eq_m1, ite_nI, sub_m, pk_m1', not_lt0, and_eq]
          by_cases c1 : k &&& meantN p S = meantN p S
          · rw [if_pos c1]
            simp only [cI_m1 hct]
            by_cases c2 : ctN p S k = 1000000
            · rw [if_pos c2]
              rw [if_neg (fun q => by omega)] at h2
              exact h2
            · rw [if_neg c2, cI_n c2]
              try simp (disch := omega) only [fa_lit, ne_le, ne_lt, ne_eq', nI_add, pk_mul, pk_sub, rdA_n, wrA_n, rdL_n, wrL_n, nI_one, nI_bit1, nI_bit0, fa_or, fa_and, nI_df, nat31, Option.bind_some, m1_le0, m1_lt0, m1_eq, eq_m1, ite_nI, sub_m, pk_m1', not_lt0]
              by_cases c3 : ctN p S k ≤ u
              · rw [if_pos c3]
                by_cases c4 : pcN (msN p S u k) < pcN k
                · rw [if_pos ⟨c1, c3, Or.inl c4⟩] at h2
                  rw [pk_sub (by omega), if_pos (show (nI 0 : Int32) < nI (pcN k - pcN (msN p S u k)) from nI_lt (by omega) (by omega))]
                  exact h2
                · by_cases c5 : pcN (msN p S u k) = pcN k
                  · rw [c5, pk_sub (Nat.le_refl _), Nat.sub_self, if_neg (by decide), if_pos rfl]
                    by_cases c6 : ctN p S (msN p S u k) ≤ ctN p S k
                    · rw [if_pos c6]
                      rw [if_neg (fun q => by omega)] at h2
                      exact h2
                    · rw [if_neg c6]
                      rw [if_pos ⟨c1, c3, Or.inr ⟨c5, by omega⟩⟩] at h2
                      exact h2
                  · rw [if_neg (fun q => by omega)] at h2
                    have hneg : nI (pcN k) - nI (pcN (msN p S u k)) < 0 := pk_sneg (by omega) (by omega)
                    rw [if_neg (fun q => absurd (Int32.lt_trans q hneg) (by decide)), if_neg (fun q => by rw [q] at hneg; exact absurd hneg (by decide))]
                    exact h2
              · rw [if_neg c3]
                rw [if_neg (fun q => c3 q.2.1)] at h2
                exact h2
          · rw [if_neg c1]
            rw [if_neg (fun q => c1 q.1)] at h2
            exact h2
    have e := key N 0 (by omega) (by omega)
    rw [show msN p S u 0 = meantN p S from rfl, ct_mnt] at e
    rw [show (0 : Int32) = nI 0 from rfl, e]
    exact tot_some ⟨rfl, hW.2⟩
  · refine tot_bd (m_lays h hN) (fun W hW => ?_)
    have h1 := h.mk hW.2.2 hW.2.1
    rw [m_mnt h1 hN]
    simp only [Option.bind_some]
    have key : ∀ w k, k ≤ 2 ^ p.n → 2 ^ p.n - k < w → gX10_most_b42 N w (nI u) (nI t) (nI (meantN p S)) (nI (msN p S u k)) (nI k) W = some (nI (if t = 0 then pcN (msN p S u (2 ^ p.n)) else if t = 1 then ctN p S (msN p S u (2 ^ p.n)) else msN p S u (2 ^ p.n)), W) := by
      intro w
      induction w with
      | zero => intro k _ h; omega
      | succ w ih =>
        intro k hk hw
        have ok := msN_ok p S (u := u) k hk
        have hct := ctN_le p S k
        have hcm := ctN_le p S (msN p S u k)
        unfold gX10_most_b42
        rw [m_every h1.1]
        simp only [Option.bind_some, m_bits (show msN p S u k < 128 by omega) hN, m_cset h1 hW.1 hN (show msN p S u k < 2 ^ 31 by omega)]
        try simp (disch := omega) only [fa_lit, ne_le, ne_lt, ne_eq', nI_add, pk_mul, pk_sub, rdA_n, wrA_n, rdL_n, wrL_n, nI_one, nI_bit1, nI_bit0, fa_or, fa_and, nI_df, nat31, Option.bind_some, m1_le0, m1_lt0, m1_eq, eq_m1, ite_nI, sub_m, pk_m1', not_lt0]
        by_cases hc : k = 2 ^ p.n
        · rw [if_pos (by omega), hc]
          by_cases t0 : t = 0
          · rw [if_pos t0, if_pos t0]
          · rw [if_neg t0, if_neg t0]
            by_cases t1 : t = 1
            · rw [if_pos t1, if_pos t1]
            · rw [if_neg t1, if_neg t1]
        · have hk2 : k < 2 ^ p.n := by omega
          have h2 := ih (k + 1) (by omega) (by omega)
          rw [msN] at h2
          have p1 := pcN_le k
          have p2 := pcN_le (msN p S u k)
          rw [if_neg (by omega)]
          simp only [Option.bind_some, m_bits (show msN p S u k < 128 by omega) hN, m_bits (show k < 128 by omega) hN, m_cset h1 hW.1 hN (show msN p S u k < 2 ^ 31 by omega), m_cset h1 hW.1 hN (show k < 2 ^ 31 by omega)]
          try simp (disch := omega) only [fa_lit, ne_le, ne_lt, ne_eq', nI_add, pk_mul, pk_sub, rdA_n, wrA_n, rdL_n, wrL_n, nI_one, nI_bit1, nI_bit0, fa_or, fa_and, nI_df, nat31, Option.bind_some, m1_le0, m1_lt0, m1_eq, eq_m1, ite_nI, sub_m, pk_m1', not_lt0, and_eq]
          by_cases c1 : k &&& meantN p S = meantN p S
          · rw [if_pos c1]
            by_cases c3 : ctN p S k ≤ u
            · rw [if_neg (by omega)]
              by_cases c4 : pcN (msN p S u k) < pcN k
              · rw [if_pos ⟨c1, c3, Or.inl c4⟩] at h2
                rw [if_pos (by omega), if_pos c4]
                exact h2
              · by_cases c5 : pcN (msN p S u k) = pcN k
                · rw [if_pos (by omega), if_neg (by omega)]
                  by_cases c6 : ctN p S (msN p S u k) ≤ ctN p S k
                  · rw [if_pos c6]
                    rw [if_neg (fun q => by omega)] at h2
                    exact h2
                  · rw [if_neg c6]
                    rw [if_pos ⟨c1, c3, Or.inr ⟨c5, by omega⟩⟩] at h2
                    exact h2
                · rw [if_neg (by omega)]
                  rw [if_neg (fun q => by omega)] at h2
                  exact h2
            · rw [if_pos (by omega)]
              rw [if_neg (fun q => c3 q.2.1)] at h2
              exact h2
          · rw [if_neg c1]
            rw [if_neg (fun q => c1 q.1)] at h2
            exact h2
    have e := key N 0 (by omega) (by omega)
    rw [show msN p S u 0 = meantN p S from rfl] at e
    rw [show (0 : Int32) = nI 0 from rfl, e]
    exact tot_some ⟨rfl, hW.2⟩
end PMost
