/-! PURE: years ahead. -/
def pasN (p : PP) : Nat → ST → ST
  | 0, S => S
  | k + 1, S => passS p (pasN p k S)
/-- a row of a state in one of the model's arrays -/
def Row (V : VT) (a b n : Nat) (S : ST) : Prop := V.A a b = nI S.ye ∧ V.A a (b + 1) = nI S.po ∧ ∀ m, m < 7 → V.A a (b + (2 + m)) = nI (if m < n then S.so m else 0) ∧ V.A a (b + (9 + m)) = nI (if m < n then S.co m else 0)
theorem MSt.row {V : VT} {n : Nat} {S : ST} (h : MSt V n S) : Row V 167 0 n S := by
  refine ⟨h.1, h.2.1, fun m hm => ?_⟩
  rw [Nat.zero_add, Nat.zero_add]
  exact h.2.2 m hm
theorem Row.st {V : VT} {n : Nat} {S : ST} (h : Row V 167 0 n S) : MSt V n S := by
  refine ⟨h.1, h.2.1, fun m hm => ?_⟩
  have := h.2.2 m hm
  rw [Nat.zero_add, Nat.zero_add] at this
  exact this
theorem Row.cp {V W : VT} {a b a2 b2 n : Nat} {S : ST} (h : Row V a b n S) (e : ∀ k, k < 16 → W.A a2 (b2 + k) = V.A a (b + k)) : Row W a2 b2 n S := by
  refine ⟨?_, ?_, fun m hm => ⟨?_, ?_⟩⟩
  · have := e 0 (by omega)
    rw [Nat.add_zero, Nat.add_zero] at this
    rw [this]
    exact h.1
  · rw [e 1 (by omega)]
    exact h.2.1
  · rw [e _ (by omega)]
    exact (h.2.2 m hm).1
  · rw [e _ (by omega)]
    exact (h.2.2 m hm).2
section PAhead
variable {E : VE} {V : VT} {p : PP} {S : ST} {m c N : Nat}
theorem m_copies {a1 n1 x a2 n2 y : Nat} (hx : x + 16 ≤ n1) (hy : y + 16 ≤ n2) (hn1 : n1 < 2 ^ 30) (hn2 : n2 < 2 ^ 30) (ha : a1 ≠ a2) (hN : 1000 < N) : tot (gX10_copies N a1 n1 (nI x) a2 n2 (nI y) V) (fun W => (∀ k, k < 16 → W.A a2 (y + k) = V.A a1 (x + k)) ∧ (∀ j, j < y ∨ y + 16 ≤ j → W.A a2 j = V.A a2 j) ∧ fr (fun a => a = a2) nof V W) := by
  unfold gX10_copies
  refine loop_T (F := fun w (_ : Unit) k V => gX10_copies_b3 N w a1 n1 (nI x) a2 n2 (nI y) (nI k) V) 16 (fun k _ W => (∀ j, j < k → W.A a2 (y + j) = V.A a1 (x + j)) ∧ (∀ j, j < y ∨ y + 16 ≤ j → W.A a2 j = V.A a2 j) ∧ fr (fun a => a = a2) nof V W) ?_ ?_ N 0 () V (by omega) (by omega) ⟨fun j hj => by omega, fun _ _ => rfl, fr.rf⟩
  · intro w k _ W hk hI hK
    obtain ⟨i1, i2, i3⟩ := hI
    have e := i3.2.2.1 a1 ha
    show tot (gX10_copies_b3 N (w + 1) a1 n1 (nI x) a2 n2 (nI y) (nI k) W) _
    unfold gX10_copies_b3
    try simp (disch := omega) only [fa_lit, ne_le, ne_lt, ne_eq', nI_add, pk_mul, pk_sub, rdA_n, wrA_n, rdL_n, wrL_n, nI_one, nI_bit1, nI_bit0, fa_or, fa_and, nI_df, nat31, Option.bind_some, m1_le0, m1_lt0, m1_eq, eq_m1, ite_nI, sub_m, pk_m1', not_lt0, e]
    rw [if_neg (by omega)]
    refine hK () _ ⟨fun j hj => ?_, fun j hj => ?_, i3.trans (fr_A _ _ rfl)⟩
    · by_cases e2 : j = k
      · subst e2
        try simp (disch := omega) only [wA_A, wF_F, wA_F, wF_A, wA_L, wF_L, wA_G, wF_G, true_and, and_true, and_self, if_true, if_false, if_pos, if_neg]
      · try simp (disch := omega) only [wA_A, wF_F, wA_F, wF_A, wA_L, wF_L, wA_G, wF_G, true_and, and_true, and_self, if_true, if_false, if_pos, if_neg]
        exact i1 j (by omega)
    · try simp (disch := omega) only [wA_A, wF_F, wA_F, wF_A, wA_L, wF_L, wA_G, wF_G, true_and, and_true, and_self, if_true, if_false, if_pos, if_neg]
      exact i2 j hj
  · intro w _ W hI
    show tot (gX10_copies_b3 N (w + 1) a1 n1 (nI x) a2 n2 (nI y) (nI 16) W) _
    unfold gX10_copies_b3
    try simp (disch := omega) only [fa_lit, ne_le, ne_lt, ne_eq', nI_add, pk_mul, pk_sub, rdA_n, wrA_n, rdL_n, wrL_n, nI_one, nI_bit1, nI_bit0, fa_or, fa_and, nI_df, nat31, Option.bind_some, m1_le0, m1_lt0, m1_eq, eq_m1, ite_nI, sub_m, pk_m1', not_lt0]
    rw [if_pos (Nat.le_refl _)]
    exact tot_some hI
theorem GoodS.pasN (g : GoodP p) (h : GoodS p c S) : ∀ k, GoodS p (c + k) (pasN p k S)
  | 0 => h
  | k + 1 => (GoodS.pasN g h k).pass g
theorem pas_co (p : PP) (S : ST) : ∀ k, (pasN p k S).co = S.co
  | 0 => rfl
  | k + 1 => pas_co p S k
theorem pas_so (p : PP) (S : ST) (m k : Nat) : (pasN p (k + 1) S).so m = sYear p m ((pasN p k S).so m) (S.co m) := by
  show sYear p m ((pasN p k S).so m) ((pasN p k S).co m) = _
  rw [pas_co]
theorem pas_po (p : PP) (S : ST) (k : Nat) : (pasN p (k + 1) S).po = pYear p (pasN p k S).po := rfl
/-- how the model goes ahead: its row of before holds how it is -/
def AH (V W : VT) (p : PP) (S : ST) (k : Nat) : Prop := MSt W p.n (pasN p k S) ∧ Row W 169 0 p.n S ∧ mf V W
theorem ah_0 (h : MQn V p S c) (hN : 1000 < N) : tot (gX10_copies N 167 16 (nI 0) 169 16 (nI 0) V) (fun W => AH V W p S 0) := by
  refine tot_mo (m_copies (V := V) (a1 := 167) (a2 := 169) (x := 0) (y := 0) (by omega) (by omega) (by omega) (by omega) (by omega) hN) (fun W hW => ?_)
  refine ⟨h.2.1.at (hW.2.2.2.2.1 167 (by omega)), h.2.1.row.cp hW.1, fr_mf hW.2.2 (fun a ha => by unfold mxA; omega) (fun i k q => False.elim q)⟩
theorem ah_s {W : VT} {k : Nat} (h : MQn V p S c) (hN : 1000 < N) (hk : k ≤ 100) (a : AH V W p S k) : tot (gX10_passes N W) (fun X => AH V X p S (k + 1)) := by
  have hc := h.2.2.2
  refine tot_mo (m_passes (h.1.mf a.2.2) a.1 (GoodS.pasN h.1.1 h.2.2.1 k) (by omega) hN) (fun X hX => ?_)
  have e := hX.2.2.2.1 169 (by unfold s7; omega)
  refine ⟨hX.1, ?_, a.2.2.trans (s7_mf hX.2)⟩
  refine a.2.1.cp (fun k _ => by rw [e])
theorem ah_e {W : VT} {k : Nat} (h : MQn V p S c) (hN : 1000 < N) (a : AH V W p S k) : tot (gX10_copies N 169 16 (nI 0) 167 16 (nI 0) W) (fun X => MSt X p.n S ∧ mf V X) := by
  refine tot_mo (m_copies (V := W) (a1 := 169) (a2 := 167) (x := 0) (y := 0) (by omega) (by omega) (by omega) (by omega) (by omega) hN) (fun X hX => ?_)
  exact ⟨(a.2.1.cp hX.1).st, a.2.2.trans (fr_mf hX.2.2 (fun a ha => by unfold mxA; omega) (fun i k q => False.elim q))⟩
theorem q_later (g : GoodP p) (hN : 1000 < N) (x y : Int32) : ∃ v, Qc E p S c (fun V => gX9_later E N x y V) v ∧ Qm p S c (fun V => gX10_later N x y V) v := by
  unfold gX9_later gX10_later
  have hn := g.1
  refine qT (qM hn (fun m hm e => ?_))
  subst e
  refine qW 0 60 rfl rfl (by omega) (by omega) (fun u _ hu e => ?_)
  subst e
  refine ⟨nI ((pasN p u S).so m), fun V h => ?_, fun V h => ?_⟩
  · have hcc := h.2.2.2.2
    have gm := h.2.2.2.1.1 m hm
    try simp (disch := omega) only [fa_lit, ne_le, ne_lt, ne_eq', nI_add, pk_mul, pk_sub, rdA_n, wrA_n, rdL_n, wrL_n, nI_one, nI_bit1, nI_bit0, fa_or, fa_and, nI_df, nat31, Option.bind_some, m1_le0, m1_lt0, m1_eq, eq_m1, ite_nI, sub_m, pk_m1', not_lt0, (h.2.2.1.1 m hm).1]
    have key : ∀ w k, k ≤ u → u - k < w → gX9_later_b33 E N w (nI m) (nI u) (nI ((pasN p k S).so m)) (nI k) V = some (nI ((pasN p u S).so m), V) := by
      intro w
      induction w with
      | zero => intro k _ h; omega
      | succ w ih =>
        intro k hk hw
        unfold gX9_later_b33
        by_cases hc : k = u
        · subst hc
          try simp (disch := omega) only [fa_lit, ne_le, ne_lt, ne_eq', nI_add, pk_mul, pk_sub, rdA_n, wrA_n, rdL_n, wrL_n, nI_one, nI_bit1, nI_bit0, fa_or, fa_and, nI_df, nat31, Option.bind_some, m1_le0, m1_lt0, m1_eq, eq_m1, ite_nI, sub_m, pk_m1', not_lt0]
          rw [if_pos (Nat.le_refl _)]
        · have h2 := ih (k + 1) (by omega) (by omega)
          have gk := (GoodS.pasN g h.2.2.2.1 k).1 m hm
          try simp (disch := omega) only [fa_lit, ne_le, ne_lt, ne_eq', nI_add, pk_mul, pk_sub, rdA_n, wrA_n, rdL_n, wrL_n, nI_one, nI_bit1, nI_bit0, fa_or, fa_and, nI_df, nat31, Option.bind_some, m1_le0, m1_lt0, m1_eq, eq_m1, ite_nI, sub_m, pk_m1', not_lt0, (h.2.2.1.1 m hm).2]
          rw [if_neg (by omega), c_sYear h.2.1 hm gk.1 (by omega)]
          rw [pas_so] at h2
          exact h2
    rw [show nI (S.so m) = nI ((pasN p 0 S).so m) from rfl, key N 0 (by omega) (by omega)]
    exact tot_some ⟨rfl, fr.rf⟩
  · refine tot_bd (ah_0 h hN) (fun W hW => ?_)
    refine loop_T (F := fun w (_ : Unit) k V => gX10_later_b40 N w (nI m) (nI u) (nI k) V) u (fun k _ W => AH V W p S k) ?_ ?_ N 0 () W (by omega) (by omega) hW
    · intro w k _ W hk hI hK
      show tot (gX10_later_b40 N (w + 1) (nI m) (nI u) (nI k) W) _
      unfold gX10_later_b40
      try simp (disch := omega) only [fa_lit, ne_le, ne_lt, ne_eq', nI_add, pk_mul, pk_sub, rdA_n, wrA_n, rdL_n, wrL_n, nI_one, nI_bit1, nI_bit0, fa_or, fa_and, nI_df, nat31, Option.bind_some, m1_le0, m1_lt0, m1_eq, eq_m1, ite_nI, sub_m, pk_m1', not_lt0]
      rw [if_neg (by omega)]
      exact tot_bd (ah_s h hN (by omega) hI) (fun X hX => hK () X hX)
    · intro w _ W hI
      show tot (gX10_later_b40 N (w + 1) (nI m) (nI u) (nI u) W) _
      unfold gX10_later_b40
      try simp (disch := omega) only [fa_lit, ne_le, ne_lt, ne_eq', nI_add, pk_mul, pk_sub, rdA_n, wrA_n, rdL_n, wrL_n, nI_one, nI_bit1, nI_bit0, fa_or, fa_and, nI_df, nat31, Option.bind_some, m1_le0, m1_lt0, m1_eq, eq_m1, ite_nI, sub_m, pk_m1', not_lt0, (hI.1.so hn hm).1]
      rw [if_pos (Nat.le_refl _)]
      refine tot_bd (ah_e h hN hI) (fun X hX => ?_)
      exact tot_some ⟨rfl, hX.1, hX.2⟩
def wJ (k : Nat) : Int32 := if k = 61 then -nI 1 else nI k
theorem m_comes (h : MQn V p S c) (hN : 1000 < N) (hm : m < p.n) (b : Bool) : tot (gX10_comes N (nI m) (nI (if b = true then 1 else 0)) V) (fun r => r.1 = wJ (fst0 (fun k => decide ((pasN p k S).so m = 0) == b) 61 0) ∧ MSt r.2 p.n S ∧ mf V r.2) := by
  have hn := h.1.1.1
  unfold gX10_comes
  refine tot_bd (ah_0 h hN) (fun W hW => ?_)
  have key : ∀ w k W, k ≤ 61 → 61 - k < w → AH V W p S k → tot (gX10_comes_b15 N w (nI m) (nI (if b = true then 1 else 0)) (nI k) W) (fun r => r.1 = wJ (fst0 (fun k => decide ((pasN p k S).so m = 0) == b) (61 - k) k) ∧ MSt r.2 p.n S ∧ mf V r.2) := by
    intro w
    induction w with
    | zero => intro k W _ h; omega
    | succ w ih =>
      intro k W hk hw hI
      have last : ∀ j, j ≤ 61 → tot (gX10_comes_b51 N (nI j) W) (fun r => r.1 = wJ j ∧ MSt r.2 p.n S ∧ mf V r.2) := by
        intro j hj
        unfold gX10_comes_b51
        refine tot_bd (ah_e h hN hI) (fun X hX => ?_)
        unfold wJ
        try simp (disch := omega) only [fa_lit, ne_le, ne_lt, ne_eq', nI_add, pk_mul, pk_sub, rdA_n, wrA_n, rdL_n, wrL_n, nI_one, nI_bit1, nI_bit0, fa_or, fa_and, nI_df, nat31, Option.bind_some, m1_le0, m1_lt0, m1_eq, eq_m1, ite_nI, sub_m, pk_m1', not_lt0]
        by_cases e : j = 61
        · rw [if_neg (by omega), if_pos e]
          exact tot_some ⟨rfl, hX⟩
        · rw [if_pos (by omega), if_neg e]
          exact tot_some ⟨rfl, hX⟩
      have gk := (GoodS.pasN h.1.1 h.2.2.1 k).1 m hm
      have hso := (hI.1.so hn hm).1
      unfold gX10_comes_b15
      by_cases h61 : k = 61
      · subst h61
        try simp (disch := omega) only [fa_lit, ne_le, ne_lt, ne_eq', nI_add, pk_mul, pk_sub, rdA_n, wrA_n, rdL_n, wrL_n, nI_one, nI_bit1, nI_bit0, fa_or, fa_and, nI_df, nat31, Option.bind_some, m1_le0, m1_lt0, m1_eq, eq_m1, ite_nI, sub_m, pk_m1', not_lt0]
        rw [if_pos (by omega)]
        exact last 61 (by omega)
      · have stay : (decide ((pasN p k S).so m = 0) == b) = true → tot (gX10_comes_b51 N (nI k) W) (fun r => r.1 = wJ (fst0 (fun k => decide ((pasN p k S).so m = 0) == b) (61 - k) k) ∧ MSt r.2 p.n S ∧ mf V r.2) := by
          intro q
          rw [show 61 - k = (61 - (k + 1)) + 1 by omega, fst0, if_pos q]
          exact last k (by omega)
        have go : (decide ((pasN p k S).so m = 0) == b) = false → tot ((gX10_passes N W).bind fun V1 => gX10_comes_b15 N w (nI m) (nI (if b = true then 1 else 0)) (nI (k + 1)) V1) (fun r => r.1 = wJ (fst0 (fun k => decide ((pasN p k S).so m = 0) == b) (61 - k) k) ∧ MSt r.2 p.n S ∧ mf V r.2) := by
          intro q
          have q' : ¬ (decide ((pasN p k S).so m = 0) == b) = true := by rw [q]; decide
          rw [show 61 - k = (61 - (k + 1)) + 1 by omega, fst0, if_neg q']
          exact tot_bd (ah_s h hN (by omega) hI) (fun X hX => ih (k + 1) X (by omega) (by omega) hX)
        unfold gX10_comes_b37
        try simp (disch := omega) only [fa_lit, ne_le, ne_lt, ne_eq', nI_add, pk_mul, pk_sub, rdA_n, wrA_n, rdL_n, wrL_n, nI_one, nI_bit1, nI_bit0, fa_or, fa_and, nI_df, nat31, Option.bind_some, m1_le0, m1_lt0, m1_eq, eq_m1, ite_nI, sub_m, pk_m1', not_lt0, hso]
        rw [if_neg (by omega)]
        by_cases e0 : (pasN p k S).so m = 0
        · rw [if_pos e0]
          cases b with
          | true =>
            rw [if_pos rfl]
            exact stay (by simp [e0])
          | false =>
            rw [if_neg (by decide)]
            exact go (by simp [e0])
        · rw [if_neg e0]
          cases b with
          | true =>
            rw [if_neg (by decide)]
            exact go (by simp [e0])
          | false =>
            rw [if_pos (show nI 0 = nI (if false = true then 1 else 0) from rfl)]
            exact stay (by simp [e0])
  exact key N 0 W (by omega) (by omega) hW
theorem q_heals (g : GoodP p) (hN : 1000 < N) (x : Int32) : ∃ v, Qc E p S c (fun V => gX9_heals E N x V) v ∧ Qm p S c (fun V => gX10_heals N x V) v := by
  unfold gX9_heals gX10_heals
  have hn := g.1
  refine qT (qM hn (fun m hm e => ?_))
  subst e
  refine ⟨wJ (fst0 (fun k => decide ((pasN p k S).so m = 0) == true) 61 0), fun V h => ?_, fun V h => ?_⟩
  · have hcc := h.2.2.2.2
    have gm := h.2.2.2.1.1 m hm
    try simp (disch := omega) only [fa_lit, ne_le, ne_lt, ne_eq', nI_add, pk_mul, pk_sub, rdA_n, wrA_n, rdL_n, wrL_n, nI_one, nI_bit1, nI_bit0, fa_or, fa_and, nI_df, nat31, Option.bind_some, m1_le0, m1_lt0, m1_eq, eq_m1, ite_nI, sub_m, pk_m1', not_lt0, (h.2.2.1.1 m hm).1]
    have key : ∀ w k, k ≤ 61 → 61 - k < w → gX9_heals_b22 E N w (nI m) (nI ((pasN p k S).so m)) (nI k) V = some (wJ (fst0 (fun k => decide ((pasN p k S).so m = 0) == true) (61 - k) k), V) := by
      intro w
      induction w with
      | zero => intro k _ h; omega
      | succ w ih =>
        intro k hk hw
        have gk := (GoodS.pasN g h.2.2.2.1 k).1 m hm
        unfold gX9_heals_b22
        by_cases hc : k = 61
        · subst hc
          try simp (disch := omega) only [fa_lit, ne_le, ne_lt, ne_eq', nI_add, pk_mul, pk_sub, rdA_n, wrA_n, rdL_n, wrL_n, nI_one, nI_bit1, nI_bit0, fa_or, fa_and, nI_df, nat31, Option.bind_some, m1_le0, m1_lt0, m1_eq, eq_m1, ite_nI, sub_m, pk_m1', not_lt0]
          rw [if_pos (by omega)]
          rfl
        · have h2 := ih (k + 1) (by omega) (by omega)
          rw [show 61 - k = (61 - (k + 1)) + 1 by omega, fst0]
          try simp (disch := omega) only [fa_lit, ne_le, ne_lt, ne_eq', nI_add, pk_mul, pk_sub, rdA_n, wrA_n, rdL_n, wrL_n, nI_one, nI_bit1, nI_bit0, fa_or, fa_and, nI_df, nat31, Option.bind_some, m1_le0, m1_lt0, m1_eq, eq_m1, ite_nI, sub_m, pk_m1', not_lt0, (h.2.2.1.1 m hm).2]
          rw [if_neg (by omega)]
          by_cases e0 : (pasN p k S).so m = 0
          · rw [if_pos e0, if_pos (by simp [e0])]
            unfold wJ
            rw [if_neg hc]
          · rw [if_neg e0, if_neg (by simp [e0]), c_sYear h.2.1 hm gk.1 (by omega)]
            rw [pas_so] at h2
            exact h2
    rw [show nI (S.so m) = nI ((pasN p 0 S).so m) from rfl, key N 0 (by omega) (by omega)]
    exact tot_some ⟨rfl, fr.rf⟩
  · refine tot_bd (m_comes h hN hm true) (fun r hr => ?_)
    exact tot_some hr
theorem q_again (g : GoodP p) (hN : 1000 < N) (x : Int32) : ∃ v, Qc E p S c (fun V => gX9_again E N x V) v ∧ Qm p S c (fun V => gX10_again N x V) v := by
  unfold gX9_again gX10_again
  have hn := g.1
  refine qT (qM hn (fun m hm e => ?_))
  subst e
  refine ⟨if S.so m = 0 then wJ (fst0 (fun k => decide ((pasN p k S).so m = 0) == false) 61 0) else -nI 1, fun V h => ?_, fun V h => ?_⟩
  · have hcc := h.2.2.2.2
    have gm := h.2.2.2.1.1 m hm
    try simp (disch := omega) only [fa_lit, ne_le, ne_lt, ne_eq', nI_add, pk_mul, pk_sub, rdA_n, wrA_n, rdL_n, wrL_n, nI_one, nI_bit1, nI_bit0, fa_or, fa_and, nI_df, nat31, Option.bind_some, m1_le0, m1_lt0, m1_eq, eq_m1, ite_nI, sub_m, pk_m1', not_lt0, (h.2.2.1.1 m hm).1]
    by_cases s0 : ¬ S.so m = 0
    · rw [if_neg s0, if_neg s0]
      exact tot_some ⟨rfl, fr.rf⟩
    have s0 := Classical.not_not.mp s0
    rw [if_pos s0, if_pos s0]
    have key : ∀ w k, k + 1 ≤ 61 → 61 - (k + 1) < w → (pasN p k S).so m = 0 → gX9_again_b26 E N w (nI m) (nI ((pasN p k S).so m)) (nI (k + 1)) V = some (wJ (fst0 (fun k => decide ((pasN p k S).so m = 0) == false) (61 - (k + 1)) (k + 1)), V) := by
      intro w
      induction w with
      | zero => intro k _ h; omega
      | succ w ih =>
        intro k hk hw hz
        have gk := (GoodS.pasN g h.2.2.2.1 k).1 m hm
        have gk2 := (GoodS.pasN g h.2.2.2.1 (k + 1)).1 m hm
        unfold gX9_again_b26
        by_cases hc : k + 1 = 61
        · rw [hc]
          try simp (disch := omega) only [fa_lit, ne_le, ne_lt, ne_eq', nI_add, pk_mul, pk_sub, rdA_n, wrA_n, rdL_n, wrL_n, nI_one, nI_bit1, nI_bit0, fa_or, fa_and, nI_df, nat31, Option.bind_some, m1_le0, m1_lt0, m1_eq, eq_m1, ite_nI, sub_m, pk_m1', not_lt0]
          rw [if_pos (by omega)]
          rfl
        · have h2 := ih (k + 1) (by omega) (by omega)
          rw [show 61 - (k + 1) = (61 - (k + 1 + 1)) + 1 by omega, fst0]
          try simp (disch := omega) only [fa_lit, ne_le, ne_lt, ne_eq', nI_add, pk_mul, pk_sub, rdA_n, wrA_n, rdL_n, wrL_n, nI_one, nI_bit1, nI_bit0, fa_or, fa_and, nI_df, nat31, Option.bind_some, m1_le0, m1_lt0, m1_eq, eq_m1, ite_nI, sub_m, pk_m1', not_lt0, (h.2.2.1.1 m hm).2]
          rw [if_neg (by omega), c_sYear h.2.1 hm gk.1 (by omega), ← pas_so]
          try simp (disch := omega) only [fa_lit, ne_le, ne_lt, ne_eq', nI_add, pk_mul, pk_sub, rdA_n, wrA_n, rdL_n, wrL_n, nI_one, nI_bit1, nI_bit0, fa_or, fa_and, nI_df, nat31, Option.bind_some, m1_le0, m1_lt0, m1_eq, eq_m1, ite_nI, sub_m, pk_m1', not_lt0]
          by_cases e0 : (pasN p (k + 1) S).so m = 0
          · rw [if_pos e0, if_neg (by simp [e0])]
            exact h2 e0
          · rw [if_neg e0, if_pos (by simp [e0])]
            unfold wJ
            rw [if_neg hc]
    have e := key N 0 (by omega) (by omega) s0
    rw [show (pasN p 0 S).so m = 0 from s0] at e
    have e2 : fst0 (fun k => decide ((pasN p k S).so m = 0) == false) 61 0 = fst0 (fun k => decide ((pasN p k S).so m = 0) == false) (61 - (0 + 1)) (0 + 1) := by
      rw [fst0, if_neg (by simp [show (pasN p 0 S).so m = 0 from s0])]
    rw [show nI 1 = nI (0 + 1) from rfl, e, e2]
    exact tot_some ⟨rfl, fr.rf⟩
  · have hcc := h.2.2.2
    have gm := h.2.2.1.1 m hm
    try simp (disch := omega) only [fa_lit, ne_le, ne_lt, ne_eq', nI_add, pk_mul, pk_sub, rdA_n, wrA_n, rdL_n, wrL_n, nI_one, nI_bit1, nI_bit0, fa_or, fa_and, nI_df, nat31, Option.bind_some, m1_le0, m1_lt0, m1_eq, eq_m1, ite_nI, sub_m, pk_m1', not_lt0, (h.2.1.so hn hm).1]
    by_cases s0 : S.so m = 0
    · rw [if_pos s0, if_pos s0]
      refine tot_bd (m_comes h hN hm false) (fun r hr => ?_)
      exact tot_some hr
    · rw [if_neg s0, if_neg s0]
      exact tot_some ⟨rfl, h.2.1, mf.rf⟩
theorem q_fills (g : GoodP p) (hN : 1000 < N) (x : Int32) : ∃ v, Qc E p S c (fun V => gX9_fills E N x V) v ∧ Qm p S c (fun V => gX10_fills N x V) v := by
  unfold gX9_fills gX10_fills
  refine qT (qW 0 200 rfl rfl (by omega) (by omega) (fun u _ hu e => ?_))
  subst e
  refine ⟨wJ (fst0 (fun k => decide (u ≤ (pasN p k S).po)) 61 0), fun V h => ?_, fun V h => ?_⟩
  · have key : ∀ w k, k ≤ 61 → 61 - k < w → gX9_fills_b23 E N w (nI u) (nI (pasN p k S).po) (nI k) V = some (wJ (fst0 (fun k => decide (u ≤ (pasN p k S).po)) (61 - k) k), V) := by
      intro w
      induction w with
      | zero => intro k _ h; omega
      | succ w ih =>
        intro k hk hw
        have gk := (GoodS.pasN g h.2.2.2.1 k).2.1
        unfold gX9_fills_b23
        by_cases hc : k = 61
        · subst hc
          try simp (disch := omega) only [fa_lit, ne_le, ne_lt, ne_eq', nI_add, pk_mul, pk_sub, rdA_n, wrA_n, rdL_n, wrL_n, nI_one, nI_bit1, nI_bit0, fa_or, fa_and, nI_df, nat31, Option.bind_some, m1_le0, m1_lt0, m1_eq, eq_m1, ite_nI, sub_m, pk_m1', not_lt0]
          rw [if_pos (by omega)]
          rfl
        · have h2 := ih (k + 1) (by omega) (by omega)
          rw [show 61 - k = (61 - (k + 1)) + 1 by omega, fst0]
          try simp (disch := omega) only [fa_lit, ne_le, ne_lt, ne_eq', nI_add, pk_mul, pk_sub, rdA_n, wrA_n, rdL_n, wrL_n, nI_one, nI_bit1, nI_bit0, fa_or, fa_and, nI_df, nat31, Option.bind_some, m1_le0, m1_lt0, m1_eq, eq_m1, ite_nI, sub_m, pk_m1', not_lt0]
          rw [if_neg (by omega)]
          by_cases e0 : (pasN p k S).po < u
          · rw [if_pos e0, if_neg (by simp; omega), c_pYear h.2.1 gk]
            exact h2
          · rw [if_neg e0, if_pos (by simp; omega)]
            unfold wJ
            rw [if_neg hc]
    dsimp only
    rw [h.2.2.1.2.1, show (0 : Int32) = nI 0 from rfl, show nI S.po = nI (pasN p 0 S).po from rfl, key N 0 (by omega) (by omega)]
    exact tot_some ⟨rfl, fr.rf⟩
  · refine tot_bd (ah_0 h hN) (fun W hW => ?_)
    have key : ∀ w k W, k ≤ 61 → 61 - k < w → AH V W p S k → tot (gX10_fills_b33 N w (nI u) (nI k) W) (fun r => r.1 = wJ (fst0 (fun k => decide (u ≤ (pasN p k S).po)) (61 - k) k) ∧ MSt r.2 p.n S ∧ mf V r.2) := by
      intro w
      induction w with
      | zero => intro k W _ h; omega
      | succ w ih =>
        intro k W hk hw hI
        have last : ∀ j, j ≤ 61 → tot (gX10_fills_b59 N (nI j) W) (fun r => r.1 = wJ j ∧ MSt r.2 p.n S ∧ mf V r.2) := by
          intro j hj
          unfold gX10_fills_b59
          refine tot_bd (ah_e h hN hI) (fun X hX => ?_)
          unfold wJ
          try simp (disch := omega) only [fa_lit, ne_le, ne_lt, ne_eq', nI_add, pk_mul, pk_sub, rdA_n, wrA_n, rdL_n, wrL_n, nI_one, nI_bit1, nI_bit0, fa_or, fa_and, nI_df, nat31, Option.bind_some, m1_le0, m1_lt0, m1_eq, eq_m1, ite_nI, sub_m, pk_m1', not_lt0]
          by_cases e : j = 61
          · rw [if_neg (by omega), if_pos e]
            exact tot_some ⟨rfl, hX⟩
          · rw [if_pos (by omega), if_neg e]
            exact tot_some ⟨rfl, hX⟩
        have gk := (GoodS.pasN g h.2.2.1 k).2.1
        unfold gX10_fills_b33
        by_cases h61 : k = 61
        · subst h61
          try simp (disch := omega) only [fa_lit, ne_le, ne_lt, ne_eq', nI_add, pk_mul, pk_sub, rdA_n, wrA_n, rdL_n, wrL_n, nI_one, nI_bit1, nI_bit0, fa_or, fa_and, nI_df, nat31, Option.bind_some, m1_le0, m1_lt0, m1_eq, eq_m1, ite_nI, sub_m, pk_m1', not_lt0]
          rw [if_pos (by omega)]
          exact last 61 (by omega)
        · rw [show 61 - k = (61 - (k + 1)) + 1 by omega, fst0, hI.1.2.1]
          try simp (disch := omega) only [fa_lit, ne_le, ne_lt, ne_eq', nI_add, pk_mul, pk_sub, rdA_n, wrA_n, rdL_n, wrL_n, nI_one, nI_bit1, nI_bit0, fa_or, fa_and, nI_df, nat31, Option.bind_some, m1_le0, m1_lt0, m1_eq, eq_m1, ite_nI, sub_m, pk_m1', not_lt0]
          rw [if_neg (by omega)]
          by_cases e0 : u ≤ (pasN p k S).po
          · rw [if_pos e0, if_pos (by simpa using e0)]
            exact last k (by omega)
          · rw [if_neg e0, if_neg (by simpa using e0)]
            exact tot_bd (ah_s h hN (by omega) hI) (fun X hX => ih (k + 1) X (by omega) (by omega) hX)
    exact key N 0 W (by omega) (by omega) hW
theorem q_dinners (g : GoodP p) (hN : 1000 < N) (x : Int32) : ∃ v, Qc E p S c (fun V => gX9_dinners E N x V) v ∧ Qm p S c (fun V => gX10_dinners N x V) v := by
  unfold gX9_dinners gX10_dinners
  have hn := g.1
  have hp := pw1 hn
  refine qT (qW 1 60 rfl rfl (by omega) (by omega) (fun u _ hu e => ?_))
  subst e
  refine ⟨nI (sm (fun k => pcN (meantN p (pasN p (k + 1) S))) u), fun V h => ?_, fun V h => ?_⟩
  · have hcc := h.2.2.2.2
    have hE := h.1
    refine tot_bd (c_copy (o := 27) (o1 := 24) h.2.2.1 hn hN (by omega)) (fun W hW => ?_)
    have sub : ∀ {X Y : VT}, fr (soA 27) (soF 27) X Y → fr scA scF X Y := fun q => q.mono (fun a ha => by unfold soA at ha; unfold scA; omega) (fun i k hik => by unfold soF at hik; unfold scF; omega)
    refine loop_T (F := fun w (a : Nat) k V => gX9_dinners_b27 E N w (nI u) (nI a) (nI k) V) u (fun k a W => a = sm (fun k => pcN (meantN p (pasN p (k + 1) S))) k ∧ StC W 27 p.n (pasN p k S) ∧ fr scA scF V W) ?_ ?_ N 0 0 W (by omega) (by omega) ⟨rfl, hW.1, sub hW.2⟩
    · intro w k a W hk hI hK
      have h1 := h.fr hI.2.2
      have gk := GoodS.pasN g h.2.2.2.1 k
      show tot (gX9_dinners_b27 E N (w + 1) (nI u) (nI a) (nI k) W) _
      unfold gX9_dinners_b27
      try simp (disch := omega) only [fa_lit, ne_le, ne_lt, ne_eq', nI_add, pk_mul, pk_sub, rdA_n, wrA_n, rdL_n, wrL_n, nI_one, nI_bit1, nI_bit0, fa_or, fa_and, nI_df, nat31, Option.bind_some, m1_le0, m1_lt0, m1_eq, eq_m1, ite_nI, sub_m, pk_m1', not_lt0]
      rw [if_neg (by omega)]
      refine tot_bd (c_pass (o := 27) hN h1.2.1 hI.2.1 gk (by omega) (by omega)) (fun X hX => ?_)
      have h2 := h1.fr (sub hX.2)
      have hml := mnt_lt p (pasN p (k + 1) S)
      rw [c_meant (o := 27) (S := pasN p (k + 1) S) hN h2.2.1 hX.1 (GoodS.pasN g h.2.2.2.1 (k + 1))]
      simp only [Option.bind_some]
      rw [c_bc (by omega)]
      try simp (disch := omega) only [fa_lit, ne_le, ne_lt, ne_eq', nI_add, pk_mul, pk_sub, rdA_n, wrA_n, rdL_n, wrL_n, nI_one, nI_bit1, nI_bit0, fa_or, fa_and, nI_df, nat31, Option.bind_some, m1_le0, m1_lt0, m1_eq, eq_m1, ite_nI, sub_m, pk_m1', not_lt0]
      exact hK _ _ ⟨by rw [sm, hI.1], hX.1, hI.2.2.trans (sub hX.2)⟩
    · intro w a W hI
      show tot (gX9_dinners_b27 E N (w + 1) (nI u) (nI a) (nI u) W) _
      unfold gX9_dinners_b27
      try simp (disch := omega) only [fa_lit, ne_le, ne_lt, ne_eq', nI_add, pk_mul, pk_sub, rdA_n, wrA_n, rdL_n, wrL_n, nI_one, nI_bit1, nI_bit0, fa_or, fa_and, nI_df, nat31, Option.bind_some, m1_le0, m1_lt0, m1_eq, eq_m1, ite_nI, sub_m, pk_m1', not_lt0]
      rw [if_pos (Nat.le_refl _)]
      exact tot_some ⟨by rw [hI.1], hI.2.2⟩
  · refine tot_bd (ah_0 h hN) (fun W hW => ?_)
    refine loop_T (F := fun w (a : Nat) k V => gX10_dinners_b34 N w (nI u) (nI a) (nI k) V) u (fun k a W => a = sm (fun k => pcN (meantN p (pasN p (k + 1) S))) k ∧ AH V W p S k) ?_ ?_ N 0 0 W (by omega) (by omega) ⟨rfl, hW⟩
    · intro w k a W hk hI hK
      show tot (gX10_dinners_b34 N (w + 1) (nI u) (nI a) (nI k) W) _
      unfold gX10_dinners_b34
      try simp (disch := omega) only [fa_lit, ne_le, ne_lt, ne_eq', nI_add, pk_mul, pk_sub, rdA_n, wrA_n, rdL_n, wrL_n, nI_one, nI_bit1, nI_bit0, fa_or, fa_and, nI_df, nat31, Option.bind_some, m1_le0, m1_lt0, m1_eq, eq_m1, ite_nI, sub_m, pk_m1', not_lt0]
      rw [if_neg (by omega)]
      refine tot_bd (ah_s h hN (by omega) hI.2) (fun X hX => ?_)
      have hml := mnt_lt p (pasN p (k + 1) S)
      have gk := GoodS.pasN g h.2.2.1 (k + 1)
      rw [m_meant (h.1.mf hX.2.2) (S := pasN p (k + 1) S) (fun m hm => ⟨(hX.1.so hn hm).1, by have := (gk.1 m hm).1; omega⟩) hN]
      simp only [Option.bind_some]
      rw [m_bits (by omega) hN]
      try simp (disch := omega) only [fa_lit, ne_le, ne_lt, ne_eq', nI_add, pk_mul, pk_sub, rdA_n, wrA_n, rdL_n, wrL_n, nI_one, nI_bit1, nI_bit0, fa_or, fa_and, nI_df, nat31, Option.bind_some, m1_le0, m1_lt0, m1_eq, eq_m1, ite_nI, sub_m, pk_m1', not_lt0]
      exact hK _ _ ⟨by rw [sm, hI.1], hX⟩
    · intro w a W hI
      show tot (gX10_dinners_b34 N (w + 1) (nI u) (nI a) (nI u) W) _
      unfold gX10_dinners_b34
      try simp (disch := omega) only [fa_lit, ne_le, ne_lt, ne_eq', nI_add, pk_mul, pk_sub, rdA_n, wrA_n, rdL_n, wrL_n, nI_one, nI_bit1, nI_bit0, fa_or, fa_and, nI_df, nat31, Option.bind_some, m1_le0, m1_lt0, m1_eq, eq_m1, ite_nI, sub_m, pk_m1', not_lt0]
      rw [if_pos (Nat.le_refl _)]
      refine tot_bd (ah_e h hN hI.2) (fun X hX => ?_)
      exact tot_some ⟨by rw [hI.1], hX⟩
end PAhead
