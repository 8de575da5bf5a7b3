/-! PURE: what is seen, who it was, when to taste. -/
abbrev SN : Type := List (Nat × Nat × Bool)
def d0 : Nat × Nat × Bool := (0, 0, false)
def GoodE (es : SN) : Prop := es.length ≤ 8 ∧ ∀ i, i < es.length → (es.getD i d0).1 ≤ 9 ∧ (es.getD i d0).2.1 ≤ 40
def SeenC (V : VT) (o : Nat) (es : SN) : Prop := V.F o 3 = nI es.length ∧ ∀ i, i < es.length → V.A (o + 1) i = nI (es.getD i d0).1 ∧ V.A (o + 2) i = nI (es.getD i d0).2.1 ∧ V.A (o + 3) i = nI (if (es.getD i d0).2.2 = true then 1 else 0)
def SeenM (V : VT) (r : Nat) (es : SN) : Prop := V.A 163 r = nI es.length ∧ ∀ i, i < es.length → V.A 164 (8 * r + i) = nI (es.getD i d0).1 ∧ V.A 165 (8 * r + i) = nI (es.getD i d0).2.1 ∧ V.A 166 (8 * r + i) = nI (if (es.getD i d0).2.2 = true then 1 else 0)
theorem SeenC.fr {V W : VT} {o : Nat} {es : SN} {A : Nat → Prop} {F : Nat → Nat → Prop} (h : SeenC V o es) (f : fr A F V W) (h1 : ¬ A (o + 1)) (h2 : ¬ A (o + 2)) (h3 : ¬ A (o + 3)) (h4 : ¬ F o 3) : SeenC W o es := by
  obtain ⟨f1, f2, f3, f4⟩ := f
  unfold SeenC
  rw [f4 _ _ h4, f3 _ h1, f3 _ h2, f3 _ h3]
  exact h
theorem SeenM.mf {V W : VT} {r : Nat} {es : SN} (h : SeenM V r es) (f : mf V W) : SeenM W r es := by
  unfold SeenM
  rw [f.2.1 163 (by unfold mxA; omega), f.2.1 164 (by unfold mxA; omega), f.2.1 165 (by unfold mxA; omega), f.2.1 166 (by unfold mxA; omega)]
  exact h
def alB (f : Nat → Bool) : Nat → Bool
  | 0 => true
  | k + 1 => alB f k && f k
theorem alB_false {f : Nat → Bool} {k : Nat} (h : f k = false) : ∀ {n : Nat}, k < n → alB f n = false
  | 0, q => absurd q (Nat.not_lt_zero _)
  | n + 1, q => by
    rw [alB]
    by_cases e : k = n
    · subst e
      rw [h, Bool.and_false]
    · rw [alB_false h (by omega), Bool.false_and]
/-- those no sourer by so many coats more -/
def nsN (p : PP) (S : ST) (k s : Nat) : Nat := mk (fun m => decide (lvN p S m k ≤ s)) p.n
def asN (p : PP) (S : ST) (es : SN) (m i : Nat) : Bool := decide (lvN p S m (es.getD i d0).1 ≤ (es.getD i d0).2.1) == (es.getD i d0).2.2
def whN (p : PP) (S : ST) (es : SN) (k : Nat) : Nat := mk (fun m => alB (asN p S es m) k) p.n
def QcS (E : VE) (p : PP) (S : ST) (c : Nat) (es : SN) (o : VT → Option (Int32 × VT)) (v : Int32) : Prop := ∀ V, CQ E V p S c → SeenC V 86 es → tot (o V) (fun r => r.1 = v ∧ fr scA scF V r.2)
def QmS (p : PP) (S : ST) (c : Nat) (es : SN) (o : VT → Option (Int32 × VT)) (v : Int32) : Prop := ∀ V, MQn V p S c → SeenM V 0 es → tot (o V) (fun r => r.1 = v ∧ MSt r.2 p.n S ∧ mf V r.2)
section PSeen
variable {E : VE} {V : VT} {p : PP} {S : ST} {m c N : Nat} {es : SN}
theorem c_tastes (h : CQ E V p S c) (hN : 1000 < N) : tot (gX9_reckonTastes E N V) (fun W => (∀ k m, k < 10 → m < p.n → W.A 92 (k * 7 + m) = nI (lvN p S m k)) ∧ fr scA scF V W) := by
  have hn := h.2.1.1.1
  have hE := h.1
  have g := h.2.2.2.1
  unfold gX9_reckonTastes
  refine loop_T (F := fun w (_ : Unit) k V => gX9_reckonTastes_b2 E N w (nI k) V) p.n (fun j _ W => (∀ k m, k < 10 → m < j → W.A 92 (k * 7 + m) = nI (lvN p S m k)) ∧ fr scA scF V W) ?_ ?_ N 0 () V (by omega) (by omega) ⟨fun k m _ hm => by omega, fr.rf⟩
  · intro w j _ W hj hI hK
    have h1 := h.fr hI.2
    have gj := g.1 j hj
    show tot (gX9_reckonTastes_b2 E N (w + 1) (nI j) W) _
    unfold gX9_reckonTastes_b2
    try simp (disch := omega) only [fa_lit, ne_le, ne_lt, ne_eq', nI_add, pk_mul, pk_sub, rdA_n, wrA_n, rdL_n, wrL_n, nI_one, nI_bit1, nI_bit0, fa_or, fa_and, nI_df, nat31, Option.bind_some, m1_le0, m1_lt0, m1_eq, eq_m1, ite_nI, sub_m, pk_m1', not_lt0, h1.2.1.2.1.1, (h1.2.2.1.1 j hj).1]
    rw [if_neg (by omega)]
    refine loop_T (F := fun w2 (_ : Unit) k V => gX9_reckonTastes_b25 E N (gX9_reckonTastes_b2 E N w) w2 (nI j) (nI (lvN p S j k)) (nI k) V) 10 (fun k _ X => (∀ k2 m, k2 < 10 → (m < j ∨ m = j ∧ k2 < k) → X.A 92 (k2 * 7 + m) = nI (lvN p S m k2)) ∧ fr scA scF V X) ?_ ?_ N 0 () W (by omega) (by omega) ⟨fun k2 m hk hm => hI.1 k2 m hk (by omega), hI.2⟩
    · intro w2 k _ X hk hJ hK2
      have h2 := h.fr hJ.2
      have hl := lvN_le g hj k
      show tot (gX9_reckonTastes_b25 E N (gX9_reckonTastes_b2 E N w) (w2 + 1) (nI j) (nI (lvN p S j k)) (nI k) X) _
      unfold gX9_reckonTastes_b25
      try simp (disch := omega) only [fa_lit, ne_le, ne_lt, ne_eq', nI_add, pk_mul, pk_sub, rdA_n, wrA_n, rdL_n, wrL_n, nI_one, nI_bit1, nI_bit0, fa_or, fa_and, nI_df, nat31, Option.bind_some, m1_le0, m1_lt0, m1_eq, eq_m1, ite_nI, sub_m, pk_m1', not_lt0]
      rw [if_neg (by omega)]
      have f1 : fr scA scF X (wA X 92 (k * 7 + j) (nI (lvN p S j k))) := fr_A _ _ (by unfold scA; omega)
      have h3 := h2.fr f1
      rw [(h3.2.2.1.1 j hj).2, h3.2.2.1.2.2]
      try simp (disch := omega) only [fa_lit, ne_le, ne_lt, ne_eq', nI_add, pk_mul, pk_sub, rdA_n, wrA_n, rdL_n, wrL_n, nI_one, nI_bit1, nI_bit0, fa_or, fa_and, nI_df, nat31, Option.bind_some, m1_le0, m1_lt0, m1_eq, eq_m1, ite_nI, sub_m, pk_m1', not_lt0]
      refine tot_bd (c_sCoat h3.2.1 hN hj hl) (fun r hr => ?_)
      have f2 := frL_lw hE hr.2
      have e92 := f2.2.2.1 92 (by unfold lwA; omega)
      rw [hr.1]
      try simp (disch := omega) only [fa_lit, ne_le, ne_lt, ne_eq', nI_add, pk_mul, pk_sub, rdA_n, wrA_n, rdL_n, wrL_n, nI_one, nI_bit1, nI_bit0, fa_or, fa_and, nI_df, nat31, Option.bind_some, m1_le0, m1_lt0, m1_eq, eq_m1, ite_nI, sub_m, pk_m1', not_lt0]
      refine hK2 () _ ⟨fun k2 m hk2 hm => ?_, (hJ.2.trans f1).trans (lw_sc f2)⟩
      rw [e92, wA_A]
      by_cases e : k2 * 7 + m = k * 7 + j
      · have e3 : m = j ∧ k2 = k := by omega
        rw [if_pos ⟨rfl, e⟩, e3.1, e3.2]
      · rw [if_neg (fun q => e q.2)]
        refine hJ.1 k2 m hk2 ?_
        rcases hm with hm | hm
        · exact Or.inl hm
        · refine Or.inr ⟨hm.1, ?_⟩
          have : k2 ≠ k := fun q => e (by rw [q, hm.1])
          omega
    · intro w2 _ X hJ
      show tot (gX9_reckonTastes_b25 E N (gX9_reckonTastes_b2 E N w) (w2 + 1) (nI j) (nI (lvN p S j 10)) (nI 10) X) _
      unfold gX9_reckonTastes_b25
      try simp (disch := omega) only [fa_lit, ne_le, ne_lt, ne_eq', nI_add, pk_mul, pk_sub, rdA_n, wrA_n, rdL_n, wrL_n, nI_one, nI_bit1, nI_bit0, fa_or, fa_and, nI_df, nat31, Option.bind_some, m1_le0, m1_lt0, m1_eq, eq_m1, ite_nI, sub_m, pk_m1', not_lt0]
      rw [if_pos (by omega)]
      exact hK () _ ⟨fun k m hk hm => hJ.1 k m hk (by omega), hJ.2⟩
  · intro w _ W hI
    have h1 := h.fr hI.2
    show tot (gX9_reckonTastes_b2 E N (w + 1) (nI p.n) W) _
    unfold gX9_reckonTastes_b2
    try simp (disch := omega) only [fa_lit, ne_le, ne_lt, ne_eq', nI_add, pk_mul, pk_sub, rdA_n, wrA_n, rdL_n, wrL_n, nI_one, nI_bit1, nI_bit0, fa_or, fa_and, nI_df, nat31, Option.bind_some, m1_le0, m1_lt0, m1_eq, eq_m1, ite_nI, sub_m, pk_m1', not_lt0, h1.2.1.2.1.1]
    rw [if_pos (Nat.le_refl _)]
    exact tot_some hI
theorem m_sourBy (h : MQn V p S c) (hN : 1000 < N) (hm : m < p.n) {u : Nat} (hu : u ≤ 40) : tot (gX10_sourBy N (nI m) (nI u) V) (fun r => r.1 = nI (lvN p S m u) ∧ fr wkB nof V r.2) := by
  have hn := h.1.1.1
  have g := h.2.2.1
  have gp := h.1.1.2.1 m hm
  unfold gX10_sourBy
  try simp (disch := omega) only [fa_lit, ne_le, ne_lt, ne_eq', nI_add, pk_mul, pk_sub, rdA_n, wrA_n, rdL_n, wrL_n, nI_one, nI_bit1, nI_bit0, fa_or, fa_and, nI_df, nat31, Option.bind_some, m1_le0, m1_lt0, m1_eq, eq_m1, ite_nI, sub_m, pk_m1', not_lt0, (h.2.1.so hn hm).1]
  refine loop_T (F := fun w (_ : Unit) k V => gX10_sourBy_b12 N w (nI m) (nI u) (nI (lvN p S m k)) (nI k) V) u (fun k _ W => fr wkB nof V W) ?_ ?_ N 0 () V (by omega) (by omega) fr.rf
  · intro w k _ W hk hI hK
    have h1 := h.mk (wkB_mf hI) (wkB_st h.2.1 hI)
    have hl := lvN_le g hm k
    have tk := h.1.1.2.2.2.2 (lvN p S m k) (S.co m + k) (100 - p.bi m + S.ye)
    show tot (gX10_sourBy_b12 N (w + 1) (nI m) (nI u) (nI (lvN p S m k)) (nI k) W) _
    unfold gX10_sourBy_b12
    try simp (disch := omega) only [fa_lit, ne_le, ne_lt, ne_eq', nI_add, pk_mul, pk_sub, rdA_n, wrA_n, rdL_n, wrL_n, nI_one, nI_bit1, nI_bit0, fa_or, fa_and, nI_df, nat31, Option.bind_some, m1_le0, m1_lt0, m1_eq, eq_m1, ite_nI, sub_m, pk_m1', not_lt0, (h1.2.1.so hn hm).2, (h1.1.2.2.1 m hm).1]
    rw [if_neg (by omega)]
    by_cases h3 : p.kd m = 3
    · rw [if_pos h3]
      refine tot_some ⟨?_, hI⟩
      rw [lvN_win h3, lvN_win h3]
    · rw [if_neg h3]
      refine tot_bd (m_taken h1.1 hN hm h1.2.1.1) (fun r hr => ?_)
      have e : lvN p S m (k + 1) = lvN p S m k - p.tk (lvN p S m k) (S.co m + k) (100 - p.bi m + S.ye) := by
        rw [lvN, sCoat, if_neg h3]
      rw [hr.1]
      try simp (disch := omega) only [fa_lit, ne_le, ne_lt, ne_eq', nI_add, pk_mul, pk_sub, rdA_n, wrA_n, rdL_n, wrL_n, nI_one, nI_bit1, nI_bit0, fa_or, fa_and, nI_df, nat31, Option.bind_some, m1_le0, m1_lt0, m1_eq, eq_m1, ite_nI, sub_m, pk_m1', not_lt0]
      rw [← e]
      exact hK () _ (hI.trans hr.2)
  · intro w _ W hI
    show tot (gX10_sourBy_b12 N (w + 1) (nI m) (nI u) (nI (lvN p S m u)) (nI u) W) _
    unfold gX10_sourBy_b12
    try simp (disch := omega) only [fa_lit, ne_le, ne_lt, ne_eq', nI_add, pk_mul, pk_sub, rdA_n, wrA_n, rdL_n, wrL_n, nI_one, nI_bit1, nI_bit0, fa_or, fa_and, nI_df, nat31, Option.bind_some, m1_le0, m1_lt0, m1_eq, eq_m1, ite_nI, sub_m, pk_m1', not_lt0]
    rw [if_pos (Nat.le_refl _)]
    exact tot_some ⟨rfl, hI⟩
theorem m_sours (h : MQn V p S c) (hN : 1000 < N) : tot (gX10_laysSours N V) (fun W => (∀ k m, k < 10 → m < p.n → W.A 176 (10 * m + k) = nI (lvN p S m k)) ∧ MSt W p.n S ∧ mf V W) := by
  have hn := h.1.1.1
  unfold gX10_laysSours
  refine loop_T (F := fun w (_ : Unit) k V => gX10_laysSours_b2 N w (nI k) V) p.n (fun j _ W => (∀ k m, k < 10 → m < j → W.A 176 (10 * m + k) = nI (lvN p S m k)) ∧ MSt W p.n S ∧ mf V W) ?_ ?_ N 0 () V (by omega) (by omega) ⟨fun k m _ hm => by omega, h.2.1, mf.rf⟩
  · intro w j _ W hj hI hK
    have h1 := h.mk hI.2.2 hI.2.1
    show tot (gX10_laysSours_b2 N (w + 1) (nI j) W) _
    unfold gX10_laysSours_b2
    try simp (disch := omega) only [fa_lit, ne_le, ne_lt, ne_eq', nI_add, pk_mul, pk_sub, rdA_n, wrA_n, rdL_n, wrL_n, nI_one, nI_bit1, nI_bit0, fa_or, fa_and, nI_df, nat31, Option.bind_some, m1_le0, m1_lt0, m1_eq, eq_m1, ite_nI, sub_m, pk_m1', not_lt0, h1.1.2.1.1]
    rw [if_neg (by omega)]
    refine loop_T (F := fun w2 (_ : Unit) k V => gX10_laysSours_b14 N (gX10_laysSours_b2 N w) w2 (nI j) (nI k) V) 10 (fun k _ X => (∀ k2 m, k2 < 10 → (m < j ∨ m = j ∧ k2 < k) → X.A 176 (10 * m + k2) = nI (lvN p S m k2)) ∧ MSt X p.n S ∧ mf V X) ?_ ?_ N 0 () W (by omega) (by omega) ⟨fun k2 m hk hm => hI.1 k2 m hk (by omega), hI.2⟩
    · intro w2 k _ X hk hJ hK2
      have h2 := h.mk hJ.2.2 hJ.2.1
      show tot (gX10_laysSours_b14 N (gX10_laysSours_b2 N w) (w2 + 1) (nI j) (nI k) X) _
      unfold gX10_laysSours_b14
      try simp (disch := omega) only [fa_lit, ne_le, ne_lt, ne_eq', nI_add, pk_mul, pk_sub, rdA_n, wrA_n, rdL_n, wrL_n, nI_one, nI_bit1, nI_bit0, fa_or, fa_and, nI_df, nat31, Option.bind_some, m1_le0, m1_lt0, m1_eq, eq_m1, ite_nI, sub_m, pk_m1', not_lt0]
      rw [if_neg (by omega)]
      refine tot_bd (m_sourBy h2 hN hj (by omega)) (fun r hr => ?_)
      have e176 := hr.2.2.2.1 176 (by unfold wkB; omega)
      rw [hr.1]
      try simp (disch := omega) only [fa_lit, ne_le, ne_lt, ne_eq', nI_add, pk_mul, pk_sub, rdA_n, wrA_n, rdL_n, wrL_n, nI_one, nI_bit1, nI_bit0, fa_or, fa_and, nI_df, nat31, Option.bind_some, m1_le0, m1_lt0, m1_eq, eq_m1, ite_nI, sub_m, pk_m1', not_lt0]
      refine hK2 () _ ⟨fun k2 m hk2 hm => ?_, (wkB_st hJ.2.1 hr.2).at (wA_n _ _ _ (by omega)), (hJ.2.2.trans (wkB_mf hr.2)).trans (mf_A _ _ (by unfold mxA; omega))⟩
      rw [wA_A, e176]
      by_cases e : 10 * m + k2 = 10 * j + k
      · have e3 : m = j ∧ k2 = k := by omega
        rw [if_pos ⟨rfl, e⟩, e3.1, e3.2]
      · rw [if_neg (fun q => e q.2)]
        refine hJ.1 k2 m hk2 ?_
        rcases hm with hm | hm
        · exact Or.inl hm
        · refine Or.inr ⟨hm.1, ?_⟩
          have : k2 ≠ k := fun q => e (by rw [q, hm.1])
          omega
    · intro w2 _ X hJ
      show tot (gX10_laysSours_b14 N (gX10_laysSours_b2 N w) (w2 + 1) (nI j) (nI 10) X) _
      unfold gX10_laysSours_b14
      try simp (disch := omega) only [fa_lit, ne_le, ne_lt, ne_eq', nI_add, pk_mul, pk_sub, rdA_n, wrA_n, rdL_n, wrL_n, nI_one, nI_bit1, nI_bit0, fa_or, fa_and, nI_df, nat31, Option.bind_some, m1_le0, m1_lt0, m1_eq, eq_m1, ite_nI, sub_m, pk_m1', not_lt0]
      rw [if_pos (Nat.le_refl _)]
      exact hK () _ ⟨fun k m hk hm => hJ.1 k m hk (by omega), hJ.2⟩
  · intro w _ W hI
    have h1 := h.mk hI.2.2 hI.2.1
    show tot (gX10_laysSours_b2 N (w + 1) (nI p.n) W) _
    unfold gX10_laysSours_b2
    try simp (disch := omega) only [fa_lit, ne_le, ne_lt, ne_eq', nI_add, pk_mul, pk_sub, rdA_n, wrA_n, rdL_n, wrL_n, nI_one, nI_bit1, nI_bit0, fa_or, fa_and, nI_df, nat31, Option.bind_some, m1_le0, m1_lt0, m1_eq, eq_m1, ite_nI, sub_m, pk_m1', not_lt0, h1.1.2.1.1]
    rw [if_pos (Nat.le_refl _)]
    exact tot_some hI
theorem c_ns (h : CQ E V p S c) (hA : ∀ k m, k < 10 → m < p.n → V.A 92 (k * 7 + m) = nI (lvN p S m k)) (hN : 1000 < N) {k s : Nat} (hk : k < 10) (hs : s ≤ 40) : gX9_noSourerBits E N (nI k) (nI s) V = some (nI (nsN p S k s), V) := by
  have hn := h.2.1.1.1
  unfold gX9_noSourerBits
  refine loop_mk (F := fun w a j => gX9_noSourerBits_b5 E N w (nI k) (nI s) (nI a) (nI j) V) p.n (fun m => decide (lvN p S m k ≤ s)) (fun a => some (nI a, V)) ?_ ?_ N 0 (by omega) (by omega)
  · intro w j a R hj ha hR
    have hl := lvN_le h.2.2.2.1 hj k
    show gX9_noSourerBits_b5 E N (w + 1) (nI k) (nI s) (nI a) (nI j) V = R
    unfold gX9_noSourerBits_b5
    try simp (disch := omega) only [fa_lit, ne_le, ne_lt, ne_eq', nI_add, pk_mul, pk_sub, rdA_n, wrA_n, rdL_n, wrL_n, nI_one, nI_bit1, nI_bit0, fa_or, fa_and, nI_df, nat31, Option.bind_some, m1_le0, m1_lt0, m1_eq, eq_m1, ite_nI, sub_m, pk_m1', not_lt0, h.2.1.2.1.1, hA k j hk hj]
    rw [if_neg (by omega)]
    by_cases e : s < lvN p S j k
    · rw [if_pos e]
      simpa [show ¬ lvN p S j k ≤ s by omega] using hR
    · rw [if_neg e]
      simpa [show lvN p S j k ≤ s by omega] using hR
  · intro w a ha
    show gX9_noSourerBits_b5 E N (w + 1) (nI k) (nI s) (nI a) (nI p.n) V = _
    unfold gX9_noSourerBits_b5
    try simp (disch := omega) only [fa_lit, ne_le, ne_lt, ne_eq', nI_add, pk_mul, pk_sub, rdA_n, wrA_n, rdL_n, wrL_n, nI_one, nI_bit1, nI_bit0, fa_or, fa_and, nI_df, nat31, Option.bind_some, m1_le0, m1_lt0, m1_eq, eq_m1, ite_nI, sub_m, pk_m1', not_lt0, h.2.1.2.1.1]
    rw [if_pos (Nat.le_refl _)]
theorem wh_lt (p : PP) (S : ST) (es : SN) (k : Nat) : whN p S es k < 2 ^ p.n := mk_lt _ _
theorem c_susp (h : CQ E V p S c) (hA : ∀ k m, k < 10 → m < p.n → V.A 92 (k * 7 + m) = nI (lvN p S m k)) (hS : SeenC V 86 es) (ge : GoodE es) (hN : 1000 < N) : gX9_suspects E N V = some (nI (whN p S es es.length), V) := by
  have hn := h.2.1.1.1
  have hp := pw1 hn
  have hel := ge.1
  unfold gX9_suspects
  rw [c_every h.2.1]
  simp only [Option.bind_some]
  have key : ∀ w k, k ≤ es.length → es.length - k < w → gX9_suspects_b10 E N w (nI (whN p S es k)) (nI k) V = some (nI (whN p S es es.length), V) := by
    intro w
    induction w with
    | zero => intro k _ h; omega
    | succ w ih =>
      intro k hk hw
      have hwl := wh_lt p S es k
      unfold gX9_suspects_b10
      rw [hS.1]
      by_cases hc : k = es.length
      · subst hc
        try simp (disch := omega) only [fa_lit, ne_le, ne_lt, ne_eq', nI_add, pk_mul, pk_sub, rdA_n, wrA_n, rdL_n, wrL_n, nI_one, nI_bit1, nI_bit0, fa_or, fa_and, nI_df, nat31, Option.bind_some, m1_le0, m1_lt0, m1_eq, eq_m1, ite_nI, sub_m, pk_m1', not_lt0]
        rw [if_pos (Nat.le_refl _)]
      · have hk2 : k < es.length := by omega
        have h2 := ih (k + 1) (by omega) (by omega)
        obtain ⟨s1, s2, s3⟩ := hS.2 k hk2
        obtain ⟨g1, g2⟩ := ge.2 k hk2
        try simp (disch := omega) only [fa_lit, ne_le, ne_lt, ne_eq', nI_add, pk_mul, pk_sub, rdA_n, wrA_n, rdL_n, wrL_n, nI_one, nI_bit1, nI_bit0, fa_or, fa_and, nI_df, nat31, Option.bind_some, m1_le0, m1_lt0, m1_eq, eq_m1, ite_nI, sub_m, pk_m1', not_lt0]
        rw [if_neg (by omega), s1, s2, c_ns h hA hN (by omega) g2]
        simp only [Option.bind_some]
        rw [show V.A 89 k = nI (if (es.getD k d0).2.2 = true then 1 else 0) from s3]
        cases hb : (es.getD k d0).2.2 with
        | true =>
          rw [if_neg (by decide), fa_and]
          have e : whN p S es k &&& nsN p S (es.getD k d0).1 (es.getD k d0).2.1 = whN p S es (k + 1) := by
            refine tb_ext (Nat.lt_of_le_of_lt Nat.and_le_left hwl) (wh_lt _ _ _ _) (fun i hi => ?_)
            rw [Nat.testBit_and]
            unfold whN nsN
            rw [mk_tb, mk_tb, mk_tb, alB]
            unfold asN
            rw [hb]
            simp [hi]
          rw [e]
          exact h2
        | false =>
          rw [if_pos (by decide), nI_df]
          have e : nDf (whN p S es k) (nsN p S (es.getD k d0).1 (es.getD k d0).2.1) = whN p S es (k + 1) := by
            refine tb_ext (nDf_le _ _ hwl) (wh_lt _ _ _ _) (fun i hi => ?_)
            rw [nDf_tb]
            unfold whN nsN
            rw [mk_tb, mk_tb, mk_tb, alB]
            unfold asN
            rw [hb]
            simp [hi]
          rw [e]
          exact h2
  have e0 : whN p S es 0 = 2 ^ p.n - 1 := by
    unfold whN
    rw [← mk_ev]
    rfl
  have := key N 0 (by omega) (by omega)
  rw [e0] at this
  exact this
theorem m_who {r0 : VT → Option (Int32 × VT)} (h : MQn V p S c) (hS : SeenM V 0 es) (ge : GoodE es) (hN : 1000 < N) : tot ((gX10_laysSours N V).bind fun V2 => gX10_who_b13 N N 0 0 V2) (fun r => r.1 = nI (whN p S es es.length) ∧ (∀ k m, k < 10 → m < p.n → r.2.A 176 (10 * m + k) = nI (lvN p S m k)) ∧ MSt r.2 p.n S ∧ mf V r.2) := by
  have hn := h.1.1.1
  have hel := ge.1
  refine tot_bd (m_sours h hN) (fun W hW => ?_)
  have h1 := h.mk hW.2.2 hW.2.1
  have hS1 := hS.mf hW.2.2
  have as : ∀ m, m < p.n → gX10_isAsSeen N (nI m) W = some (nI (if alB (asN p S es m) es.length = true then 1 else 0), W) := by
    intro m hm
    unfold gX10_isAsSeen
    have key : ∀ w k, k ≤ es.length → es.length - k < w → alB (asN p S es m) k = true → gX10_isAsSeen_b2 N w (nI m) (nI k) W = some (nI (if alB (asN p S es m) es.length = true then 1 else 0), W) := by
      intro w
      induction w with
      | zero => intro k _ h; omega
      | succ w ih =>
        intro k hk hw hal
        unfold gX10_isAsSeen_b2 gX10_isAsSeen_b42
        rw [hS1.1]
        by_cases hc : k = es.length
        · subst hc
          try simp (disch := omega) only [fa_lit, ne_le, ne_lt, ne_eq', nI_add, pk_mul, pk_sub, rdA_n, wrA_n, rdL_n, wrL_n, nI_one, nI_bit1, nI_bit0, fa_or, fa_and, nI_df, nat31, Option.bind_some, m1_le0, m1_lt0, m1_eq, eq_m1, ite_nI, sub_m, pk_m1', not_lt0]
          rw [if_pos (Nat.le_refl _), if_pos hal]
        · have hk2 : k < es.length := by omega
          have h2 := ih (k + 1) (by omega) (by omega)
          obtain ⟨s1, s2, s3⟩ := hS1.2 k hk2
          obtain ⟨g1, g2⟩ := ge.2 k hk2
          have hl := lvN_le h.2.2.1 hm (es.getD k d0).1
          rw [Nat.mul_zero, Nat.zero_add] at s1 s2 s3
          try simp (disch := omega) only [fa_lit, ne_le, ne_lt, ne_eq', nI_add, pk_mul, pk_sub, rdA_n, wrA_n, rdL_n, wrL_n, nI_one, nI_bit1, nI_bit0, fa_or, fa_and, nI_df, nat31, Option.bind_some, m1_le0, m1_lt0, m1_eq, eq_m1, ite_nI, sub_m, pk_m1', not_lt0, s1, s2, s3]
          rw [if_neg (by omega)]
          try simp (disch := omega) only [fa_lit, ne_le, ne_lt, ne_eq', nI_add, pk_mul, pk_sub, rdA_n, wrA_n, rdL_n, wrL_n, nI_one, nI_bit1, nI_bit0, fa_or, fa_and, nI_df, nat31, Option.bind_some, m1_le0, m1_lt0, m1_eq, eq_m1, ite_nI, sub_m, pk_m1', not_lt0, hW.1 (es.getD k d0).1 m (by omega) hm]
          rw [alB, hal, Bool.true_and] at h2
          have no : asN p S es m k = false → (some (nI 0, W) : Option (Int32 × VT)) = some (nI (if alB (asN p S es m) es.length = true then 1 else 0), W) := by
            intro q
            rw [alB_false q hk2]
            rfl
          unfold asN at no
          by_cases e : (es.getD k d0).2.1 < lvN p S m (es.getD k d0).1
          · rw [if_pos e]
            have e2 : decide (lvN p S m (es.getD k d0).1 ≤ (es.getD k d0).2.1) = false := decide_eq_false (by omega)
            cases hb : (es.getD k d0).2.2 with
            | true =>
              rw [if_neg (by decide)]
              exact no (by rw [e2, hb]; rfl)
            | false =>
              rw [if_pos (show nI 0 = nI (if false = true then 1 else 0) from rfl)]
              exact h2 (by unfold asN; rw [e2, hb]; rfl)
          · rw [if_neg e]
            have e2 : decide (lvN p S m (es.getD k d0).1 ≤ (es.getD k d0).2.1) = true := decide_eq_true (by omega)
            cases hb : (es.getD k d0).2.2 with
            | true =>
              rw [if_pos (show nI 1 = nI (if true = true then 1 else 0) from rfl)]
              exact h2 (by unfold asN; rw [e2, hb]; rfl)
            | false =>
              rw [if_neg (by decide)]
              exact no (by rw [e2, hb]; rfl)
    exact key N 0 (by omega) (by omega) rfl
  have e : gX10_who_b13 N N 0 0 W = some (nI (whN p S es es.length), W) := by
    refine loop_mk (F := fun w a k => gX10_who_b13 N w (nI a) (nI k) W) p.n (fun m => alB (asN p S es m) es.length) (fun a => some (nI a, W)) ?_ ?_ N 0 (by omega) (by omega)
    · intro w k a R hk ha hR
      show gX10_who_b13 N (w + 1) (nI a) (nI k) W = R
      unfold gX10_who_b13
      rw [as k hk]
      try simp (disch := omega) only [fa_lit, ne_le, ne_lt, ne_eq', nI_add, pk_mul, pk_sub, rdA_n, wrA_n, rdL_n, wrL_n, nI_one, nI_bit1, nI_bit0, fa_or, fa_and, nI_df, nat31, Option.bind_some, m1_le0, m1_lt0, m1_eq, eq_m1, ite_nI, sub_m, pk_m1', not_lt0, h1.1.2.1.1]
      rw [if_neg (by omega)]
      cases hb : alB (asN p S es k) es.length with
      | true =>
        rw [if_neg (by decide)]
        simpa [hb] using hR
      | false =>
        rw [if_pos (by decide)]
        simpa [hb] using hR
    · intro w a ha
      show gX10_who_b13 N (w + 1) (nI a) (nI p.n) W = _
      unfold gX10_who_b13
      try simp (disch := omega) only [fa_lit, ne_le, ne_lt, ne_eq', nI_add, pk_mul, pk_sub, rdA_n, wrA_n, rdL_n, wrL_n, nI_one, nI_bit1, nI_bit0, fa_or, fa_and, nI_df, nat31, Option.bind_some, m1_le0, m1_lt0, m1_eq, eq_m1, ite_nI, sub_m, pk_m1', not_lt0, h1.1.2.1.1]
      rw [if_pos (Nat.le_refl _)]
  rw [e]
  exact tot_some ⟨rfl, hW.1, hW.2.1, hW.2.2⟩
theorem th0S {v : Int32} {o : VT → Option (Int32 × VT)} (h : MQn V p S c) (hS : SeenM V 0 es) (k : ∀ V1, MQn V1 p S c → SeenM V1 0 es → tot (o V1) (fun r => r.1 = v ∧ MSt r.2 p.n S ∧ mf V1 r.2)) : tot ((some (wF V 137 0 0)).bind o) (fun r => r.1 = v ∧ MSt r.2 p.n S ∧ mf V r.2) := by
  have f : mf V (wF V 137 0 0) := ⟨rfl, fun _ _ => rfl, fun i j hij => by rw [wF_F]; exact if_neg hij⟩
  rw [Option.bind_some]
  exact tot_mo (k _ (h.mk f h.2.1) (hS.mf f)) (fun r hr => ⟨hr.1, hr.2.1, f.trans hr.2.2⟩)
theorem q_who (ge : GoodE es) (hN : 1000 < N) : ∃ v, QcS E p S c es (fun V => gX9_who E N V) v ∧ QmS p S c es (fun V => gX10_who N V) v := by
  unfold gX9_who gX10_who
  refine ⟨nI (whN p S es es.length), fun V h hS => ?_, fun V h hS => ?_⟩
  · refine tot_bd (c_tastes h hN) (fun W hW => ?_)
    rw [c_susp (h.fr hW.2) hW.1 (hS.fr hW.2 (by unfold scA; omega) (by unfold scA; omega) (by unfold scA; omega) (by unfold scF; omega)) ge hN]
    exact tot_some ⟨rfl, hW.2⟩
  · refine th0S h hS (fun V1 h1 hS1 => ?_)
    refine tot_mo (m_who (r0 := fun _ => none) h1 hS1 ge hN) (fun r hr => ⟨hr.1, hr.2.2⟩)
end PSeen
