/-! PURE: see, marks, feed. -/
theorem qn_b (b : Bool) : qnar .boolean (nI (if b = true then 1 else 0)) = nI (if b = true then 1 else 0) := by
  cases b <;> decide
theorem gd_app {α : Type} {l : List α} {x d : α} {i : Nat} : (l ++ [x]).getD i d = if i = l.length then x else l.getD i d := by
  rw [List.getD_eq_getElem?_getD, List.getD_eq_getElem?_getD]
  by_cases h : i < l.length
  · rw [List.getElem?_append_left h, if_neg (by omega)]
  · rw [List.getElem?_append_right (by omega)]
    by_cases h2 : i = l.length
    · subst h2
      simp
    · rw [if_neg h2, List.getElem?_eq_none (by simp; omega), List.getElem?_eq_none (by omega)]
section PCalls2
variable {E : VE} {V W : VT} {p : PP} {S : ST} {n o c N : Nat} {H : List ST} {ls : LN} {es : SN} {mk : MK} {tp : List Nat} {A : AB}
theorem GoodE.app {k s : Nat} {b : Bool} (h : GoodE es) (hl : es.length < 8) (hk : k ≤ 9) (hs : s ≤ 40) : GoodE (es ++ [(k, s, b)]) := by
  refine ⟨by simp; omega, fun i hi => ?_⟩
  rw [gd_app]
  split
  · exact ⟨hk, hs⟩
  · simp at hi
    exact h.2 i (by omega)
theorem CR.ex (h : CR E V A) {A' : Nat → Prop} {F' : Nat → Nat → Prop} (f : fr A' F' V W) (hA : ∀ a, A' a → 80 ≤ a ∧ a ≤ 82 ∨ 86 ≤ a ∧ a ≤ 89) (hF : ∀ i k, F' i k → i = 80 ∨ i = 86) {ls' : LN} {es' : SN} (hl : LinC W 80 ls') (he : SeenC W 86 es') : CR E W (A.p, A.S, A.H, ls', es', A.mk, A.tp) := by
  obtain ⟨h1, h2, h3, h4, h5, h6, h7, h8⟩ := h
  have e : ∀ a, a < 80 ∨ 93 ≤ a → eqs V W a := fun a ha => fr_eqs f (fun q => by have := hA a q; omega) (fun k q => by have := hF a k q; omega)
  exact ⟨h1, h2.cg (fun a _ _ => e a (by omega)), h3.cg (fun a _ _ => e a (by omega)), h4.cg (fun a _ _ => e a (by omega)), hl, he, h7.cg (fun a _ _ => e a (by omega)), h8.cg (fun a _ _ => e a (by omega))⟩
theorem s_see (hg : GoodA c A) (x y : Int32) (b : Bool) : Stq E A c (fun V => gX9_see E x y (nI (if b = true then 1 else 0)) V) (fun V => gX10_see x y (nI (if b = true then 1 else 0)) V) := by
  unfold gX9_see gX10_see
  refine st_th (st_W hg 0 9 rfl rfl (by omega) (by omega) (fun k _ hk e => ?_))
  subst e
  refine st_W hg 0 40 rfl rfl (by omega) (by omega) (fun s _ hs e => ?_)
  subst e
  have ge := hg.2.2.2.2.1
  have gl := ge.1
  by_cases hl : A.es.length < 8
  · refine ⟨1, (A.p, A.S, A.H, A.ls, A.es ++ [(k, s, b)], A.mk, A.tp), ⟨hg.1, hg.2.1.mono (by omega), hg.2.2.1.mono (by omega), hg.2.2.2.1, ge.app hl hk hs, hg.2.2.2.2.2.1.mono (by omega), hg.2.2.2.2.2.2⟩, fun V h => ?_, fun V h => ?_⟩
    · have h6 := h.2.2.2.2.2.1
      dsimp only
      unfold gX7_add
      rw [h6.1, if_pos (show nI A.es.length < 8 from nI_lt (b := 8) hl (by omega))]
      rw [wrA_n (by omega) (by omega), Option.bind_some, wA_F, h6.1, wrA_n (by omega) (by omega), Option.bind_some, wA_F, wA_F, h6.1, wrA_n (by omega) (by omega), Option.bind_some, wA_F, wA_F, wA_F, h6.1, qn_b, show nI A.es.length + 1 = nI (A.es.length + 1) from nI_1 _, Option.bind_some, Option.bind_some]
      dsimp only
      rw [if_neg (by decide)]
      generalize hX : wF (wA (wA (wA V (86 + 1) A.es.length (nI k)) (86 + 2) A.es.length (nI s)) (86 + 3) A.es.length (nI (if b = true then 1 else 0))) 86 3 (nI (A.es.length + 1)) = X
      have fX : fr (fun a => 87 ≤ a ∧ a ≤ 89) (fun i k => i = 86 ∧ k = 3) V X := by
        rw [← hX]
        exact (((fr_A _ _ (by omega)).trans (fr_A _ _ (by omega))).trans (fr_A _ _ (by omega))).trans (fr_F _ ⟨rfl, rfl⟩)
      refine tot_some ⟨rfl, h.ex fX (fun a ha => by omega) (fun i k hik => by omega) (h.2.2.2.2.1.cg (fun a _ _ => fr_eqs fX (by omega) (fun k => by omega))) ⟨?_, fun i hi => ?_⟩, fr_lo fX (fun a ha => by omega) (fun i k hik => by omega)⟩
      · rw [← hX, wF_F, if_pos ⟨rfl, rfl⟩]
        simp
      · rw [gd_app, ← hX]
        simp at hi
        by_cases e : i = A.es.length
        · subst e
          try simp (disch := omega) only [wA_A, wF_F, wA_F, wF_A, wA_L, wF_L, wA_G, wF_G, true_and, and_true, and_self, if_true, if_false, if_pos, if_neg]
        · have := h6.2 i (by omega)
          try simp (disch := omega) only [wA_A, wF_F, wA_F, wF_A, wA_L, wF_L, wA_G, wF_G, true_and, and_true, and_self, if_true, if_false, if_pos, if_neg]
          exact this
    · have h6 := h.2.2.2.2.1
      dsimp only
      rw [h6.1, if_neg (show ¬ nI A.es.length = 8 from nI_ne (b := 8) (by omega) (by omega) (by omega))]
      rw [wrA_n (by omega) (by omega), Option.bind_some]
      have a1 : ∀ {X : VT} {a : Nat} {y : Int32}, a ≠ 163 → (wA X a A.es.length y).A 163 0 = X.A 163 0 := fun {X a y} q => by rw [wA_A, if_neg (by omega)]
      rw [a1 (by omega), h6.1, wrA_n (by omega) (by omega), Option.bind_some, a1 (by omega), a1 (by omega), h6.1, wrA_n (by omega) (by omega), Option.bind_some, a1 (by omega), a1 (by omega), a1 (by omega), h6.1, qn_b, show nI A.es.length + 1 = nI (A.es.length + 1) from nI_1 _, Option.bind_some]
      generalize hX : wA (wA (wA (wA V 164 A.es.length (nI k)) 165 A.es.length (nI s)) 166 A.es.length (nI (if b = true then 1 else 0))) 163 0 (nI (A.es.length + 1)) = X
      have fX : fr (fun a => 163 ≤ a ∧ a ≤ 166) nof V X := by
        rw [← hX]
        exact (((fr_A _ _ (by omega)).trans (fr_A _ _ (by omega))).trans (fr_A _ _ (by omega))).trans (fr_A _ _ (by omega))
      have eA : ∀ {a j : Nat}, 163 ≤ a → a ≤ 166 → 8 ≤ j → X.A a j = V.A a j := by
        intro a j _ _ hj
        rw [← hX]
        try simp (disch := omega) only [wA_A, wF_F, wA_F, wF_A, wA_L, wF_L, wA_G, wF_G, true_and, and_true, and_self, if_true, if_false, if_pos, if_neg]
      have eB : ∀ {j : Nat}, 1 ≤ j → X.A 163 j = V.A 163 j := by
        intro j hj
        rw [← hX]
        try simp (disch := omega) only [wA_A, wF_F, wA_F, wF_A, wA_L, wF_L, wA_G, wF_G, true_and, and_true, and_self, if_true, if_false, if_pos, if_neg]
      refine tot_some ⟨rfl, ⟨h.1.cg (fun a _ _ q => fr_eqs fX (by omega) (fun k q => q)), h.2.1.at (fX.2.2.1 167 (by omega)), h.2.2.1.at (fX.2.2.2 137 47 (fun q => q)) (fX.2.2.1 171 (by omega)), h.2.2.2.1.at (fX.2.2.1 160 (by omega)) (fX.2.2.1 161 (by omega)) (fX.2.2.1 162 (by omega)), ⟨?_, fun i hi => ?_⟩, fun k' hk' => ?_, h.2.2.2.2.2.2.at (fX.2.2.2 137 1 (fun q => q)) (fX.2.2.1 138 (by omega))⟩, fun a ha => fr_eqs fX (by omega) (fun k q => q)⟩
      · rw [← hX]
        show (wA _ 163 0 _).A 163 0 = nI (A.es ++ [(k, s, b)]).length
        try simp (disch := omega) only [wA_A, wF_F, wA_F, wF_A, wA_L, wF_L, wA_G, wF_G, true_and, and_true, and_self, if_true, if_false, if_pos, if_neg]
        simp
      · show _ = nI ((A.es ++ [(k, s, b)]).getD i d0).1 ∧ _ = nI ((A.es ++ [(k, s, b)]).getD i d0).2.1 ∧ _ = nI (if ((A.es ++ [(k, s, b)]).getD i d0).2.2 = true then 1 else 0)
        rw [gd_app, ← hX, Nat.mul_zero, Nat.zero_add]
        have hi : i < (A.es ++ [(k, s, b)]).length := hi
        simp at hi
        by_cases e : i = A.es.length
        · subst e
          try simp (disch := omega) only [wA_A, wF_F, wA_F, wF_A, wA_L, wF_L, wA_G, wF_G, true_and, and_true, and_self, if_true, if_false, if_pos, if_neg]
        · have := h6.2 i (by omega)
          rw [Nat.mul_zero, Nat.zero_add] at this
          try simp (disch := omega) only [wA_A, wF_F, wA_F, wF_A, wA_L, wF_L, wA_G, wF_G, true_and, and_true, and_self, if_true, if_false, if_pos, if_neg]
          exact this
      · obtain ⟨m1, m2⟩ := h.2.2.2.2.2.1 k' hk'
        rw [fX.2.2.1 172 (by omega)]
        refine ⟨m1, fun T hT => ?_⟩
        obtain ⟨a1, a2, a3, a4⟩ := m2 T hT
        have gT := (hg.2.2.2.2.2.1 k' T hk' hT).2.2.1
        refine ⟨a1, a2.at (fX.2.2.1 170 (by omega)), a3.at (fX.2.2.1 160 (by omega)) (fX.2.2.1 161 (by omega)) (fX.2.2.1 162 (by omega)), ⟨by rw [eB (by omega)]; exact a4.1, fun i hi => ?_⟩⟩
        rw [eA (by omega) (by omega) (by omega), eA (by omega) (by omega) (by omega), eA (by omega) (by omega) (by omega)]
        exact a4.2 i hi
  · have hl8 : A.es.length = 8 := by omega
    refine ⟨0, A, hg.mono (by omega), fun V h => ?_, fun V h => ?_⟩
    · dsimp only
      unfold gX7_add
      rw [h.2.2.2.2.2.1.1, hl8, if_neg (by decide), Option.bind_some]
      exact tot_some ⟨rfl, h, lo.rf⟩
    · dsimp only
      rw [h.2.2.2.2.1.1, hl8, if_pos (by decide)]
      exact tot_some ⟨rfl, h, hi.rf⟩
theorem c_lcopy {o1 : Nat} (h : LinC V o1 ls) (hl : ls.length ≤ 40) (hN : 1000 < N) (ho : o + 3 ≤ o1 ∨ o1 + 3 ≤ o) : tot (gX2_copy N o o1 V) (fun W => LinC W o ls ∧ fr (fun a => a = o + 1 ∨ a = o + 2) (fun i k => i = o ∧ k = 2) V W) := by
  unfold gX2_copy
  rw [h.1, Option.bind_some]
  have f0 : fr (fun a => a = o + 1 ∨ a = o + 2) (fun i k => i = o ∧ k = 2) V (wF V o 2 (nI ls.length)) := fr_F _ ⟨rfl, rfl⟩
  have l0 : (wF V o 2 (nI ls.length)).F o 2 = nI ls.length := by rw [wF_F, if_pos ⟨rfl, rfl⟩]
  refine loop_T (F := fun w (_ : Unit) k V => gX2_copy_b10 N w o o1 (nI k) V) ls.length (fun k _ W => (∀ j, j < k → W.A (o + 1) j = V.A (o1 + 1) j ∧ W.A (o + 2) j = V.A (o1 + 2) j) ∧ W.F o 2 = nI ls.length ∧ fr (fun a => a = o + 1 ∨ a = o + 2) (fun i k => i = o ∧ k = 2) V W) ?_ ?_ N 0 () _ (by omega) (by omega) ⟨fun j hj => by omega, l0, f0⟩
  · intro w k _ W hk hI hK
    obtain ⟨i1, i2, i3⟩ := hI
    have e1 := i3.2.2.1 (o1 + 1) (by omega)
    have e2 := i3.2.2.1 (o1 + 2) (by omega)
    show tot (gX2_copy_b10 N (w + 1) o o1 (nI k) W) _
    unfold gX2_copy_b10
    rw [i2]
    try simp (disch := omega) only [fa_lit, ne_le, ne_lt, ne_eq', nI_add, pk_mul, pk_sub, rdA_n, wrA_n, rdL_n, wrL_n, nI_one, nI_bit1, nI_bit0, fa_or, fa_and, nI_df, nat31, Option.bind_some, m1_le0, m1_lt0, m1_eq, eq_m1, ite_nI, sub_m, pk_m1', not_lt0]
    rw [if_neg (by omega)]
    refine hK () _ ⟨fun j hj => ?_, i2, (i3.trans (fr_A _ _ (by omega))).trans (fr_A _ _ (by omega))⟩
    by_cases e : j = k
    · subst e
      try simp (disch := omega) only [wA_A, wF_F, wA_F, wF_A, wA_L, wF_L, wA_G, wF_G, true_and, and_true, and_self, if_true, if_false, if_pos, if_neg, e1, e2]
    · have := i1 j (by omega)
      try simp (disch := omega) only [wA_A, wF_F, wA_F, wF_A, wA_L, wF_L, wA_G, wF_G, true_and, and_true, and_self, if_true, if_false, if_pos, if_neg]
      exact this
  · intro w _ W hI
    obtain ⟨i1, i2, i3⟩ := hI
    show tot (gX2_copy_b10 N (w + 1) o o1 (nI ls.length) W) _
    unfold gX2_copy_b10
    rw [i2, if_pos (nI_le (Nat.le_refl _) (by omega))]
    refine tot_some ⟨⟨i2, fun i hi => ?_⟩, i3⟩
    rw [(i1 i hi).1, (i1 i hi).2]
    exact h.2 i hi
theorem c_scopy {o1 : Nat} (h : SeenC V o1 es) (hl : es.length ≤ 8) (hN : 1000 < N) (ho : o + 4 ≤ o1 ∨ o1 + 4 ≤ o) : tot (gX7_copy N o o1 V) (fun W => SeenC W o es ∧ fr (fun a => a = o + 1 ∨ a = o + 2 ∨ a = o + 3) (fun i k => i = o ∧ k = 3) V W) := by
  unfold gX7_copy
  rw [h.1, Option.bind_some]
  have f0 : fr (fun a => a = o + 1 ∨ a = o + 2 ∨ a = o + 3) (fun i k => i = o ∧ k = 3) V (wF V o 3 (nI es.length)) := fr_F _ ⟨rfl, rfl⟩
  have l0 : (wF V o 3 (nI es.length)).F o 3 = nI es.length := by rw [wF_F, if_pos ⟨rfl, rfl⟩]
  refine loop_T (F := fun w (_ : Unit) k V => gX7_copy_b10 N w o o1 (nI k) V) es.length (fun k _ W => (∀ j, j < k → W.A (o + 1) j = V.A (o1 + 1) j ∧ W.A (o + 2) j = V.A (o1 + 2) j ∧ W.A (o + 3) j = V.A (o1 + 3) j) ∧ W.F o 3 = nI es.length ∧ fr (fun a => a = o + 1 ∨ a = o + 2 ∨ a = o + 3) (fun i k => i = o ∧ k = 3) V W) ?_ ?_ N 0 () _ (by omega) (by omega) ⟨fun j hj => by omega, l0, f0⟩
  · intro w k _ W hk hI hK
    obtain ⟨i1, i2, i3⟩ := hI
    have e1 := i3.2.2.1 (o1 + 1) (by omega)
    have e2 := i3.2.2.1 (o1 + 2) (by omega)
    have e3 := i3.2.2.1 (o1 + 3) (by omega)
    have hb := (h.2 k hk).2.2
    show tot (gX7_copy_b10 N (w + 1) o o1 (nI k) W) _
    unfold gX7_copy_b10
    rw [i2]
    try simp (disch := omega) only [fa_lit, ne_le, ne_lt, ne_eq', nI_add, pk_mul, pk_sub, rdA_n, wrA_n, rdL_n, wrL_n, nI_one, nI_bit1, nI_bit0, fa_or, fa_and, nI_df, nat31, Option.bind_some, m1_le0, m1_lt0, m1_eq, eq_m1, ite_nI, sub_m, pk_m1', not_lt0]
    rw [if_neg (by omega)]
    try simp (disch := omega) only [wA_A, wF_F, wA_F, wF_A, wA_L, wF_L, wA_G, wF_G, true_and, and_true, and_self, if_true, if_false, if_pos, if_neg, e3, hb, qn_b]
    refine hK () _ ⟨fun j hj => ?_, i2, ((i3.trans (fr_A _ _ (by omega))).trans (fr_A _ _ (by omega))).trans (fr_A _ _ (by omega))⟩
    by_cases e : j = k
    · subst e
      try simp (disch := omega) only [wA_A, wF_F, wA_F, wF_A, wA_L, wF_L, wA_G, wF_G, true_and, and_true, and_self, if_true, if_false, if_pos, if_neg, e1, e2, hb]
    · have := i1 j (by omega)
      try simp (disch := omega) only [wA_A, wF_F, wA_F, wF_A, wA_L, wF_L, wA_G, wF_G, true_and, and_true, and_self, if_true, if_false, if_pos, if_neg]
      exact this
  · intro w _ W hI
    obtain ⟨i1, i2, i3⟩ := hI
    show tot (gX7_copy_b10 N (w + 1) o o1 (nI es.length) W) _
    unfold gX7_copy_b10
    rw [i2, if_pos (nI_le (Nat.le_refl _) (by omega))]
    refine tot_some ⟨⟨i2, fun i hi => ?_⟩, i3⟩
    rw [(i1 i hi).1, (i1 i hi).2.1, (i1 i hi).2.2]
    exact h.2 i hi
theorem m_llay {f t : Nat} (hf : f < 6) (ht : t < 6) (hft : f ≠ t) (hN : 1000 < N) : tot (gX10_laysLines N (nI f) (nI t) V) (fun W => (∀ j, W.A 160 j = if j = t then V.A 160 f else V.A 160 j) ∧ (∀ j, W.A 161 j = if 40 * t ≤ j ∧ j < 40 * t + 40 then V.A 161 (40 * f + (j - 40 * t)) else V.A 161 j) ∧ (∀ j, W.A 162 j = if 40 * t ≤ j ∧ j < 40 * t + 40 then V.A 162 (40 * f + (j - 40 * t)) else V.A 162 j) ∧ fr (fun a => 160 ≤ a ∧ a ≤ 162) nof V W) := by
  unfold gX10_laysLines
  try simp (disch := omega) only [fa_lit, ne_le, ne_lt, ne_eq', nI_add, pk_mul, pk_sub, rdA_n, wrA_n, rdL_n, wrL_n, nI_one, nI_bit1, nI_bit0, fa_or, fa_and, nI_df, nat31, Option.bind_some, m1_le0, m1_lt0, m1_eq, eq_m1, ite_nI, sub_m, pk_m1', not_lt0]
  refine loop_T (F := fun w (_ : Unit) k V => gX10_laysLines_b14 N w (nI f) (nI t) (nI k) V) 40 (fun k _ W => (∀ j, W.A 160 j = if j = t then V.A 160 f else V.A 160 j) ∧ (∀ j, W.A 161 j = if 40 * t ≤ j ∧ j < 40 * t + k then V.A 161 (40 * f + (j - 40 * t)) else V.A 161 j) ∧ (∀ j, W.A 162 j = if 40 * t ≤ j ∧ j < 40 * t + k then V.A 162 (40 * f + (j - 40 * t)) else V.A 162 j) ∧ fr (fun a => 160 ≤ a ∧ a ≤ 162) nof V W) ?_ ?_ N 0 () _ (by omega) (by omega) ⟨fun j => ?_, fun j => ?_, fun j => ?_, fr_A _ _ (by omega)⟩
  · intro w k _ W hk hI hK
    obtain ⟨i1, i2, i3, i4⟩ := hI
    show tot (gX10_laysLines_b14 N (w + 1) (nI f) (nI t) (nI k) W) _
    unfold gX10_laysLines_b14
    try simp (disch := omega) only [fa_lit, ne_le, ne_lt, ne_eq', nI_add, pk_mul, pk_sub, rdA_n, wrA_n, rdL_n, wrL_n, nI_one, nI_bit1, nI_bit0, fa_or, fa_and, nI_df, nat31, Option.bind_some, m1_le0, m1_lt0, m1_eq, eq_m1, ite_nI, sub_m, pk_m1', not_lt0]
    rw [if_neg (by omega)]
    have r1 := i2 (40 * f + k)
    rw [if_neg (by omega)] at r1
    have r2 := i3 (40 * f + k)
    rw [if_neg (by omega)] at r2
    refine hK () _ ⟨fun j => ?_, fun j => ?_, fun j => ?_, (i4.trans (fr_A _ _ (by omega))).trans (fr_A _ _ (by omega))⟩
    · try simp (disch := omega) only [wA_A, wF_F, wA_F, wF_A, wA_L, wF_L, wA_G, wF_G, true_and, and_true, and_self, if_true, if_false, if_pos, if_neg]
      exact i1 j
    · by_cases e : j = 40 * t + k
      · subst e
        try simp (disch := omega) only [wA_A, wF_F, wA_F, wF_A, wA_L, wF_L, wA_G, wF_G, true_and, and_true, and_self, if_true, if_false, if_pos, if_neg, r1]
        congr 1
        omega
      · have := i2 j
        by_cases e2 : 40 * t ≤ j ∧ j < 40 * t + k
        · rw [if_pos e2] at this
          try simp (disch := omega) only [wA_A, wF_F, wA_F, wF_A, wA_L, wF_L, wA_G, wF_G, true_and, and_true, and_self, if_true, if_false, if_pos, if_neg, this]
        · rw [if_neg e2] at this
          try simp (disch := omega) only [wA_A, wF_F, wA_F, wF_A, wA_L, wF_L, wA_G, wF_G, true_and, and_true, and_self, if_true, if_false, if_pos, if_neg, this]
    · by_cases e : j = 40 * t + k
      · subst e
        try simp (disch := omega) only [wA_A, wF_F, wA_F, wF_A, wA_L, wF_L, wA_G, wF_G, true_and, and_true, and_self, if_true, if_false, if_pos, if_neg, r2]
        congr 1
        omega
      · have := i3 j
        by_cases e2 : 40 * t ≤ j ∧ j < 40 * t + k
        · rw [if_pos e2] at this
          try simp (disch := omega) only [wA_A, wF_F, wA_F, wF_A, wA_L, wF_L, wA_G, wF_G, true_and, and_true, and_self, if_true, if_false, if_pos, if_neg, this]
        · rw [if_neg e2] at this
          try simp (disch := omega) only [wA_A, wF_F, wA_F, wF_A, wA_L, wF_L, wA_G, wF_G, true_and, and_true, and_self, if_true, if_false, if_pos, if_neg, this]
  · intro w _ W hI
    show tot (gX10_laysLines_b14 N (w + 1) (nI f) (nI t) (nI 40) W) _
    unfold gX10_laysLines_b14
    try simp (disch := omega) only [fa_lit, ne_le, ne_lt, ne_eq', nI_add, pk_mul, pk_sub, rdA_n, wrA_n, rdL_n, wrL_n, nI_one, nI_bit1, nI_bit0, fa_or, fa_and, nI_df, nat31, Option.bind_some, m1_le0, m1_lt0, m1_eq, eq_m1, ite_nI, sub_m, pk_m1', not_lt0]
    rw [if_pos (Nat.le_refl _)]
    exact tot_some hI
  · by_cases e : j = t
    · subst e
      try simp (disch := omega) only [wA_A, wF_F, wA_F, wF_A, wA_L, wF_L, wA_G, wF_G, true_and, and_true, and_self, if_true, if_false, if_pos, if_neg]
    · try simp (disch := omega) only [wA_A, wF_F, wA_F, wF_A, wA_L, wF_L, wA_G, wF_G, true_and, and_true, and_self, if_true, if_false, if_pos, if_neg]
  · try simp (disch := omega) only [wA_A, wF_F, wA_F, wF_A, wA_L, wF_L, wA_G, wF_G, true_and, and_true, and_self, if_true, if_false, if_pos, if_neg]
  · try simp (disch := omega) only [wA_A, wF_F, wA_F, wF_A, wA_L, wF_L, wA_G, wF_G, true_and, and_true, and_self, if_true, if_false, if_pos, if_neg]
theorem m_slay {f t : Nat} (hf : f < 5) (ht : t < 5) (hft : f ≠ t) (hN : 1000 < N) : tot (gX10_laysSeen N (nI f) (nI t) V) (fun W => (∀ j, W.A 163 j = if j = t then V.A 163 f else V.A 163 j) ∧ (∀ j, W.A 164 j = if 8 * t ≤ j ∧ j < 8 * t + 8 then V.A 164 (8 * f + (j - 8 * t)) else V.A 164 j) ∧ (∀ j, W.A 165 j = if 8 * t ≤ j ∧ j < 8 * t + 8 then V.A 165 (8 * f + (j - 8 * t)) else V.A 165 j) ∧ (∀ j, W.A 166 j = if 8 * t ≤ j ∧ j < 8 * t + 8 then qnar .boolean (V.A 166 (8 * f + (j - 8 * t))) else V.A 166 j) ∧ fr (fun a => 163 ≤ a ∧ a ≤ 166) nof V W) := by
  unfold gX10_laysSeen
  try simp (disch := omega) only [fa_lit, ne_le, ne_lt, ne_eq', nI_add, pk_mul, pk_sub, rdA_n, wrA_n, rdL_n, wrL_n, nI_one, nI_bit1, nI_bit0, fa_or, fa_and, nI_df, nat31, Option.bind_some, m1_le0, m1_lt0, m1_eq, eq_m1, ite_nI, sub_m, pk_m1', not_lt0]
  refine loop_T (F := fun w (_ : Unit) k V => gX10_laysSeen_b14 N w (nI f) (nI t) (nI k) V) 8 (fun k _ W => (∀ j, W.A 163 j = if j = t then V.A 163 f else V.A 163 j) ∧ (∀ j, W.A 164 j = if 8 * t ≤ j ∧ j < 8 * t + k then V.A 164 (8 * f + (j - 8 * t)) else V.A 164 j) ∧ (∀ j, W.A 165 j = if 8 * t ≤ j ∧ j < 8 * t + k then V.A 165 (8 * f + (j - 8 * t)) else V.A 165 j) ∧ (∀ j, W.A 166 j = if 8 * t ≤ j ∧ j < 8 * t + k then qnar .boolean (V.A 166 (8 * f + (j - 8 * t))) else V.A 166 j) ∧ fr (fun a => 163 ≤ a ∧ a ≤ 166) nof V W) ?_ ?_ N 0 () _ (by omega) (by omega) ⟨fun j => ?_, fun j => ?_, fun j => ?_, fun j => ?_, fr_A _ _ (by omega)⟩
  · intro w k _ W hk hI hK
    obtain ⟨i1, i2, i3, i4, i5⟩ := hI
    show tot (gX10_laysSeen_b14 N (w + 1) (nI f) (nI t) (nI k) W) _
    unfold gX10_laysSeen_b14
    try simp (disch := omega) only [fa_lit, ne_le, ne_lt, ne_eq', nI_add, pk_mul, pk_sub, rdA_n, wrA_n, rdL_n, wrL_n, nI_one, nI_bit1, nI_bit0, fa_or, fa_and, nI_df, nat31, Option.bind_some, m1_le0, m1_lt0, m1_eq, eq_m1, ite_nI, sub_m, pk_m1', not_lt0]
    rw [if_neg (by omega)]
    have r1 := i2 (8 * f + k)
    rw [if_neg (by omega)] at r1
    have r2 := i3 (8 * f + k)
    rw [if_neg (by omega)] at r2
    have r3 := i4 (8 * f + k)
    rw [if_neg (by omega)] at r3
    refine hK () _ ⟨fun j => ?_, fun j => ?_, fun j => ?_, fun j => ?_, ((i5.trans (fr_A _ _ (by omega))).trans (fr_A _ _ (by omega))).trans (fr_A _ _ (by omega))⟩
    · try simp (disch := omega) only [wA_A, wF_F, wA_F, wF_A, wA_L, wF_L, wA_G, wF_G, true_and, and_true, and_self, if_true, if_false, if_pos, if_neg]
      exact i1 j
    · by_cases e : j = 8 * t + k
      · subst e
        try simp (disch := omega) only [wA_A, wF_F, wA_F, wF_A, wA_L, wF_L, wA_G, wF_G, true_and, and_true, and_self, if_true, if_false, if_pos, if_neg, r1]
        congr 1
        omega
      · have := i2 j
        by_cases e2 : 8 * t ≤ j ∧ j < 8 * t + k
        · rw [if_pos e2] at this
          try simp (disch := omega) only [wA_A, wF_F, wA_F, wF_A, wA_L, wF_L, wA_G, wF_G, true_and, and_true, and_self, if_true, if_false, if_pos, if_neg, this]
        · rw [if_neg e2] at this
          try simp (disch := omega) only [wA_A, wF_F, wA_F, wF_A, wA_L, wF_L, wA_G, wF_G, true_and, and_true, and_self, if_true, if_false, if_pos, if_neg, this]
    · by_cases e : j = 8 * t + k
      · subst e
        try simp (disch := omega) only [wA_A, wF_F, wA_F, wF_A, wA_L, wF_L, wA_G, wF_G, true_and, and_true, and_self, if_true, if_false, if_pos, if_neg, r2]
        congr 1
        omega
      · have := i3 j
        by_cases e2 : 8 * t ≤ j ∧ j < 8 * t + k
        · rw [if_pos e2] at this
          try simp (disch := omega) only [wA_A, wF_F, wA_F, wF_A, wA_L, wF_L, wA_G, wF_G, true_and, and_true, and_self, if_true, if_false, if_pos, if_neg, this]
        · rw [if_neg e2] at this
          try simp (disch := omega) only [wA_A, wF_F, wA_F, wF_A, wA_L, wF_L, wA_G, wF_G, true_and, and_true, and_self, if_true, if_false, if_pos, if_neg, this]
    · by_cases e : j = 8 * t + k
      · subst e
        try simp (disch := omega) only [wA_A, wF_F, wA_F, wF_A, wA_L, wF_L, wA_G, wF_G, true_and, and_true, and_self, if_true, if_false, if_pos, if_neg, r3]
        congr 2
        omega
      · have := i4 j
        by_cases e2 : 8 * t ≤ j ∧ j < 8 * t + k
        · rw [if_pos e2] at this
          try simp (disch := omega) only [wA_A, wF_F, wA_F, wF_A, wA_L, wF_L, wA_G, wF_G, true_and, and_true, and_self, if_true, if_false, if_pos, if_neg, this]
        · rw [if_neg e2] at this
          try simp (disch := omega) only [wA_A, wF_F, wA_F, wF_A, wA_L, wF_L, wA_G, wF_G, true_and, and_true, and_self, if_true, if_false, if_pos, if_neg, this]
  · intro w _ W hI
    show tot (gX10_laysSeen_b14 N (w + 1) (nI f) (nI t) (nI 8) W) _
    unfold gX10_laysSeen_b14
    try simp (disch := omega) only [fa_lit, ne_le, ne_lt, ne_eq', nI_add, pk_mul, pk_sub, rdA_n, wrA_n, rdL_n, wrL_n, nI_one, nI_bit1, nI_bit0, fa_or, fa_and, nI_df, nat31, Option.bind_some, m1_le0, m1_lt0, m1_eq, eq_m1, ite_nI, sub_m, pk_m1', not_lt0]
    rw [if_pos (Nat.le_refl _)]
    exact tot_some hI
  · by_cases e : j = t
    · subst e
      try simp (disch := omega) only [wA_A, wF_F, wA_F, wF_A, wA_L, wF_L, wA_G, wF_G, true_and, and_true, and_self, if_true, if_false, if_pos, if_neg]
    · try simp (disch := omega) only [wA_A, wF_F, wA_F, wF_A, wA_L, wF_L, wA_G, wF_G, true_and, and_true, and_self, if_true, if_false, if_pos, if_neg]
  · try simp (disch := omega) only [wA_A, wF_F, wA_F, wF_A, wA_L, wF_L, wA_G, wF_G, true_and, and_true, and_self, if_true, if_false, if_pos, if_neg]
  · try simp (disch := omega) only [wA_A, wF_F, wA_F, wF_A, wA_L, wF_L, wA_G, wF_G, true_and, and_true, and_self, if_true, if_false, if_pos, if_neg]
  · try simp (disch := omega) only [wA_A, wF_F, wA_F, wF_A, wA_L, wF_L, wA_G, wF_G, true_and, and_true, and_self, if_true, if_false, if_pos, if_neg]
end PCalls2
